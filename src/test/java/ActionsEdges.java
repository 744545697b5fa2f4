/** The boundary sentences of promises 13 to 19: the actions. */
final class ActionsEdges {
    private final Edges edges;

    ActionsEdges(Edges edges) {
        this.edges = edges;
    }

    void run() {
        measure();
        drop();
        trust();
        evening();
        survey();
        set();
        undo();
    }

    private void measure() {
        edges.each(this::noSuchSteepleOrTeller, this::threeSteeplesSixTellers, this::shadowRange, this::poolRange,
                this::wordRange, this::kinds, this::argumentOutOfRange, this::heightsInFeet, this::roundedDownAndUp,
                this::belowOneAboveMost, this::numberedByAge, this::sixteen, this::measureNamesFirst);
    }

    private void drop() {
        edges.each(this::noSuchMeasure, this::measuresThen, this::oneLess);
    }

    private void trust() {
        edges.each(this::trustOfNoTeller, this::trustOutOfRange, this::trustInRange, this::trustNamesFirst,
                this::previousTrust);
    }

    private void evening() {
        edges.each(this::trustLost, this::eveningsBecomeOneMore, this::apartByMore, this::byTheNumbers,
                this::withWhatWasLost, this::lesserWeight, this::zeroStaysZero, this::likeWeights);
    }

    private void survey() {
        edges.each(this::surveyOfNoSteeple, this::surveyOutOfRange, this::surveyInRange, this::surveyNamesFirst,
                this::tellThatHeight, this::gainsAndLoses, this::byNumbers, this::allAreGone);
    }

    private void set() {
        edges.each(this::setOutOfRange, this::setWhat, this::settingsInRange, this::previousSetting);
    }

    private void undo() {
        edges.each(this::noneRemembered, this::fourteenStates, this::stillRemembered, this::nothingDifferent,
                this::undoIsNone, this::refusedIsNoAction, this::rememberedBeforeEach, this::everythingButTextAndSlots);
    }

    // ---- promise 13

    private void noSuchSteepleOrTeller() {
        edges.sentence(13, "Throws `IndexOutOfBoundsException` if there is no such steeple or teller");
        for (int s : Edges.outside(0, 2)) {
            edges.refused(Edges.BOUNDS, "steeple " + s, x -> x.measure(s, 0, 2, 1, 1, 0, 0), States.ALL);
        }
        for (int t : Edges.outside(0, 5)) {
            edges.refused(Edges.BOUNDS, "teller " + t, x -> x.measure(0, t, 0, 1, 1, 1, 0), States.ALL);
        }
    }

    private void threeSteeplesSixTellers() {
        edges.sentence(13, "There are 3 steeples and 6 tellers, numbered from 0.");
        for (int s = 0; s <= 2; s++) {
            for (int t = 0; t <= 5; t++) {
                SteepleWords x = new SteepleWords();
                edges.due("measure of " + s + " by " + t, x.measure(s, t, 2, 1, 1, 0, 0), 0);
                edges.due("its steeple", x.measureOf(0, 0), s);
                edges.due("its teller", x.measureOf(0, 1), t);
            }
        }
    }

    private void allowed(int kind, int a, int b, int c, int e) {
        SteepleWords x = new SteepleWords();
        String what = kind + " with " + a + ", " + b + ", " + c + ", " + e;
        edges.due("measure of " + what, x.measure(0, 0, kind, a, b, c, e), 0);
        int[] given = {kind, a, b, c, e};
        for (int i = 0; i < given.length; i++) {
            edges.due("number " + (i + 2) + " of " + what, x.measureOf(0, i + 2), given[i]);
        }
    }

    private void notAllowed(int kind, int a, int b, int c, int e) {
        edges.refused(Edges.ARGUMENT, "measure of " + kind + " with " + a + ", " + b + ", " + c + ", " + e,
                x -> x.measure(0, 0, kind, a, b, c, e), States.ALL);
    }

    /** Each of the four numbers at its ends, and just outside of them while the others are allowed. */
    private void ranges(int kind, int mostA, int mostB) {
        int[] least = {1, 1, 1, 0};
        int[] most = {mostA, mostB, 400, 20};
        allowed(kind, 1, 1, 1, 0);
        allowed(kind, mostA, mostB, 400, 20);
        for (int i = 0; i < 4; i++) {
            int[] given = {2, 3, 100, 5};
            for (int v : new int[] {least[i], least[i] + 1, most[i] - 1, most[i]}) {
                given[i] = v;
                allowed(kind, given[0], given[1], given[2], given[3]);
            }
            for (int v : Edges.outside(least[i], most[i])) {
                given[i] = v;
                notAllowed(kind, given[0], given[1], given[2], given[3]);
            }
        }
    }

    private void shadowRange() {
        edges.sentence(13, "0, a shadow: a stick of a feet (1 to 20) has a shadow of b (1 to 40), the steeple one of c "
                + "(1 to 400), and c may be wrong by e (0 to 20);");
        ranges(0, 20, 40);
    }

    private void poolRange() {
        edges.sentence(13, "1, a pool: the eye is a feet high (1 to 9), b (1 to 60) from the pool, the steeple c (1 to 400) "
                + "from it, and c may be wrong by e (0 to 20);");
        ranges(1, 9, 60);
    }

    private void wordRange() {
        edges.sentence(13, "2, a word: the steeple is a to b feet high (1 to 999, b at least a; c and e are 0).");
        int[][] inside = {{1, 1}, {1, 999}, {999, 999}, {500, 500}, {499, 500}, {998, 999}};
        for (int[] row : inside) {
            allowed(2, row[0], row[1], 0, 0);
        }
        int[][] outside = {{0, 1, 0, 0}, {0, 0, 0, 0}, {-1, 5, 0, 0}, {1, 1000, 0, 0}, {1000, 1000, 0, 0}, {999, 1000, 0, 0},
            {500, 499, 0, 0}, {999, 1, 0, 0}, {2, 1, 0, 0}, {1, 1, 1, 0}, {1, 1, -1, 0}, {1, 1, 0, 1}, {1, 1, 0, -1},
            {1, 1, 1, 1}, {Integer.MIN_VALUE, 1, 0, 0}, {1, Integer.MAX_VALUE, 0, 0}, {1, Integer.MIN_VALUE, 0, 0},
            {Integer.MAX_VALUE, Integer.MAX_VALUE, 0, 0}, {1, 1, Integer.MAX_VALUE, 0}, {1, 1, 0, Integer.MIN_VALUE}};
        for (int[] row : outside) {
            notAllowed(2, row[0], row[1], row[2], row[3]);
        }
    }

    private void kinds() {
        edges.sentence(13, "- `kind`: 0 to 2");
        allowed(0, 1, 1, 1, 0);
        allowed(2, 1, 1, 0, 0);
        for (int kind : Edges.outside(0, 2)) {
            notAllowed(kind, 1, 1, 1, 0);
            notAllowed(kind, 1, 1, 0, 0);
        }
    }

    private void argumentOutOfRange() {
        edges.sentence(13, "Throws `IllegalArgumentException` if another argument is out of its range");
        // What one kind allows and another one does not.
        allowed(0, 10, 1, 1, 0);
        notAllowed(1, 10, 1, 1, 0);
        allowed(1, 1, 41, 1, 0);
        notAllowed(0, 1, 41, 1, 0);
        allowed(2, 21, 61, 0, 0);
        notAllowed(0, 21, 1, 1, 0);
        notAllowed(1, 1, 61, 1, 0);
        notAllowed(0, 1, 1, 0, 0);
        notAllowed(1, 1, 1, 0, 0);
    }

    private void tells(int kind, int a, int b, int c, int e, int least, int greatest) {
        SteepleWords x = new SteepleWords();
        x.measure(1, 4, kind, a, b, c, e);
        String what = kind + " with " + a + ", " + b + ", " + c + ", " + e;
        edges.due("least height of " + what, x.measureOf(0, 7), least);
        edges.due("greatest height of " + what, x.measureOf(0, 8), greatest);
    }

    private void heightsInFeet() {
        edges.sentence(13, "heights are in feet, 1 to 999.");
        tells(2, 1, 1, 0, 0, 1, 1);
        tells(2, 999, 999, 0, 0, 999, 999);
        tells(2, 1, 999, 0, 0, 1, 999);
        tells(0, 9, 1, 111, 0, 999, 999);
        tells(1, 9, 1, 111, 0, 999, 999);
        tells(0, 1, 40, 40, 0, 1, 1);
        tells(1, 1, 60, 60, 0, 1, 1);
    }

    private void roundedDownAndUp() {
        edges.sentence(13, "Of the kinds 0 and 1 the least height is a * (c - e) / b, rounded down, the greatest one "
                + "a * (c + e) / b, rounded up; of the kind 2 they are a and b.");
        for (int kind = 0; kind <= 1; kind++) {
            tells(kind, 3, 2, 20, 0, 30, 30);
            tells(kind, 3, 2, 21, 0, 31, 32);
            tells(kind, 3, 2, 21, 1, 30, 33);
            tells(kind, 5, 6, 109, 0, 90, 91);
            tells(kind, 5, 6, 108, 0, 90, 90);
            tells(kind, 5, 6, 107, 0, 89, 90);
            tells(kind, 5, 6, 110, 3, 89, 95);
            tells(kind, 7, 1, 100, 20, 560, 840);
            tells(kind, 9, 40, 400, 20, 85, 95);
            tells(kind, 1, 3, 8, 2, 2, 4);
        }
        tells(2, 17, 23, 0, 0, 17, 23);
    }

    private void belowOneAboveMost() {
        edges.sentence(13, "If such a height is below 1 or above 999, it is 1 or 999 instead.");
        for (int kind = 0; kind <= 1; kind++) {
            tells(kind, 1, 1, 5, 4, 1, 9);
            tells(kind, 1, 1, 5, 5, 1, 10);
            tells(kind, 1, 1, 5, 6, 1, 11);
            tells(kind, 9, 1, 1, 20, 1, 189);
            tells(kind, 1, 40, 39, 0, 1, 1);
            tells(kind, 1, 2, 1, 2, 1, 2);
            tells(kind, 9, 1, 111, 0, 999, 999);
            tells(kind, 8, 1, 125, 0, 999, 999);
            tells(kind, 8, 1, 125, 1, 992, 999);
            tells(kind, 9, 1, 110, 1, 981, 999);
            tells(kind, 9, 1, 112, 1, 999, 999);
            tells(kind, 9, 1, 113, 1, 999, 999);
            tells(kind, 9, 1, 400, 20, 999, 999);
        }
        tells(0, 14, 3, 214, 0, 998, 999);
        tells(0, 19, 5, 263, 0, 999, 999);
        tells(0, 20, 1, 1, 20, 1, 420);
    }

    private void numberedByAge() {
        edges.sentence(13, "There are at most 16 measures, numbered from 0 by age;");
        SteepleWords x = new SteepleWords();
        for (int k = 0; k < 16; k++) {
            edges.due("its number", x.measure(k % 3, k % 6, 2, 100 - k, 100 + k, 0, 0), k);
        }
        for (int k = 0; k < 16; k++) {
            edges.due("least height of " + k, x.measureOf(k, 7), 100 - k);
        }
    }

    private void sixteen() {
        edges.sentence(13, "Throws `IllegalStateException` if there are 16");
        for (int kind = 0; kind <= 2; kind++) {
            int of = kind;
            int c = kind == 2 ? 0 : 1;
            edges.refused(Edges.STATE, "the 17th, of kind " + kind, x -> x.measure(0, 0, of, 1, 1, c, 0), States.FULL,
                    States::spread, States::together);
        }
        SteepleWords x = States.FULL.object();
        x.drop(7);
        edges.due("there are 15", x.measure(2, 5, 2, 1, 1, 0, 0), 15);
        SteepleWords y = States.together();
        y.survey(1, 95);
        edges.due("there is none", y.measure(2, 5, 2, 1, 1, 0, 0), 0);
    }

    private void measureNamesFirst() {
        edges.sentence(13, "If several exceptions apply to a call, the one that its description names first is thrown.");
        edges.refused(Edges.BOUNDS, "steeple 3 and kind 3", x -> x.measure(3, 0, 3, 0, 0, 0, 0), States.ALL);
        edges.refused(Edges.BOUNDS, "teller 6 and kind -1", x -> x.measure(0, 6, -1, 0, 0, 0, 0), States.ALL);
        edges.refused(Edges.BOUNDS, "steeple -1, with 16", x -> x.measure(-1, 0, 2, 1, 1, 0, 0), States.FULL);
        edges.refused(Edges.BOUNDS, "teller -1, with 16", x -> x.measure(0, -1, 2, 1, 1, 0, 0), States.FULL);
        edges.refused(Edges.ARGUMENT, "kind 3, with 16", x -> x.measure(0, 0, 3, 1, 1, 0, 0), States.FULL);
        edges.refused(Edges.ARGUMENT, "b below a, with 16", x -> x.measure(0, 0, 2, 2, 1, 0, 0), States.FULL);
    }

    // ---- promise 14

    private void noSuchMeasure() {
        edges.sentence(14, "Throws `IndexOutOfBoundsException` if there is no such measure");
        for (int k : new int[] {-1, 16, Integer.MIN_VALUE, Integer.MAX_VALUE}) {
            edges.refused(Edges.BOUNDS, "drop(" + k + ")", x -> x.drop(k), States.ALL);
        }
        edges.refused(Edges.BOUNDS, "drop behind the last", x -> x.drop(x.about(0)), States.ALL);
        edges.refused(Edges.BOUNDS, "drop(0) of none", x -> x.drop(0), States.FRESH);
        edges.due("drop of the last", States.ODD.object().drop(1), 1);
        edges.due("drop of the first", States.ODD.object().drop(0), 1);
    }

    private void measuresThen() {
        edges.sentence(14, "Returns how many measures there are then.");
        SteepleWords x = States.spread();
        for (int count = 15; count >= 0; count--) {
            edges.due("drop(0)", x.drop(0), count);
        }
        SteepleWords y = States.spread();
        for (int count = 15; count >= 0; count--) {
            edges.due("drop of the last", y.drop(count), count);
        }
    }

    private void oneLess() {
        edges.sentence(14, "when one is gone, those behind it get numbers that are 1 less.");
        for (int gone = 0; gone < 16; gone++) {
            SteepleWords x = States.spread();
            x.drop(gone);
            for (int k = 0; k < 15; k++) {
                int was = k < gone ? k : k + 1;
                edges.due("without " + gone + ": least height of " + k, x.measureOf(k, 7), 1 + 50 * was);
                edges.due("without " + gone + ": teller of " + k, x.measureOf(k, 1), was % 6);
            }
        }
    }

    // ---- promise 15

    private void trustOfNoTeller() {
        edges.sentence(15, "Throws `IndexOutOfBoundsException` if there is no such teller");
        for (int t : Edges.outside(0, 5)) {
            edges.refused(Edges.BOUNDS, "trust(" + t + ", 5)", x -> x.trust(t, 5), States.ALL);
        }
        edges.due("trust(0, 1)", new SteepleWords().trust(0, 1), 5);
        edges.due("trust(5, 1)", new SteepleWords().trust(5, 1), 5);
    }

    private void trustOutOfRange() {
        edges.sentence(15, "Throws `IllegalArgumentException` if v is out of range");
        for (int v : Edges.outside(0, 9)) {
            edges.refused(Edges.ARGUMENT, "trust(0, " + v + ")", x -> x.trust(0, v), States.ALL);
            edges.refused(Edges.ARGUMENT, "trust(5, " + v + ")", x -> x.trust(5, v), States.ALL);
        }
    }

    private void trustInRange() {
        edges.sentence(15, "- `v`: 0 to 9");
        for (int t = 0; t <= 5; t++) {
            for (int v = 0; v <= 9; v++) {
                SteepleWords x = new SteepleWords();
                edges.due("trust(" + t + ", " + v + ")", x.trust(t, v), 5);
                for (int other = 0; other <= 5; other++) {
                    edges.due("trust of " + other, x.tellerOf(other, 0), other == t ? v : 5);
                }
            }
        }
    }

    private void trustNamesFirst() {
        edges.sentence(15, "If several exceptions apply to a call, the one that its description names first is thrown.");
        edges.refused(Edges.BOUNDS, "trust(6, 10)", x -> x.trust(6, 10), States.ALL);
        edges.refused(Edges.BOUNDS, "trust(-1, -1)", x -> x.trust(-1, -1), States.ALL);
    }

    private void previousTrust() {
        edges.sentence(15, "Returns the previous trust.");
        SteepleWords x = new SteepleWords();
        edges.due("at first", x.trust(3, 0), 5);
        edges.due("the least", x.trust(3, 9), 0);
        edges.due("the greatest", x.trust(3, 9), 9);
        edges.due("the same", x.trust(3, 4), 9);
    }

    // ---- promise 16

    /** Words of one steeple: each row is a teller, a least and a greatest height. */
    private static SteepleWords words(int[][] rows, int... trusts) {
        SteepleWords x = new SteepleWords();
        for (int[] row : rows) {
            States.word(x, 0, row[0], row[1], row[2]);
        }
        for (int t = 0; t < trusts.length; t++) {
            x.trust(t, trusts[t]);
        }
        return x;
    }

    private void trustLost() {
        edges.sentence(16, "Returns the trust that is lost in it.");
        edges.due("without measures", new SteepleWords().evening(), 0);
        SteepleWords x = States.spread();
        x.trust(0, 9);
        // The 9 beat the five others in all of 39 pairs; what is lost besides is among the others.
        int others = 0;
        int lost = x.evening();
        for (int t = 1; t <= 5; t++) {
            others += 5 - x.tellerOf(t, 0);
        }
        edges.due("sixteen measures", lost, others);
        edges.due("the greatest trust is kept", x.tellerOf(0, 0), 9);
        int second = x.evening();
        edges.due("the second evening's alone", x.about(7), lost + second);
    }

    private void eveningsBecomeOneMore() {
        edges.sentence(16, "(the evenings are 0 at first, and become 1 more)");
        SteepleWords x = new SteepleWords();
        x.evening();
        edges.due("without measures", x.about(2), 1);
        SteepleWords y = States.spread();
        y.evening();
        edges.due("with sixteen", y.about(2), 1);
        y.evening();
        edges.due("once more", y.about(2), 2);
    }

    private void apartByMore() {
        edges.sentence(16, "all pairs of measures that quarrel, and are apart by more than setting 1, are gone through");
        for (int feet : new int[] {0, 1, 5, 49, 50}) {
            SteepleWords x = words(new int[][] {{0, 100, 110}, {1, 110 + feet, 300}}, 5, 6);
            x.set(1, feet);
            edges.due("apart by " + feet, x.evening(), 0);
            SteepleWords y = words(new int[][] {{0, 100, 110}, {1, 111 + feet, 300}}, 5, 6);
            y.set(1, feet);
            edges.due("apart by " + (feet + 1), y.evening(), 1);
        }
        edges.due("one teller", words(new int[][] {{0, 100, 100}, {0, 200, 200}}).evening(), 0);
        SteepleWords z = words(new int[][] {{0, 100, 100}}, 4);
        States.word(z, 1, 1, 200, 200);
        edges.due("two steeples", z.evening(), 0);
    }

    private void byTheNumbers() {
        edges.sentence(16, "by the first number, of like ones by the second (greater) one:");
        // Of like first numbers: 0 and 1 are alike while 2 has not yet beaten 0.
        SteepleWords x = words(new int[][] {{0, 100, 100}, {1, 200, 200}, {2, 300, 300}}, 5, 5, 6);
        edges.due("0 with 1 ahead of 0 with 2", x.evening(), 2);
        edges.due("trust of 0", x.tellerOf(0, 0), 4);
        edges.due("trust of 1", x.tellerOf(1, 0), 4);
        // 0 with 3 and 1 with 2 are the only pairs that matter: the teller of 0 and 1 loses in both if 0 is first.
        SteepleWords y = words(new int[][] {{0, 100, 100}, {0, 300, 300}, {2, 50, 150}, {1, 120, 300}}, 5, 6, 5);
        edges.due("0 with 3 ahead of 1 with 2", y.evening(), 2);
        edges.due("trust of the teller of both", y.tellerOf(0, 0), 3);
        // Here the teller of 2 and 3 does.
        SteepleWords z = words(new int[][] {{1, 100, 200}, {2, 150, 300}, {0, 50, 140}, {0, 210, 300}}, 5, 6, 5);
        edges.due("0 with 3 ahead of 1 with 2, the lesser behind", z.evening(), 2);
        edges.due("trust of the teller of both", z.tellerOf(0, 0), 3);
    }

    private void withWhatWasLost() {
        edges.sentence(16, "the teller of the measure with the lesser weight (with the trust that was lost in this evening so "
                + "far) loses 1 trust");
        SteepleWords x = words(new int[][] {{0, 100, 100}, {2, 300, 300}, {1, 200, 200}}, 5, 5, 6);
        edges.due("0 loses to 2, then is less than 1", x.evening(), 3);
        edges.due("trust of 0", x.tellerOf(0, 0), 3);
        edges.due("trust of 1, beaten by 2", x.tellerOf(1, 0), 4);
        edges.due("trust of 2", x.tellerOf(2, 0), 6);
        // 1 begins with more than 2, but has lost to 0 when it is their turn.
        SteepleWords y = words(new int[][] {{0, 100, 100}, {1, 200, 200}, {2, 90, 110}}, 9, 6, 5);
        edges.due("6 become 5, which are no more than 5", y.evening(), 1);
        edges.due("trust of 1", y.tellerOf(1, 0), 5);
        edges.due("trust of 2", y.tellerOf(2, 0), 5);
    }

    private void lesserWeight() {
        edges.sentence(16, "of both the teller of the measure with the lesser weight");
        for (int more = 0; more <= 5; more++) {
            for (int trust = 1; trust <= 7; trust++) {
                SteepleWords x = words(new int[][] {{0, 300, 300}}, 2, trust);
                x.measure(0, 1, more % 2, 1, 1, 100, 0);
                x.set(0, more);
                x.evening();
                edges.due("word of 2", x.tellerOf(0, 0), 2 < trust + more ? 1 : 2);
                edges.due("shadow or pool", x.tellerOf(1, 0), trust + more < 2 ? trust - 1 : trust);
            }
        }
    }

    private void zeroStaysZero() {
        edges.sentence(16, "loses 1 trust (0 stays 0)");
        for (int trust = 0; trust <= 2; trust++) {
            SteepleWords x = words(new int[][] {{0, 100, 100}, {1, 200, 200}}, trust, 9);
            edges.due("from " + trust, x.evening(), trust == 0 ? 0 : 1);
            edges.due("trust then", x.tellerOf(0, 0), trust == 0 ? 0 : trust - 1);
        }
        SteepleWords y = words(new int[][] {{0, 100, 100}, {0, 100, 100}, {0, 100, 100}, {1, 200, 200}}, 2, 9);
        edges.due("three pairs, but 2 to lose", y.evening(), 2);
        edges.due("trust then", y.tellerOf(0, 0), 0);
        edges.due("lost so far", y.about(7), 2);
    }

    private void likeWeights() {
        edges.sentence(16, "with like weights nobody does.");
        for (int trust = 0; trust <= 9; trust++) {
            SteepleWords x = words(new int[][] {{0, 100, 100}, {1, 200, 200}}, trust, trust);
            edges.due("both with " + trust, x.evening(), 0);
            edges.due("both keep it", x.about(6), 20 + 2 * trust);
        }
        SteepleWords y = words(new int[][] {{0, 300, 300}}, 6);
        y.measure(0, 1, 0, 1, 1, 100, 0);
        edges.due("a word of 6 and a shadow of 5 and 1", y.evening(), 0);
    }

    // ---- promise 17

    private void surveyOfNoSteeple() {
        edges.sentence(17, "Throws `IndexOutOfBoundsException` if there is no such steeple");
        for (int s : Edges.outside(0, 2)) {
            edges.refused(Edges.BOUNDS, "survey(" + s + ", 100)", x -> x.survey(s, 100), States.ALL);
        }
        edges.due("survey(0, 400)", States.ODD.object().survey(0, 400), 0);
        edges.due("survey(2, 400)", States.ODD.object().survey(2, 400), 1);
    }

    private void surveyOutOfRange() {
        edges.sentence(17, "Throws `IllegalArgumentException` if h is out of range");
        for (int h : Edges.outside(1, 999)) {
            edges.refused(Edges.ARGUMENT, "survey(0, " + h + ")", x -> x.survey(0, h), States.ALL);
            edges.refused(Edges.ARGUMENT, "survey(2, " + h + ")", x -> x.survey(2, h), States.ALL);
        }
    }

    private void surveyInRange() {
        edges.sentence(17, "- `h`: its height, 1 to 999");
        for (int h : new int[] {1, 2, 998, 999}) {
            SteepleWords x = words(new int[][] {{0, 1, 1}, {1, 999, 999}, {2, 1, 999}});
            edges.due("survey(0, " + h + ")", x.survey(0, h), h == 1 || h == 999 ? 2 : 1);
            edges.due("its height", x.steepleOf(0, 1), h);
        }
    }

    private void surveyNamesFirst() {
        edges.sentence(17, "If several exceptions apply to a call, the one that its description names first is thrown.");
        edges.refused(Edges.BOUNDS, "survey(3, 1000)", x -> x.survey(3, 1000), States.ALL);
        edges.refused(Edges.BOUNDS, "survey(-1, 0)", x -> x.survey(-1, 0), States.ALL);
    }

    private void tellThatHeight() {
        edges.sentence(17, "Returns how many of its measures tell that height.");
        edges.due("without measures", new SteepleWords().survey(0, 95), 0);
        edges.due("all sixteen", States.together().survey(1, 95), 16);
        edges.due("of another steeple", States.together().survey(0, 95), 0);
        edges.due("none of sixteen", States.spread().survey(0, 11), 0);
        int[][] counts = {{89, 0}, {90, 1}, {99, 1}, {100, 2}, {101, 1}, {110, 1}, {111, 0}};
        for (int[] row : counts) {
            SteepleWords x = words(new int[][] {{0, 90, 100}, {0, 100, 110}});
            edges.due("90 to 100 and 100 to 110: " + row[0], x.survey(0, row[0]), row[1]);
        }
    }

    private void gainsAndLoses() {
        edges.sentence(17, "was right, and gains 1 trust (9 stays 9), otherwise was wrong, and loses 1 (0 stays 0).");
        for (int trust = 0; trust <= 9; trust++) {
            SteepleWords x = words(new int[][] {{0, 90, 100}, {1, 101, 110}}, trust, trust);
            x.survey(0, 100);
            edges.due("right, from " + trust, x.tellerOf(0, 0), trust == 9 ? 9 : trust + 1);
            edges.due("wrong, from " + trust, x.tellerOf(1, 0), trust == 0 ? 0 : trust - 1);
            edges.due("how often right", x.tellerOf(0, 2), 1);
            edges.due("how often wrong", x.tellerOf(1, 3), 1);
            edges.due("without a measure", x.tellerOf(2, 0), 5);
        }
        SteepleWords y = States.together();
        y.survey(1, 95);
        edges.due("right eight times, from 5", y.tellerOf(0, 0), 9);
        SteepleWords z = States.together();
        z.survey(1, 999);
        edges.due("wrong eight times, from 5", z.tellerOf(1, 0), 0);
    }

    private void byNumbers() {
        edges.sentence(17, "Its measures are gone through by numbers:");
        int[][] right = {{0, 50, 50}, {0, 60, 60}};
        int[][] wrong = {{0, 60, 60}, {0, 50, 50}};
        int[][] rows = {{9, 8, 9}, {8, 8, 8}, {0, 0, 1}, {1, 1, 1}, {5, 5, 5}};
        for (int[] row : rows) {
            SteepleWords x = words(right, row[0]);
            x.survey(0, 50);
            edges.due("right, then wrong, from " + row[0], x.tellerOf(0, 0), row[1]);
            SteepleWords y = words(wrong, row[0]);
            y.survey(0, 50);
            edges.due("wrong, then right, from " + row[0], y.tellerOf(0, 0), row[2]);
        }
    }

    private void allAreGone() {
        edges.sentence(17, "Then all measures of this steeple are gone.");
        SteepleWords x = new SteepleWords();
        for (int i = 0; i < 16; i++) {
            States.word(x, i % 3, i % 6, 1 + i, 500);
        }
        x.survey(0, 500);
        edges.due("ten are left", x.about(0), 10);
        for (int k = 0; k < 10; k++) {
            int was = k / 2 * 3 + 1 + k % 2;
            edges.due("steeple of " + k, x.measureOf(k, 0), was % 3);
            edges.due("least height of " + k, x.measureOf(k, 7), 1 + was);
        }
        x.survey(2, 1);
        edges.due("five are left", x.about(0), 5);
        edges.due("those of 1 alone", x.steepleOf(1, 0), 5);
        x.survey(1, 1);
        edges.due("none is left", x.about(0), 0);
        x.survey(1, 1);
        edges.due("none is left", x.about(0), 0);
    }

    // ---- promise 18

    private void setOutOfRange() {
        edges.sentence(18, "Throws `IllegalArgumentException` if what or v is out of range");
        for (int what : Edges.outside(0, 1)) {
            edges.refused(Edges.ARGUMENT, "set(" + what + ", 1)", x -> x.set(what, 1), States.ALL);
            edges.refused(Edges.ARGUMENT, "set(" + what + ", -1)", x -> x.set(what, -1), States.ALL);
        }
        for (int v : Edges.outside(0, 5)) {
            edges.refused(Edges.ARGUMENT, "set(0, " + v + ")", x -> x.set(0, v), States.ALL);
        }
        for (int v : Edges.outside(0, 50)) {
            edges.refused(Edges.ARGUMENT, "set(1, " + v + ")", x -> x.set(1, v), States.ALL);
            edges.refused(Edges.ARGUMENT, "set(0, " + v + ")", x -> x.set(0, v), States.ALL);
        }
    }

    private void setWhat() {
        edges.sentence(18, "- `what`: 0 or 1");
        SteepleWords x = new SteepleWords();
        x.set(0, 4);
        edges.due("setting(0)", x.setting(0), 4);
        edges.due("setting(1)", x.setting(1), 5);
        x.set(1, 33);
        edges.due("setting(0)", x.setting(0), 4);
        edges.due("setting(1)", x.setting(1), 33);
    }

    private void settingsInRange() {
        edges.sentence(18, "0: the weight of shadows and pools, 0 to 5, at first 1; 1: the feet by which quarrels do not "
                + "matter, 0 to 50, at first 5.");
        for (int what = 0; what <= 1; what++) {
            SteepleWords x = new SteepleWords();
            for (int v = 0; v <= (what == 0 ? 5 : 50); v++) {
                x.set(what, v);
                edges.due("setting(" + what + ")", x.setting(what), v);
            }
        }
    }

    private void previousSetting() {
        edges.sentence(18, "Returns the previous one.");
        SteepleWords x = new SteepleWords();
        edges.due("set(0, 5)", x.set(0, 5), 1);
        edges.due("set(0, 0)", x.set(0, 0), 5);
        edges.due("set(0, 0)", x.set(0, 0), 0);
        edges.due("set(1, 50)", x.set(1, 50), 5);
        edges.due("set(1, 0)", x.set(1, 0), 50);
        edges.due("set(1, 0)", x.set(1, 0), 0);
    }

    // ---- promise 19

    private static SteepleWords actions(int count) {
        SteepleWords x = new SteepleWords();
        for (int v = 1; v <= count; v++) {
            x.set(1, v);
        }
        return x;
    }

    private static SteepleWords undone(int actions, int undone) {
        SteepleWords x = actions(actions);
        for (int i = 0; i < undone; i++) {
            x.undo();
        }
        return x;
    }

    private static SteepleWords restored() {
        SteepleWords x = States.RICH.object();
        x.restore(1);
        return x;
    }

    private void noneRemembered() {
        edges.sentence(19, "Throws `IllegalStateException` if none is remembered");
        edges.refused(Edges.STATE, "undo() of a new object", SteepleWords::undo, States.FRESH);
        edges.refused(Edges.STATE, "undo() behind restore()", SteepleWords::undo, ActionsEdges::restored);
        edges.refused(Edges.STATE, "undo() once too often", SteepleWords::undo, () -> undone(1, 1));
        edges.refused(Edges.STATE, "undo() once too often", SteepleWords::undo, () -> undone(14, 14));
        edges.refused(Edges.STATE, "undo() once too often", SteepleWords::undo, () -> undone(15, 14));
    }

    private void fourteenStates() {
        edges.sentence(19, "At most 14 states are remembered; when one more is remembered, the oldest one is forgotten.");
        for (int count : new int[] {1, 13, 14, 15, 16, 27, 28, 29, 42, 43}) {
            SteepleWords x = actions(count);
            int remembered = Math.min(14, count);
            for (int undone = 1; undone <= remembered; undone++) {
                edges.due(count + " actions: undo()", x.undo(), remembered - undone);
                edges.due("the setting then", x.setting(1), count == undone ? 5 : count - undone);
            }
            edges.isTrue("the oldest ones are forgotten", Check.outcome(x::undo).equals("java.lang.IllegalStateException"));
        }
    }

    private void stillRemembered() {
        edges.sentence(19, "Returns how many states are still remembered.");
        edges.due("1 action", actions(1).undo(), 0);
        edges.due("2 actions", actions(2).undo(), 1);
        edges.due("14 actions", actions(14).undo(), 13);
        edges.due("15 actions", actions(15).undo(), 13);
        // Taken back half, then acted on: the ring is entered and left at other places.
        SteepleWords x = undone(20, 7);
        for (int v = 31; v <= 40; v++) {
            x.set(1, v);
        }
        for (int left = 13; left >= 0; left--) {
            edges.due("undo()", x.undo(), left);
            edges.due("the setting then", x.setting(1), left > 4 ? 26 + left : left == 4 ? 13 : 9 + left);
        }
    }

    private void nothingDifferent() {
        edges.sentence(19, "Each call of one of them that does not throw an exception is an action, also if nothing becomes "
                + "different");
        Edges.Act[] acts = {x -> x.set(0, 1), x -> x.set(1, 5), x -> x.trust(0, 5), x -> x.trust(5, 5)};
        for (Edges.Act act : acts) {
            SteepleWords x = new SteepleWords();
            x.evening();
            act.on(x);
            edges.due("undo()", x.undo(), 1);
            edges.due("the evening is still there", x.about(2), 1);
            edges.due("undo()", x.undo(), 0);
            edges.due("the evening is taken back", x.about(2), 0);
        }
        SteepleWords y = new SteepleWords();
        y.survey(0, 7);
        y.survey(0, 7);
        edges.due("undo() of a survey of nothing", y.undo(), 1);
    }

    private void undoIsNone() {
        edges.sentence(19, "(undo is none)");
        SteepleWords x = actions(3);
        edges.due("undo()", x.undo(), 2);
        edges.due("undo() does not take undo back", x.undo(), 1);
        edges.due("the setting then", x.setting(1), 1);
        edges.due("undo()", x.undo(), 0);
        edges.due("the setting at first", x.setting(1), 5);
    }

    private void refusedIsNoAction() {
        edges.sentence(19, "A call that throws an exception changes nothing.");
        Edges.Act[] acts = {x -> x.measure(3, 0, 2, 1, 1, 0, 0), x -> x.measure(0, 0, 2, 2, 1, 0, 0), x -> x.drop(1),
            x -> x.trust(6, 0), x -> x.trust(0, 10), x -> x.survey(3, 1), x -> x.survey(0, 0), x -> x.set(2, 0),
            x -> x.set(0, 6), x -> x.about(10), x -> x.restore(0), x -> x.save(2), x -> x.load(), x -> x.append(-1)};
        for (int i = 0; i < acts.length; i++) {
            Edges.Act act = acts[i];
            SteepleWords x = new SteepleWords();
            States.word(x, 0, 0, 10, 20);
            edges.isTrue("call " + i + " throws", !Check.outcome(() -> act.on(x)).startsWith("="));
            edges.due("undo() takes the measure back", x.undo(), 0);
            edges.due("it is gone", x.about(0), 0);
        }
        SteepleWords full = States.spread();
        edges.isTrue("the 17th throws", !Check.outcome(() -> full.measure(0, 0, 2, 1, 1, 0, 0)).startsWith("="));
        full.undo();
        edges.due("undo() takes the 16th back", full.about(0), 15);
    }

    // Each action with arguments that all states allow, but for a measure where there are 16, and a drop of none.
    private static final Edges.Act[] ACTIONS = {x -> x.measure(1, 1, 2, 5, 6, 0, 0), x -> x.drop(0), x -> x.trust(0, 0),
        x -> x.evening(), x -> x.survey(0, 95), x -> x.survey(2, 95), x -> x.set(0, 0), x -> x.set(1, 50)};

    private void rememberedBeforeEach() {
        edges.sentence(19, "Before each action, the state is remembered.");
        String before = Telling.of(States.RICH.object());
        for (int i = 0; i < ACTIONS.length; i++) {
            SteepleWords x = States.RICH.object();
            ACTIONS[i].on(x);
            edges.isTrue("action " + i + " changes something", !Telling.of(x).equals(before));
            SteepleWords y = States.RICH.object();
            ACTIONS[i].on(y);
            edges.due("undo() of action " + i, y.undo(), 13);
            edges.isTrue("all is as before action " + i, Telling.of(y).equals(before));
        }
    }

    private void everythingButTextAndSlots() {
        edges.sentence(19, "change the state, which consists of everything but the text and the save slots.");
        for (int i = 0; i < ACTIONS.length; i++) {
            edges.keepsTextAndSlots("action " + i, ACTIONS[i], States.ALL);
            Edges.Act action = ACTIONS[i];
            edges.keepsTextAndSlots("undo() of action " + i, x -> action.on(x) + x.undo(), States.RICH);
        }
        edges.keepsTextAndSlots("undo()", SteepleWords::undo, States.WITH_MEASURES);
        edges.keepsTextAndSlots("undo() twice", x -> x.undo() + x.undo(), States.WITH_MEASURES);
    }
}

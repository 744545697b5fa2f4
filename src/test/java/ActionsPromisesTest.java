/** Promises 13 to 19 and 25 to 28: actions, scripts, simulations and slots, worked out by hand from the document. */
public final class ActionsPromisesTest {
    private static final Check CHECK = new Check("ActionsPromisesTest");
    private static final int NONE = SteepleWords.NONE;
    private static final int[] FAR = {Integer.MIN_VALUE, -1, 1000, Integer.MAX_VALUE};

    public static void main(String[] args) {
        heights();
        measureWrongly();
        sixteen();
        drop();
        trust();
        evening();
        eveningGoesOnWithWhatIsLost();
        survey();
        set();
        undo();
        undoOfEach();
        undoOfOthers();
        scripts();
        scriptsThatAsk();
        wrongScripts();
        simulate();
        slots();
        slotsKeep();
        CHECK.end();
    }

    private static void due(String what, long got, long want) {
        CHECK.due(what, got, want);
    }

    private static void word(SteepleWords x, int s, int t, int least, int greatest) {
        x.measure(s, t, 2, least, greatest, 0, 0);
    }

    private static void told(int kind, int a, int b, int c, int e, int least, int greatest) {
        SteepleWords x = new SteepleWords();
        due("13: measure", x.measure(2, 3, kind, a, b, c, e), 0);
        String what = "13: " + kind + " with " + a + ", " + b + ", " + c + ", " + e;
        due(what + ": least", x.measureOf(0, 7), least);
        due(what + ": greatest", x.measureOf(0, 8), greatest);
        int[] given = {2, 3, kind, a, b, c, e};
        for (int i = 0; i < given.length; i++) {
            due(what + ": number " + i, x.measureOf(0, i), given[i]);
        }
        due("13: it can be undone", x.undo(), 0);
    }

    private static void heights() {
        told(0, 6, 8, 120, 2, 88, 92);
        told(1, 5, 6, 110, 3, 89, 95);
        told(0, 3, 4, 100, 0, 75, 75);
        told(0, 1, 40, 1, 20, 1, 1);
        told(0, 3, 2, 1, 2, 1, 5);
        told(0, 20, 1, 400, 20, 999, 999);
        told(0, 20, 40, 400, 20, 190, 210);
        told(1, 9, 60, 400, 20, 57, 63);
        told(1, 9, 1, 100, 20, 720, 999);
        told(1, 1, 60, 59, 0, 1, 1);
        told(1, 1, 60, 61, 0, 1, 2);
        told(0, 1, 1, 5, 5, 1, 10);
        told(0, 1, 1, 20, 20, 1, 40);
        told(2, 1, 1, 0, 0, 1, 1);
        told(2, 999, 999, 0, 0, 999, 999);
        told(2, 1, 999, 0, 0, 1, 999);
    }

    private static void bad(SteepleWords x, int kind, int a, int b, int c, int e) {
        String what = "13: measure of " + kind + " with " + a + ", " + b + ", " + c + ", " + e;
        CHECK.badArgument(what, () -> x.measure(0, 0, kind, a, b, c, e));
    }

    private static void measureWrongly() {
        SteepleWords x = new SteepleWords();
        int[] far = {Integer.MIN_VALUE, -1, 1000, Integer.MAX_VALUE};
        for (int v : far) {
            CHECK.outOfBounds("13: a wrong steeple", () -> x.measure(v, 0, 0, 1, 1, 1, 0));
            CHECK.outOfBounds("13: a wrong teller", () -> x.measure(0, v, 0, 1, 1, 1, 0));
            CHECK.outOfBounds("13: all wrong", () -> x.measure(v, v, v, v, v, v, v));
            CHECK.outOfBounds("13: a wrong teller and kind", () -> x.measure(0, v, 3, 1, 1, 1, 0));
            for (int kind = 0; kind <= 2; kind++) {
                int c = kind == 2 ? 0 : 1;
                bad(x, kind, v, 1, c, 0);
                bad(x, kind, 1, v, c, 0);
                bad(x, kind, 1, 1, v, 0);
                bad(x, kind, 1, 1, c, v);
            }
            bad(x, v, 1, 1, 1, 0);
        }
        CHECK.outOfBounds("13: steeple 3", () -> x.measure(3, 0, 0, 1, 1, 1, 0));
        CHECK.outOfBounds("13: teller 6", () -> x.measure(0, 6, 0, 1, 1, 1, 0));
        bad(x, 3, 1, 1, 1, 0);
        int[][] edges = {{0, 0, 1, 1, 0}, {0, 21, 1, 1, 0}, {0, 1, 0, 1, 0}, {0, 1, 41, 1, 0}, {0, 1, 1, 0, 0},
            {0, 1, 1, 401, 0}, {0, 1, 1, 1, 21}, {1, 0, 1, 1, 0}, {1, 10, 1, 1, 0}, {1, 1, 0, 1, 0}, {1, 1, 61, 1, 0},
            {1, 1, 1, 0, 0}, {1, 1, 1, 401, 0}, {1, 1, 1, 1, 21}, {2, 0, 1, 0, 0}, {2, 1, 1000, 0, 0}, {2, 5, 4, 0, 0},
            {2, 1000, 1000, 0, 0}, {2, 0, 0, 0, 0}, {2, 1, 1, 1, 0}, {2, 1, 1, 0, 1}};
        for (int[] edge : edges) {
            bad(x, edge[0], edge[1], edge[2], edge[3], edge[4]);
        }
        CHECK.badState("13: no wrong measure is an action", x::undo);
    }

    private static void sixteen() {
        SteepleWords x = new SteepleWords();
        for (int i = 0; i < 16; i++) {
            due("13: the number of a measure", x.measure(i % 3, i % 6, 2, 10 + i, 20 + i, 0, 0), i);
        }
        CHECK.badState("13: the 17th", () -> x.measure(0, 0, 2, 1, 1, 0, 0));
        CHECK.badArgument("13: the 17th, of a wrong kind", () -> x.measure(0, 0, 3, 1, 1, 0, 0));
        CHECK.outOfBounds("13: the 17th, of a wrong steeple", () -> x.measure(3, 0, 3, 1, 1, 0, 0));
        due("14: drop the first", x.drop(0), 15);
        due("14: the second is the first", x.measureOf(0, 7), 11);
        due("14: the last has moved up", x.measureOf(14, 7), 25);
        due("13: there is a place", x.measure(0, 0, 2, 1, 1, 0, 0), 15);
        due("14: drop the last", x.drop(15), 15);
        due("6: seventeen came", x.about(1), 17);
    }

    private static void drop() {
        SteepleWords x = new SteepleWords();
        CHECK.outOfBounds("14: drop of none", () -> x.drop(0));
        word(x, 0, 0, 10, 10);
        word(x, 1, 1, 20, 20);
        word(x, 2, 2, 30, 30);
        CHECK.outOfBounds("14: drop(3)", () -> x.drop(3));
        for (int far : FAR) {
            CHECK.outOfBounds("14: drop(" + far + ")", () -> x.drop(far));
        }
        due("14: drop(1)", x.drop(1), 2);
        due("14: the first stays", x.measureOf(0, 7), 10);
        due("14: the third is the second", x.measureOf(1, 7), 30);
        due("14: drop(1)", x.drop(1), 1);
        due("14: drop(0)", x.drop(0), 0);
        due("14: they came all the same", x.about(1), 3);
        due("14: undo", x.undo(), 5);
        due("14: it is there again", x.measureOf(0, 7), 10);
    }

    private static void trust() {
        SteepleWords x = new SteepleWords();
        due("15: trust(2, 9)", x.trust(2, 9), 5);
        due("15: trust(2, 0)", x.trust(2, 0), 9);
        due("15: trust(2, 0) again", x.trust(2, 0), 0);
        due("15: the trust", x.tellerOf(2, 0), 0);
        due("15: another's", x.tellerOf(1, 0), 5);
        due("15: it is no loss in an evening", x.about(7), 0);
        for (int far : FAR) {
            CHECK.outOfBounds("15: teller " + far, () -> x.trust(far, 5));
            CHECK.outOfBounds("15: both " + far, () -> x.trust(far, far));
            CHECK.badArgument("15: trust " + far, () -> x.trust(0, far));
        }
        CHECK.outOfBounds("15: teller 6", () -> x.trust(6, 5));
        CHECK.badArgument("15: trust 10", () -> x.trust(0, 10));
        due("15: three actions", x.undo(), 2);
    }

    private static void evening() {
        SteepleWords x = new SteepleWords();
        due("16: an evening without measures", x.evening(), 0);
        due("16: evenings", x.about(2), 1);
        word(x, 0, 0, 100, 110);
        x.measure(0, 1, 0, 10, 10, 130, 0);
        word(x, 1, 2, 10, 20);
        word(x, 1, 3, 40, 50);
        due("16: the lighter one loses", x.evening(), 1);
        due("16: it is the word", x.tellerOf(0, 0), 4);
        due("16: not the shadow", x.tellerOf(1, 0), 5);
        due("16: like weights", x.tellerOf(2, 0) + x.tellerOf(3, 0), 10);
        due("16: lost", x.about(7), 1);
        x.set(1, 20);
        due("16: 20 feet do not matter", x.evening(), 0);
        x.set(1, 19);
        due("16: but 19 do", x.evening(), 1);
        x.trust(0, 0);
        due("16: 0 stays 0", x.evening(), 0);
        due("16: 0 stays 0", x.tellerOf(0, 0), 0);
        due("16: lost in all", x.about(7), 2);
        due("16: evenings", x.about(2), 5);
        SteepleWords y = new SteepleWords();
        word(y, 0, 0, 100, 100);
        word(y, 0, 0, 200, 200);
        word(y, 1, 1, 300, 300);
        y.trust(1, 9);
        due("16: one teller, or two steeples", y.evening(), 0);
        y.set(1, 0);
        word(y, 0, 1, 101, 101);
        due("16: two of one teller lose", y.evening(), 2);
    }

    private static void eveningGoesOnWithWhatIsLost() {
        SteepleWords x = new SteepleWords();
        word(x, 0, 0, 100, 100);
        word(x, 0, 2, 300, 300);
        word(x, 0, 1, 200, 200);
        x.trust(2, 6);
        due("16: 0 loses to 2, and then to 1", x.evening(), 3);
        due("16: trust of 0", x.tellerOf(0, 0), 3);
        due("16: trust of 1", x.tellerOf(1, 0), 4);
        due("16: trust of 2", x.tellerOf(2, 0), 6);
        due("16: by the first number: 2 beats both again", x.evening(), 3);
        SteepleWords y = new SteepleWords();
        word(y, 0, 0, 100, 100);
        word(y, 0, 1, 200, 200);
        word(y, 0, 2, 300, 300);
        y.trust(2, 6);
        due("16: 0 and 1 are alike when it is their turn", y.evening(), 2);
    }

    private static void survey() {
        SteepleWords x = new SteepleWords();
        word(x, 0, 0, 90, 100);
        word(x, 1, 2, 95, 95);
        word(x, 0, 0, 150, 160);
        word(x, 0, 1, 95, 95);
        due("17: survey(0, 95)", x.survey(0, 95), 2);
        due("17: right and wrong", x.tellerOf(0, 0), 5);
        due("17: right", x.tellerOf(0, 2), 1);
        due("17: wrong", x.tellerOf(0, 3), 1);
        due("17: right", x.tellerOf(1, 0), 6);
        due("17: the other steeple's teller", x.tellerOf(2, 2), 0);
        due("17: one measure is left", x.about(0), 1);
        due("17: it is the other steeple's", x.measureOf(0, 0), 1);
        due("17: its height", x.steepleOf(0, 1), 95);
        due("17: surveys", x.about(3), 1);
        due("17: nothing is lost in an evening", x.about(7), 0);
        due("17: a steeple without measures", x.survey(2, 999), 0);
        due("17: its height", x.steepleOf(2, 1), 999);
        due("17: the lowest height", x.survey(2, 1), 0);
        for (int far : FAR) {
            CHECK.outOfBounds("17: steeple " + far, () -> x.survey(far, 5));
            CHECK.outOfBounds("17: both " + far, () -> x.survey(far, far));
            CHECK.badArgument("17: height " + far, () -> x.survey(0, far));
        }
        CHECK.outOfBounds("17: steeple 3", () -> x.survey(3, 5));
        CHECK.badArgument("17: height 0", () -> x.survey(0, 0));
        ends(9, true, 8);
        ends(9, false, 9);
        ends(0, true, 0);
        ends(0, false, 1);
    }

    /** One teller with a right and a wrong measure, gone through in their order. */
    private static void ends(int trust, boolean rightFirst, int want) {
        SteepleWords x = new SteepleWords();
        x.trust(0, trust);
        word(x, 0, 0, rightFirst ? 50 : 60, rightFirst ? 50 : 60);
        word(x, 0, 0, rightFirst ? 60 : 50, rightFirst ? 60 : 50);
        due("17: survey", x.survey(0, 50), 1);
        due("17: from " + trust + (rightFirst ? ", right first" : ", wrong first"), x.tellerOf(0, 0), want);
    }

    private static void set() {
        SteepleWords x = new SteepleWords();
        due("18: set(0, 5)", x.set(0, 5), 1);
        due("18: set(0, 0)", x.set(0, 0), 5);
        due("18: set(1, 50)", x.set(1, 50), 5);
        due("18: set(1, 0)", x.set(1, 0), 50);
        due("18: setting(0)", x.setting(0), 0);
        for (int far : FAR) {
            CHECK.badArgument("18: what", () -> x.set(far, 1));
            CHECK.badArgument("18: both", () -> x.set(far, far));
            CHECK.badArgument("18: set(0)", () -> x.set(0, far));
            CHECK.badArgument("18: set(1)", () -> x.set(1, far));
        }
        CHECK.badArgument("18: set(2, 1)", () -> x.set(2, 1));
        CHECK.badArgument("18: set(0, 6)", () -> x.set(0, 6));
        CHECK.badArgument("18: set(1, 51)", () -> x.set(1, 51));
        due("18: four actions", x.undo(), 3);
        due("18: undone", x.setting(1), 50);
    }

    private static void undo() {
        SteepleWords x = new SteepleWords();
        for (int v = 0; v < 20; v++) {
            x.set(1, v);
        }
        for (int left = 13; left >= 0; left--) {
            due("19: undo", x.undo(), left);
            due("19: the setting then", x.setting(1), left + 5);
        }
        CHECK.badState("19: the fifteenth undo", x::undo);
        x.set(1, 30);
        x.set(1, 30);
        due("19: what makes nothing different is an action", x.undo(), 1);
        x.set(1, 40);
        due("19: undo is none", x.undo(), 1);
        due("19: undo", x.undo(), 0);
        due("19: the setting", x.setting(1), 5);
        CHECK.badState("19: undo of nothing", x::undo);
    }

    private static SteepleWords fourActions() {
        SteepleWords x = new SteepleWords();
        word(x, 0, 0, 100, 100);
        word(x, 0, 1, 200, 200);
        word(x, 1, 2, 200, 200);
        x.trust(0, 2);
        return x;
    }

    private static void undoOfEach() {
        Edges.Act[] actions = {x -> x.measure(1, 1, 2, 5, 6, 0, 0), x -> x.drop(0), x -> x.trust(0, 7), x -> x.evening(),
            x -> x.survey(0, 100), x -> x.set(0, 3), x -> x.set(1, 30)};
        for (int i = 0; i < actions.length; i++) {
            SteepleWords x = fourActions();
            String before = Telling.of(x);
            actions[i].on(x);
            CHECK.isTrue("19: action " + i + " changes something", !Telling.of(x).equals(before));
            due("19: undo of action " + i, x.undo(), 4);
            CHECK.isTrue("19: undo takes action " + i + " back", Telling.of(x).equals(before));
        }
    }

    private static void undoOfOthers() {
        SteepleWords x = fourActions();
        x.append('P');
        Check.Call[] others = {x::errorPosition, () -> x.about(4), () -> x.vote(0, 100), () -> x.best(0, 0, 0),
            () -> x.apart(0, 1), () -> x.against(0), () -> x.without(0, 0), () -> x.swings(0, 0), x::truest,
            () -> x.runScript(1, 100095), () -> x.simulate(7, 60), () -> x.save(0), () -> x.append('q'), x::clearText};
        for (int i = 0; i < others.length; i++) {
            others[i].answer();
            x.evening();
            due("19: call " + i + " is no action", x.undo(), 4);
        }
    }

    private static void script(SteepleWords x, int n, long script, int want) {
        due("25: runScript(" + n + ", " + script + ")", x.runScript(n, script), want);
    }

    private static void scripts() {
        SteepleWords x = new SteepleWords();
        long[][] want = {{1, 100095, NONE}, {1, 130095, 0}, {1, 106095, 0}, {1, 100000, 0}, {1, 125999, NONE},
            {1, 200000, 0}, {2, 100095200000L, NONE}, {2, 100095200001L, 1}, {2, 100095200100L, 1}, {2, 100095200010L, 1},
            {2, 100095201000L, 1}, {3, 100095100095201000L, NONE}, {3, 100095200000200000L, 2}, {1, 210000, 0},
            {1, 300009, NONE}, {1, 350000, NONE}, {1, 360000, 0}, {1, 301000, 0}, {1, 300100, 0}, {1, 300010, 0},
            {2, 320003820003L, NONE}, {2, 320003820004L, 1}, {2, 320003810005L, NONE},
            {1, 400000, NONE}, {1, 400009, NONE}, {1, 400010, 0}, {1, 400100, 0}, {1, 401000, 0}, {1, 410000, 0},
            {1, 500095, NONE}, {1, 500000, 0}, {1, 530095, 0}, {1, 501095, 0}, {1, 520999, NONE},
            {3, 100095500095800006L, NONE}, {3, 100095500094800005L, 2}, {3, 100095500094800004L, NONE},
            {1, 0, 0}, {1, 95, 0}, {2, 900000, 0}, {3, 900000, 0}, {2, 900000000000L, 1}, {1, 999999, 0},
            {3, 999999999999999999L, 0}, {3, 900000900000900000L, NONE}};
        for (long[] row : want) {
            script(x, (int) row[0], row[1], (int) row[2]);
        }
        word(x, 0, 0, 100, 100);
        word(x, 0, 1, 200, 200);
        x.trust(1, 6);
        script(x, 2, 400003800002L, NONE);
        script(x, 2, 400003800003L, 1);
        script(x, 2, 400000800005L, NONE);
        for (int i = 2; i < 16; i++) {
            word(x, 1, 1, 10, 10);
        }
        script(x, 1, 100095, 0);
        script(x, 2, 215000100095L, NONE);
        script(x, 1, 216000, 0);
    }

    private static void scriptsThatAsk() {
        SteepleWords x = new SteepleWords();
        word(x, 1, 0, 95, 99);
        long[][] want = {{600001, NONE}, {600000, 0}, {610095, NONE}, {610094, 0}, {610999, NONE}, {630999, 0},
            {601001, 0}, {700000, NONE}, {700100, 0}, {710500, NONE}, {710600, 0}, {711000, 0}, {710501, 0}, {710510, 0},
            {730000, 0}, {800005, NONE}, {800006, 0}, {850000, NONE}, {860000, 0}, {800015, 0}, {800105, 0}, {801005, 0},
            {900000, NONE}, {900100, 0}, {901000, 0}, {910000, 0}, {900099, NONE}};
        for (long[] row : want) {
            script(x, 1, row[0], (int) row[1]);
        }
        word(x, 1, 1, 90, 94);
        word(x, 1, 2, 85, 89);
        script(x, 1, 900002, 0);
        script(x, 1, 900003, NONE);
        script(x, 1, 900010, NONE);
        for (int i = 0; i < 3; i++) {
            word(x, 2, i, 50, 50);
        }
        script(x, 1, 721500, NONE);
        script(x, 1, 721600, 0);
    }

    private static void wrongScripts() {
        SteepleWords x = new SteepleWords();
        for (int n : new int[] {0, 4, -1, Integer.MIN_VALUE, Integer.MAX_VALUE}) {
            CHECK.badArgument("25: n " + n, () -> x.runScript(n, 900000));
        }
        long[][] wrong = {{1, -1}, {1, 1000000}, {2, 1000000000000L}, {3, 1000000000000000000L}, {3, Long.MAX_VALUE},
            {3, Long.MIN_VALUE}, {1, Long.MAX_VALUE}, {2, -900000}, {1, 9000000}};
        for (long[] row : wrong) {
            CHECK.badArgument("25: script " + row[1], () -> x.runScript((int) row[0], row[1]));
        }
        CHECK.badState("25: no script is an action", x::undo);
    }

    /** A seed whose first turn has just this r. */
    private static long seedOf(long r) {
        long factor = 6364136223846793005L;
        long inverse = factor;
        for (int i = 0; i < 6; i++) {
            inverse = inverse * (2 - factor * inverse);
        }
        return ((r << 33) + 12345 - 1442695040888963407L) * inverse;
    }

    private static void turn(String what, SteepleWords x, long q, int kind, int want) {
        due("26: " + what, x.simulate(seedOf(16 * q + kind), 1), want);
    }

    private static void simulate() {
        SteepleWords x = new SteepleWords();
        for (int kind = 0; kind < 16; kind++) {
            turn("a turn of " + kind, x, 0, kind, kind <= 8 ? 13000 : 3000);
        }
        word(x, 0, 0, 30, 30);
        word(x, 0, 1, 500, 500);
        word(x, 2, 2, 30, 30);
        turn("drop(1)", x, 1, 9, 23000);
        turn("drop(3)", x, 3, 9, 33000);
        turn("drop(0)", x, 16, 9, 23000);
        turn("drop(15)", x, 15, 9, 33000);
        // q / 32 % 999 is 29 and q % 3 is 0: steeple 0 has 30 feet, one is right and one wrong.
        turn("survey(0, 30)", x, 930, 14, 13001);
        turn("survey(0, 30)", x, 930, 15, 13001);
        turn("survey(2, 30)", x, 929, 14, 23101);
        turn("survey(1, 30)", x, 928, 14, 33000);
        turn("survey(0, 30)", x, 930 + 96L * 999, 14, 13001);
        x.trust(1, 3);
        for (int kind = 10; kind <= 12; kind++) {
            turn("evening()", x, 5, kind, 32700);
        }
        turn("survey(0, 999)", x, 31938, 14, 12600);
        for (int m : new int[] {0, 61, -1, Integer.MIN_VALUE, Integer.MAX_VALUE}) {
            CHECK.badArgument("26: m " + m, () -> x.simulate(1, m));
        }
        due("26: only what is right in the turns counts", countedAnew(), 3100);
    }

    private static int countedAnew() {
        SteepleWords x = new SteepleWords();
        word(x, 0, 0, 30, 30);
        x.survey(0, 30);
        return x.simulate(seedOf(13), 1);
    }

    private static void slots() {
        SteepleWords x = new SteepleWords();
        word(x, 0, 0, 10, 20);
        x.set(0, 3);
        x.evening();
        String first = Telling.of(x);
        due("27: save(0)", x.save(0), 1);
        CHECK.badState("28: restore(1)", () -> x.restore(1));
        due("27: save is no action", x.undo(), 2);
        x.evening();
        word(x, 1, 1, 10, 20);
        due("27: save(1)", x.save(1), 2);
        String second = Telling.of(x);
        x.survey(0, 15);
        due("28: restore(0)", x.restore(0), 1);
        CHECK.isTrue("28: the first state is there again", Telling.of(x).equals(first));
        CHECK.badState("28: undo behind restore", x::undo);
        x.drop(0);
        due("28: restore(1)", x.restore(1), 2);
        CHECK.isTrue("28: the second state is there again", Telling.of(x).equals(second));
    }

    private static void slotsKeep() {
        SteepleWords x = new SteepleWords();
        word(x, 0, 0, 10, 20);
        x.save(0);
        word(x, 1, 1, 10, 20);
        x.save(1);
        String second = Telling.of(x);
        x.trust(0, 0);
        due("28: restore(1)", x.restore(1), 2);
        x.trust(0, 0);
        due("28: the slot keeps it", x.restore(1), 2);
        CHECK.isTrue("28: the second state is there once more", Telling.of(x).equals(second));
        due("27: save over it", x.save(0), 2);
        x.drop(0);
        due("28: restore(0)", x.restore(0), 2);
        for (int bad : new int[] {-1, 2, Integer.MIN_VALUE, Integer.MAX_VALUE}) {
            CHECK.outOfBounds("27: save(" + bad + ")", () -> x.save(bad));
            CHECK.outOfBounds("28: restore(" + bad + ")", () -> x.restore(bad));
        }
        x.append('P');
        x.append('q');
        x.save(0);
        x.append('x');
        x.restore(0);
        due("28: the text is no part of the state", x.clearText(), 3);
    }
}

/** The boundary sentences of promises 6 to 12: what there is. */
final class NumbersEdges {
    private static final int NONE = SteepleWords.NONE;

    private final Edges edges;

    NumbersEdges(Edges edges) {
        this.edges = edges;
    }

    void run() {
        about();
        measureOf();
        tellerOf();
        steepleOf();
        vote();
        best();
        setting();
    }

    private void about() {
        edges.each(this::aboutRange, this::aboutMeasures, this::aboutCame, this::aboutEvenings, this::aboutSurveys,
                this::aboutQuarrels, this::aboutFarQuarrels, this::aboutTrust, this::aboutLost, this::aboutRight);
    }

    private void measureOf() {
        edges.each(this::noSuchMeasure, this::measureWhat, this::measureNamesFirst, this::givenNumbers, this::weight,
                this::quarrelsOfMeasure, this::quarrelsByCommonHeight);
    }

    private void tellerOf() {
        edges.each(this::noSuchTeller, this::tellerWhat, this::tellerNamesFirst, this::measuresOfTeller,
                this::rightAndWrong, this::quarrelsOfTeller);
    }

    private void steepleOf() {
        edges.each(this::noSuchSteeple, this::steepleWhat, this::steepleNamesFirst, this::measuresOfSteeple,
                this::latestSurvey, this::weightsTogether);
    }

    private void vote() {
        edges.each(this::voteSteeple, this::voteHeight, this::voteEnds, this::voteNamesFirst, this::fromLeastToGreatest,
                this::votesTogether);
    }

    private void best() {
        edges.each(this::bestSteeple, this::bestRange, this::bestWhat, this::bestWay, this::bestNamesFirst,
                this::withoutMeasures, this::lowestHeight, this::oneByOne, this::bothWaysAgree);
    }

    private void setting() {
        edges.each(this::settingRange, this::settingWhat);
    }

    // ---- promise 6

    private void aboutRange() {
        edges.sentence(6, "Throws `IllegalArgumentException` if what is not 0 to 9");
        for (int what : Edges.outside(0, 9)) {
            edges.refused(Edges.ARGUMENT, "about(" + what + ")", x -> x.about(what), States.ALL);
        }
        int[] fresh = {0, 0, 0, 0, 0, 0, 30, 0, 0, 0};
        for (int what = 0; what <= 9; what++) {
            int asked = what;
            edges.telling("about(" + what + ")", x -> x.about(asked), fresh[what], States.FRESH);
        }
    }

    private void aboutMeasures() {
        edges.sentence(6, "0: the measures;");
        SteepleWords x = new SteepleWords();
        edges.due("none", x.about(0), 0);
        for (int count = 1; count <= 16; count++) {
            States.word(x, count % 3, 0, 1, 1);
            edges.due("as many as are added", x.about(0), count);
        }
        x.drop(15);
        edges.due("one less", x.about(0), 15);
        x.survey(0, 1);
        edges.due("those of a steeple are gone", x.about(0), 10);
    }

    private void aboutCame() {
        edges.sentence(6, "1: the measures that came so far");
        SteepleWords x = States.spread();
        edges.due("sixteen", x.about(1), 16);
        x.drop(0);
        edges.due("one is gone", x.about(1), 16);
        States.word(x, 0, 0, 1, 1);
        edges.due("the seventeenth", x.about(1), 17);
        x.survey(0, 1);
        edges.due("all are gone", x.about(1), 17);
        x.undo();
        x.undo();
        edges.due("the seventeenth is taken back", x.about(1), 16);
    }

    private void aboutEvenings() {
        edges.sentence(6, "2: the evenings;");
        SteepleWords x = new SteepleWords();
        for (int count = 1; count <= 20; count++) {
            x.evening();
            edges.due("evenings", x.about(2), count);
        }
        x.undo();
        edges.due("one is taken back", x.about(2), 19);
    }

    private void aboutSurveys() {
        edges.sentence(6, "3: the surveys so far;");
        SteepleWords x = new SteepleWords();
        edges.due("none", x.about(3), 0);
        x.survey(0, 1);
        x.survey(0, 1);
        x.survey(2, 999);
        edges.due("also without measures, and of like heights", x.about(3), 3);
    }

    private void aboutQuarrels() {
        edges.sentence(6, "4: the pairs of measures that quarrel now;");
        SteepleWords x = new SteepleWords();
        edges.due("no measure", x.about(4), 0);
        States.word(x, 0, 0, 10, 20);
        edges.due("one measure", x.about(4), 0);
        States.word(x, 0, 0, 30, 40);
        edges.due("two of one teller", x.about(4), 0);
        States.word(x, 1, 1, 50, 60);
        edges.due("two steeples", x.about(4), 0);
        States.word(x, 0, 1, 21, 29);
        edges.due("one between two", x.about(4), 2);
        // Of 120 pairs 14 are of one teller: three each of the tellers 0 to 3, two of 4 and of 5.
        edges.due("sixteen measures", States.spread().about(4), 106);
        edges.due("sixteen that agree", States.together().about(4), 0);
    }

    private void aboutFarQuarrels() {
        edges.sentence(6, "5: those of them that are apart by more than setting 1;");
        for (int feet : new int[] {0, 1, 49, 50}) {
            SteepleWords x = new SteepleWords();
            x.set(1, feet);
            States.word(x, 0, 0, 100, 100);
            States.word(x, 0, 1, 100 + feet, 200);
            edges.due("apart by " + feet, x.about(5), 0);
            States.word(x, 0, 2, 1, 99 - feet);
            edges.due("apart by " + (feet + 1) + " from the nearer one", x.about(5), 2);
        }
        SteepleWords spread = States.spread();
        edges.due("sixteen measures", spread.about(5), 106);
        spread.set(1, 41);
        // Of the 15 neighbours, apart by 41, each is by another teller.
        edges.due("without the neighbours", spread.about(5), 106 - 15);
        spread.set(1, 40);
        edges.due("with them", spread.about(5), 106);
    }

    private void aboutTrust() {
        edges.sentence(6, "6: the trust of all tellers together;");
        for (int v : new int[] {0, 9}) {
            SteepleWords x = new SteepleWords();
            for (int t = 0; t <= 5; t++) {
                x.trust(t, v);
                edges.due("trust", x.about(6), 30 + (t + 1) * (v - 5));
            }
        }
    }

    private void aboutLost() {
        edges.sentence(6, "7: the trust lost in evenings so far;");
        SteepleWords x = new SteepleWords();
        x.trust(0, 1);
        States.word(x, 0, 0, 10, 10);
        States.word(x, 0, 1, 20, 20);
        edges.due("not by trust()", x.about(7), 0);
        x.evening();
        edges.due("the last one", x.about(7), 1);
        x.evening();
        edges.due("0 stays 0", x.about(7), 1);
        x.survey(0, 999);
        edges.due("not in a survey", x.about(7), 1);
        for (int i = 0; i < 3; i++) {
            x.undo();
        }
        edges.due("taken back", x.about(7), 0);
    }

    private void aboutRight() {
        edges.sentence(6, "8: how often a teller was right so far, of all tellers together; 9: how often one was wrong");
        SteepleWords x = States.together();
        x.survey(1, 95);
        edges.due("sixteen are right", x.about(8), 16);
        edges.due("none is wrong", x.about(9), 0);
        States.word(x, 1, 0, 10, 10);
        States.word(x, 1, 2, 10, 10);
        x.survey(1, 11);
        edges.due("right as before", x.about(8), 16);
        edges.due("two are wrong", x.about(9), 2);
    }

    // ---- promise 7

    private void noSuchMeasure() {
        edges.sentence(7, "Throws `IndexOutOfBoundsException` if there is no such measure");
        for (int k : new int[] {-1, 16, Integer.MIN_VALUE, Integer.MAX_VALUE}) {
            edges.refused(Edges.BOUNDS, "measureOf(" + k + ", 0)", x -> x.measureOf(k, 0), States.ALL);
        }
        edges.refused(Edges.BOUNDS, "measureOf behind the last", x -> x.measureOf(x.about(0), 0), States.ALL);
        edges.telling("measureOf(15, 0)", x -> x.measureOf(15, 0), 0, States.FULL);
        edges.telling("measureOf(0, 0)", x -> x.measureOf(0, 0), 2, States.ODD);
        edges.telling("the last measure", x -> x.measureOf(x.about(0) - 1, 1), 4, States.ODD);
    }

    private void measureWhat() {
        edges.sentence(7, "Throws `IllegalArgumentException` if what is not 0 to 10");
        for (int what : Edges.outside(0, 10)) {
            edges.refused(Edges.ARGUMENT, "measureOf(0, " + what + ")", x -> x.measureOf(0, what), States.WITH_MEASURES);
        }
        int[] first = {2, 5, 2, 400, 400, 0, 0, 400, 400, 4, 1};
        for (int what = 0; what <= 10; what++) {
            int asked = what;
            edges.telling("measureOf(0, " + what + ")", x -> x.measureOf(0, asked), first[what], States.ODD);
        }
    }

    private void measureNamesFirst() {
        edges.sentence(7, "If several exceptions apply to a call, the one that its description names first is thrown.");
        edges.refused(Edges.BOUNDS, "measureOf(-1, 11)", x -> x.measureOf(-1, 11), States.ALL);
        edges.refused(Edges.BOUNDS, "measureOf(16, -1)", x -> x.measureOf(16, -1), States.ALL);
        edges.refused(Edges.BOUNDS, "measureOf(0, 11)", x -> x.measureOf(0, 11), States.FRESH);
    }

    private void givenNumbers() {
        edges.sentence(7, "0: its steeple; 1: its teller; 2: its kind; 3 to 6: a, b, c and e; 7: its least height; "
                + "8: its greatest one; 9: its weight; 10: how many measures it quarrels with");
        SteepleWords x = new SteepleWords();
        x.measure(2, 5, 0, 20, 40, 400, 20);
        x.measure(0, 0, 1, 9, 60, 1, 0);
        x.measure(1, 3, 2, 1, 999, 0, 0);
        int[][] want = {{2, 5, 0, 20, 40, 400, 20, 190, 210, 6, 0}, {0, 0, 1, 9, 60, 1, 0, 1, 1, 6, 0},
            {1, 3, 2, 1, 999, 0, 0, 1, 999, 5, 0}};
        for (int k = 0; k < want.length; k++) {
            for (int what = 0; what <= 10; what++) {
                edges.due("measureOf(" + k + ", " + what + ")", x.measureOf(k, what), want[k][what]);
            }
        }
    }

    private void weight() {
        edges.sentence(7, "The weight of a measure is the trust of its teller, and setting 0 more with the kinds 0 and 1.");
        for (int trust : new int[] {0, 1, 8, 9}) {
            for (int more : new int[] {0, 1, 4, 5}) {
                SteepleWords x = new SteepleWords();
                x.measure(0, 2, 0, 1, 1, 1, 0);
                x.measure(0, 2, 1, 1, 1, 1, 0);
                x.measure(0, 2, 2, 1, 1, 0, 0);
                x.trust(2, trust);
                x.set(0, more);
                edges.due("of a shadow", x.measureOf(0, 9), trust + more);
                edges.due("of a pool", x.measureOf(1, 9), trust + more);
                edges.due("of a word", x.measureOf(2, 9), trust);
            }
        }
    }

    private void quarrelsOfMeasure() {
        edges.sentence(7, "10: how many measures it quarrels with");
        SteepleWords x = new SteepleWords();
        States.word(x, 0, 0, 500, 500);
        edges.due("alone", x.measureOf(0, 10), 0);
        for (int others = 1; others <= 15; others++) {
            States.word(x, 0, 1 + others % 5, 10 * others, 10 * others);
            edges.due("with all others", x.measureOf(0, 10), others);
        }
        edges.due("the first of three of its teller", States.spread().measureOf(0, 10), 13);
        edges.due("the last of two of its teller", States.spread().measureOf(11, 10), 14);
        edges.due("of sixteen that agree", States.together().measureOf(15, 10), 0);
    }

    private void quarrelsByCommonHeight() {
        edges.sentence(7, "Two measures quarrel if they are of one steeple, by two tellers, and tell no height in common");
        int[][] rows = {{0, 1, 20, 30, 0}, {0, 1, 21, 30, 1}, {0, 1, 1, 10, 0}, {0, 1, 1, 9, 1}, {0, 1, 12, 12, 0},
            {0, 1, 1, 999, 0}, {0, 0, 21, 30, 0}, {0, 0, 1, 9, 0}, {1, 1, 21, 30, 0}, {2, 5, 1, 9, 0}, {0, 5, 999, 999, 1}};
        for (int[] row : rows) {
            SteepleWords x = new SteepleWords();
            States.word(x, 0, 0, 10, 20);
            States.word(x, row[0], row[1], row[2], row[3]);
            String what = "10 to 20 of 0 by 0, with " + row[2] + " to " + row[3] + " of " + row[0] + " by " + row[1];
            edges.due(what, x.measureOf(0, 10), row[4]);
            edges.due(what + ", the other one", x.measureOf(1, 10), row[4]);
            edges.due(what + ", pairs", x.about(4), row[4]);
        }
    }

    // ---- promise 8

    private void noSuchTeller() {
        edges.sentence(8, "Throws `IndexOutOfBoundsException` if there is no such teller");
        for (int t : Edges.outside(0, 5)) {
            edges.refused(Edges.BOUNDS, "tellerOf(" + t + ", 0)", x -> x.tellerOf(t, 0), States.ALL);
        }
        edges.telling("tellerOf(0, 0)", x -> x.tellerOf(0, 0), 5, States.FRESH);
        edges.telling("tellerOf(5, 0)", x -> x.tellerOf(5, 0), 5, States.FRESH);
    }

    private void tellerWhat() {
        edges.sentence(8, "Throws `IllegalArgumentException` if what is not 0 to 4");
        for (int what : Edges.outside(0, 4)) {
            edges.refused(Edges.ARGUMENT, "tellerOf(0, " + what + ")", x -> x.tellerOf(0, what), States.ALL);
            edges.refused(Edges.ARGUMENT, "tellerOf(5, " + what + ")", x -> x.tellerOf(5, what), States.ALL);
        }
        int[] fifth = {4, 1, 0, 0, 1};
        for (int what = 0; what <= 4; what++) {
            int asked = what;
            edges.telling("tellerOf(5, " + what + ")", x -> x.tellerOf(5, asked), fifth[what], States.ODD);
        }
    }

    private void tellerNamesFirst() {
        edges.sentence(8, "If several exceptions apply to a call, the one that its description names first is thrown.");
        edges.refused(Edges.BOUNDS, "tellerOf(6, 5)", x -> x.tellerOf(6, 5), States.ALL);
        edges.refused(Edges.BOUNDS, "tellerOf(-1, -1)", x -> x.tellerOf(-1, -1), States.ALL);
    }

    private void measuresOfTeller() {
        edges.sentence(8, "1: the measures;");
        SteepleWords x = new SteepleWords();
        for (int count = 0; count <= 16; count++) {
            edges.due("of one teller", x.tellerOf(5, 1), count);
            edges.due("of another", x.tellerOf(0, 1), 0);
            if (count < 16) {
                States.word(x, count % 3, 5, 1, 1);
            }
        }
    }

    private void rightAndWrong() {
        edges.sentence(8, "2: how often the teller was right so far; 3: how often wrong;");
        SteepleWords x = new SteepleWords();
        x.trust(0, 9);
        x.trust(5, 0);
        States.word(x, 0, 0, 50, 50);
        States.word(x, 0, 5, 51, 51);
        x.survey(0, 50);
        edges.due("right, though 9 stays 9", x.tellerOf(0, 2), 1);
        edges.due("never wrong", x.tellerOf(0, 3), 0);
        edges.due("never right", x.tellerOf(5, 2), 0);
        edges.due("wrong, though 0 stays 0", x.tellerOf(5, 3), 1);
        edges.due("a teller without measures", x.tellerOf(1, 2) + x.tellerOf(1, 3), 0);
        SteepleWords y = States.together();
        y.survey(1, 95);
        edges.due("each measure counts", y.tellerOf(1, 2), 8);
    }

    private void quarrelsOfTeller() {
        edges.sentence(8, "4: the quarrels of the teller's measures now, each once for each of them");
        SteepleWords x = new SteepleWords();
        States.word(x, 0, 0, 10, 10);
        edges.due("alone", x.tellerOf(0, 4), 0);
        States.word(x, 0, 0, 20, 20);
        States.word(x, 0, 1, 15, 15);
        edges.due("two measures with one other", x.tellerOf(0, 4), 2);
        edges.due("one measure with two others", x.tellerOf(1, 4), 2);
        edges.due("a teller without measures", x.tellerOf(2, 4), 0);
        edges.due("three measures with thirteen each", States.spread().tellerOf(0, 4), 39);
        edges.due("two measures with fourteen each", States.spread().tellerOf(5, 4), 28);
    }

    // ---- promise 9

    private void noSuchSteeple() {
        edges.sentence(9, "Throws `IndexOutOfBoundsException` if there is no such steeple");
        for (int s : Edges.outside(0, 2)) {
            edges.refused(Edges.BOUNDS, "steepleOf(" + s + ", 0)", x -> x.steepleOf(s, 0), States.ALL);
        }
        edges.telling("steepleOf(0, 0)", x -> x.steepleOf(0, 0), 0, States.ODD);
        edges.telling("steepleOf(2, 0)", x -> x.steepleOf(2, 0), 2, States.ODD);
    }

    private void steepleWhat() {
        edges.sentence(9, "Throws `IllegalArgumentException` if what is not 0 to 2");
        for (int what : Edges.outside(0, 2)) {
            edges.refused(Edges.ARGUMENT, "steepleOf(0, " + what + ")", x -> x.steepleOf(0, what), States.ALL);
            edges.refused(Edges.ARGUMENT, "steepleOf(2, " + what + ")", x -> x.steepleOf(2, what), States.ALL);
        }
        int[] second = {2, NONE, 10};
        for (int what = 0; what <= 2; what++) {
            int asked = what;
            edges.telling("steepleOf(2, " + what + ")", x -> x.steepleOf(2, asked), second[what], States.ODD);
        }
    }

    private void steepleNamesFirst() {
        edges.sentence(9, "If several exceptions apply to a call, the one that its description names first is thrown.");
        edges.refused(Edges.BOUNDS, "steepleOf(3, 3)", x -> x.steepleOf(3, 3), States.ALL);
        edges.refused(Edges.BOUNDS, "steepleOf(-1, -1)", x -> x.steepleOf(-1, -1), States.ALL);
    }

    private void measuresOfSteeple() {
        edges.sentence(9, "0: its measures;");
        SteepleWords x = new SteepleWords();
        for (int count = 0; count <= 16; count++) {
            edges.due("of one steeple", x.steepleOf(2, 0), count);
            edges.due("of another", x.steepleOf(0, 0), 0);
            if (count < 16) {
                States.word(x, 2, count % 6, 1, 1);
            }
        }
    }

    private void latestSurvey() {
        edges.sentence(9, "1: the height of its latest survey, NONE without one;");
        SteepleWords x = new SteepleWords();
        edges.due("without a survey", x.steepleOf(0, 1), NONE);
        x.survey(0, 1);
        edges.due("the least height", x.steepleOf(0, 1), 1);
        edges.due("another steeple", x.steepleOf(1, 1), NONE);
        x.survey(0, 999);
        edges.due("the greatest height", x.steepleOf(0, 1), 999);
        x.survey(0, 500);
        edges.due("the latest one", x.steepleOf(0, 1), 500);
        x.survey(2, 7);
        edges.due("not another steeple's", x.steepleOf(0, 1), 500);
        for (int i = 0; i < 4; i++) {
            x.undo();
        }
        edges.due("taken back", x.steepleOf(0, 1), NONE);
    }

    private void weightsTogether() {
        edges.sentence(9, "2: the weights of its measures together");
        SteepleWords x = new SteepleWords();
        edges.due("without measures", x.steepleOf(0, 2), 0);
        for (int count = 1; count <= 16; count++) {
            x.measure(0, 0, count % 2, 1, 1, 1, 0);
        }
        x.trust(0, 9);
        x.set(0, 5);
        edges.due("sixteen of 14", x.steepleOf(0, 2), 224);
        edges.due("another steeple", x.steepleOf(1, 2), 0);
        x.trust(0, 0);
        x.set(0, 0);
        edges.due("sixteen of 0", x.steepleOf(0, 2), 0);
    }

    // ---- promise 10

    private void voteSteeple() {
        edges.sentence(10, "Throws `IndexOutOfBoundsException` if there is no such steeple");
        for (int s : Edges.outside(0, 2)) {
            edges.refused(Edges.BOUNDS, "vote(" + s + ", 100)", x -> x.vote(s, 100), States.ALL);
        }
        edges.telling("vote(0, 400)", x -> x.vote(0, 400), 0, States.ODD);
        edges.telling("vote(2, 400)", x -> x.vote(2, 400), 4, States.ODD);
    }

    private void voteHeight() {
        edges.sentence(10, "Throws `IllegalArgumentException` if h is out of range");
        for (int h : Edges.outside(1, 999)) {
            edges.refused(Edges.ARGUMENT, "vote(0, " + h + ")", x -> x.vote(0, h), States.ALL);
            edges.refused(Edges.ARGUMENT, "vote(2, " + h + ")", x -> x.vote(2, h), States.ALL);
        }
    }

    private void voteEnds() {
        edges.sentence(10, "- `h`: 1 to 999");
        edges.telling("vote(0, 1)", x -> x.vote(0, 1), 0, States.FRESH);
        edges.telling("vote(2, 999)", x -> x.vote(2, 999), 0, States.FRESH);
        SteepleWords x = new SteepleWords();
        States.word(x, 0, 0, 1, 1);
        States.word(x, 0, 1, 999, 999);
        x.trust(1, 9);
        edges.due("the lowest height", x.vote(0, 1), 5);
        edges.due("the one behind it", x.vote(0, 2), 0);
        edges.due("the highest height", x.vote(0, 999), 9);
        edges.due("the one ahead of it", x.vote(0, 998), 0);
    }

    private void voteNamesFirst() {
        edges.sentence(10, "If several exceptions apply to a call, the one that its description names first is thrown.");
        edges.refused(Edges.BOUNDS, "vote(3, 1000)", x -> x.vote(3, 1000), States.ALL);
        edges.refused(Edges.BOUNDS, "vote(-1, 0)", x -> x.vote(-1, 0), States.ALL);
    }

    private void fromLeastToGreatest() {
        edges.sentence(10, "A measure tells all heights from its least to its greatest one.");
        SteepleWords x = new SteepleWords();
        States.word(x, 1, 0, 300, 305);
        x.measure(0, 0, 0, 1, 1, 100, 3);
        for (int h = 1; h <= 200; h++) {
            edges.due("97 to 103: vote(0, " + h + ")", x.vote(0, h), h >= 97 && h <= 103 ? 6 : 0);
        }
        for (int h = 200; h <= 400; h++) {
            edges.due("300 to 305: vote(1, " + h + ")", x.vote(1, h), h >= 300 && h <= 305 ? 5 : 0);
        }
    }

    private void votesTogether() {
        edges.sentence(10, "The vote of a height of a steeple is the weights of those measures of this steeple that tell it, "
                + "together.");
        SteepleWords x = States.together();
        edges.due("eight shadows and eight words", x.vote(1, 95), 8 * 6 + 8 * 5);
        edges.due("another steeple", x.vote(0, 95), 0);
        x.trust(0, 9);
        x.set(0, 5);
        x.trust(1, 0);
        edges.due("the greatest and the least weights", x.vote(1, 95), 8 * 14);
        x.trust(0, 0);
        x.set(0, 0);
        edges.due("weights of 0", x.vote(1, 95), 0);
        edges.due("without measures", new SteepleWords().vote(0, 95), 0);
    }

    // ---- promise 11

    private void row(String what, SteepleWords x, int s, int lowest, int highest, int vote) {
        int[] want = {lowest, highest, vote};
        for (int i = 0; i <= 2; i++) {
            edges.due(what + ": best(" + s + ", " + i + ", 0)", x.best(s, i, 0), want[i]);
            edges.due(what + ": best(" + s + ", " + i + ", 1)", x.best(s, i, 1), want[i]);
        }
    }

    private void bestSteeple() {
        edges.sentence(11, "Throws `IndexOutOfBoundsException` if there is no such steeple");
        for (int s : Edges.outside(0, 2)) {
            edges.refused(Edges.BOUNDS, "best(" + s + ", 0, 0)", x -> x.best(s, 0, 0), States.ALL);
            edges.refused(Edges.BOUNDS, "best(" + s + ", 0, 1)", x -> x.best(s, 0, 1), States.ALL);
        }
        edges.telling("best(0, 1, 0)", x -> x.best(0, 1, 0), 999, States.ODD);
        edges.telling("best(2, 1, 1)", x -> x.best(2, 1, 1), 214, States.ODD);
    }

    private void bestRange() {
        edges.sentence(11, "Throws `IllegalArgumentException` if what or way is out of range");
        for (int what : Edges.outside(0, 2)) {
            edges.refused(Edges.ARGUMENT, "best(0, " + what + ", 0)", x -> x.best(0, what, 0), States.ALL);
            edges.refused(Edges.ARGUMENT, "best(2, " + what + ", 1)", x -> x.best(2, what, 1), States.ALL);
        }
        for (int way : Edges.outside(0, 1)) {
            edges.refused(Edges.ARGUMENT, "best(0, 0, " + way + ")", x -> x.best(0, 0, way), States.ALL);
            edges.refused(Edges.ARGUMENT, "best(2, 2, " + way + ")", x -> x.best(2, 2, way), States.ALL);
        }
    }

    private void bestWhat() {
        edges.sentence(11, "0: the lowest one of the row; 1: the highest one of it; 2: their vote");
        bestOfOdd(0);
    }

    private void bestWay() {
        edges.sentence(11, "0: told height by height; 1: told by the ends of its measures alone");
        bestOfOdd(1);
    }

    private void bestOfOdd(int way) {
        int[] want = {186, 214, 6};
        for (int what = 0; what <= 2; what++) {
            int asked = what;
            edges.telling("best(2, " + what + ", " + way + ")", x -> x.best(2, asked, way), want[what], States.ODD);
        }
    }

    private void bestNamesFirst() {
        edges.sentence(11, "If several exceptions apply to a call, the one that its description names first is thrown.");
        edges.refused(Edges.BOUNDS, "best(3, 3, 2)", x -> x.best(3, 3, 2), States.ALL);
        edges.refused(Edges.BOUNDS, "best(-1, -1, -1)", x -> x.best(-1, -1, -1), States.ALL);
    }

    private void withoutMeasures() {
        edges.sentence(11, "without measures 1, 999 and 0");
        row("a new object", new SteepleWords(), 0, 1, 999, 0);
        row("measures of other steeples alone", States.together(), 0, 1, 999, 0);
        SteepleWords x = States.together();
        x.survey(1, 95);
        row("all are gone", x, 1, 1, 999, 0);
        SteepleWords y = new SteepleWords();
        States.word(y, 2, 0, 50, 60);
        y.trust(0, 0);
        row("weights of 0 alone", y, 2, 1, 999, 0);
        y.trust(0, 1);
        row("a weight of 1", y, 2, 50, 60, 1);
    }

    private void lowestHeight() {
        edges.sentence(11, "The best heights of a steeple are a row: the lowest height with the greatest vote");
        SteepleWords x = new SteepleWords();
        States.word(x, 0, 0, 999, 999);
        row("the highest height", x, 0, 999, 999, 5);
        States.word(x, 0, 1, 998, 998);
        row("the lower of neighbours", x, 0, 998, 999, 5);
        States.word(x, 0, 2, 1, 1);
        row("the lowest height", x, 0, 1, 1, 5);
        x.trust(0, 6);
        row("a vote that is greater by 1", x, 0, 999, 999, 6);
        SteepleWords y = new SteepleWords();
        States.word(y, 1, 0, 100, 200);
        States.word(y, 1, 1, 200, 300);
        row("one height in common", y, 1, 200, 200, 10);
        SteepleWords z = new SteepleWords();
        States.word(z, 2, 0, 100, 200);
        States.word(z, 2, 1, 201, 300);
        row("no height in common", z, 2, 100, 300, 5);
    }

    private void oneByOne() {
        edges.sentence(11, "and those behind it one by one as long as they have the greatest vote, too.");
        SteepleWords x = new SteepleWords();
        States.word(x, 0, 0, 10, 19);
        States.word(x, 0, 1, 21, 30);
        row("a gap of one height", x, 0, 10, 19, 5);
        States.word(x, 0, 2, 20, 20);
        row("the gap is closed", x, 0, 10, 30, 5);
        x.trust(2, 4);
        row("the gap has a lesser vote", x, 0, 10, 19, 5);
        SteepleWords y = new SteepleWords();
        States.word(y, 1, 0, 1, 999);
        row("all heights", y, 1, 1, 999, 5);
        States.word(y, 1, 1, 2, 999);
        row("all but the lowest", y, 1, 2, 999, 10);
        States.word(y, 1, 2, 2, 998);
        row("all but the ends", y, 1, 2, 998, 15);
        SteepleWords z = new SteepleWords();
        States.word(z, 2, 0, 1, 998);
        row("all but the highest", z, 2, 1, 998, 5);
    }

    private void bothWaysAgree() {
        edges.sentence(11, "Returns that number (the same for both ways;");
        for (Edges.Make state : States.ALL) {
            SteepleWords x = state.object();
            for (int s = 0; s <= 2; s++) {
                for (int what = 0; what <= 2; what++) {
                    edges.due("best(" + s + ", " + what + ", 1)", x.best(s, what, 1), x.best(s, what, 0));
                }
            }
        }
        row("sixteen that agree", States.together(), 1, 95, 95, 88);
        row("sixteen that do not", States.spread(), 0, 1, 10, 5);
    }

    // ---- promise 12

    private void settingRange() {
        edges.sentence(12, "Throws `IllegalArgumentException` if what is out of range");
        for (int what : Edges.outside(0, 1)) {
            edges.refused(Edges.ARGUMENT, "setting(" + what + ")", x -> x.setting(what), States.ALL);
        }
    }

    private void settingWhat() {
        edges.sentence(12, "- `what`: 0 or 1");
        edges.telling("setting(0)", x -> x.setting(0), 1, States.FRESH, States.FULL, States.ODD);
        edges.telling("setting(1)", x -> x.setting(1), 5, States.FRESH, States.FULL, States.ODD);
        edges.telling("setting(0)", x -> x.setting(0), 3, States.RICH);
        edges.telling("setting(1)", x -> x.setting(1), 9, States.RICH);
    }
}

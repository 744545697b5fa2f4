/** Promises 6 to 12 and 20 to 24: what there is and what would be, worked out by hand from the document. */
public final class NumbersPromisesTest {
    private static final Check CHECK = new Check("NumbersPromisesTest");
    private static final int NONE = SteepleWords.NONE;
    private static final int[] FAR = {Integer.MIN_VALUE, -1, 1000, Integer.MAX_VALUE};

    public static void main(String[] args) {
        numbers();
        counts();
        votes();
        bestRows();
        settings();
        apart();
        against();
        without();
        swings();
        truest();
        wrongInputs();
        CHECK.end();
    }

    private static void due(String what, long got, long want) {
        CHECK.due(what, got, want);
    }

    private static void word(SteepleWords x, int s, int t, int least, int greatest) {
        x.measure(s, t, 2, least, greatest, 0, 0);
    }

    private static void row(String what, SteepleWords x, int s, int lowest, int highest, int vote) {
        int[] want = {lowest, highest, vote};
        for (int i = 0; i < 3; i++) {
            due(what + ": best(" + s + ", " + i + ", 0)", x.best(s, i, 0), want[i]);
            due(what + ": best(" + s + ", " + i + ", 1)", x.best(s, i, 1), want[i]);
        }
    }

    /** Four measures of steeple 0, by 0, 1, 5 and 2, and two of steeple 1, by 2 and 0. */
    private static SteepleWords sixMeasures() {
        SteepleWords x = new SteepleWords();
        x.measure(0, 0, 0, 6, 8, 120, 2);
        x.measure(0, 1, 1, 5, 6, 110, 3);
        word(x, 0, 5, 150, 160);
        word(x, 1, 2, 60, 70);
        word(x, 0, 2, 88, 90);
        x.measure(1, 0, 0, 3, 4, 100, 0);
        return x;
    }

    private static void numbers() {
        SteepleWords x = sixMeasures();
        int[][] want = {
            {0, 0, 0, 6, 8, 120, 2, 88, 92, 6, 1}, {0, 1, 1, 5, 6, 110, 3, 89, 95, 6, 1},
            {0, 5, 2, 150, 160, 0, 0, 150, 160, 5, 3}, {1, 2, 2, 60, 70, 0, 0, 60, 70, 5, 1},
            {0, 2, 2, 88, 90, 0, 0, 88, 90, 5, 1}, {1, 0, 0, 3, 4, 100, 0, 75, 75, 6, 1}};
        for (int k = 0; k < want.length; k++) {
            for (int what = 0; what <= 10; what++) {
                due("7: measureOf(" + k + ", " + what + ")", x.measureOf(k, what), want[k][what]);
            }
        }
        int[][] tellers = {{5, 2, 0, 0, 2}, {5, 1, 0, 0, 1}, {5, 2, 0, 0, 2}, {5, 0, 0, 0, 0}, {5, 0, 0, 0, 0}, {5, 1, 0, 0, 3}};
        for (int t = 0; t < 6; t++) {
            for (int what = 0; what <= 4; what++) {
                due("8: tellerOf(" + t + ", " + what + ")", x.tellerOf(t, what), tellers[t][what]);
            }
        }
        int[][] steeples = {{4, NONE, 22}, {2, NONE, 11}, {0, NONE, 0}};
        for (int s = 0; s < 3; s++) {
            for (int what = 0; what <= 2; what++) {
                due("9: steepleOf(" + s + ", " + what + ")", x.steepleOf(s, what), steeples[s][what]);
            }
        }
        x.set(0, 4);
        due("7: a shadow's weight", x.measureOf(0, 9), 9);
        due("7: a pool's weight", x.measureOf(1, 9), 9);
        due("7: a word's weight", x.measureOf(2, 9), 5);
        due("9: the weights together", x.steepleOf(0, 2), 28);
    }

    private static void counts() {
        SteepleWords x = sixMeasures();
        int[] before = {6, 6, 0, 0, 4, 3, 30, 0, 0, 0};
        for (int what = 0; what <= 9; what++) {
            due("6: about(" + what + ")", x.about(what), before[what]);
        }
        // Apart by 58, 55, 60 and 5; weights 6 and 5, 6 and 5, 5 less 2 and 5, and the last pair does not matter.
        due("6: evening()", x.evening(), 3);
        x.drop(3);
        due("6: survey of 0", x.survey(0, 89), 3);
        int[] after = {1, 6, 1, 1, 0, 0, 29, 3, 3, 1};
        for (int what = 0; what <= 9; what++) {
            due("6: about(" + what + ") then", x.about(what), after[what]);
        }
        due("9: the survey", x.steepleOf(0, 1), 89);
        due("9: no survey", x.steepleOf(1, 1), NONE);
        x.survey(0, 77);
        due("9: the latest survey", x.steepleOf(0, 1), 77);
        due("8: right", x.tellerOf(2, 2), 1);
        due("8: wrong", x.tellerOf(5, 3), 1);
        SteepleWords y = new SteepleWords();
        word(y, 0, 0, 10, 10);
        word(y, 0, 0, 20, 20);
        due("6: one teller does not quarrel", y.about(4), 0);
        word(y, 0, 1, 15, 15);
        due("6: pairs that quarrel", y.about(4), 2);
        due("6: none apart by more than 5", y.about(5), 0);
        y.set(1, 4);
        due("6: two apart by more than 4", y.about(5), 2);
        due("8: quarrels of 0", y.tellerOf(0, 4), 2);
        due("8: quarrels of 1", y.tellerOf(1, 4), 2);
    }

    private static void votes() {
        SteepleWords x = sixMeasures();
        int[][] want = {{87, 0}, {88, 11}, {89, 17}, {90, 17}, {91, 12}, {92, 12}, {93, 6}, {95, 6}, {96, 0},
            {149, 0}, {150, 5}, {160, 5}, {161, 0}, {1, 0}, {999, 0}};
        for (int[] heightAndVote : want) {
            due("10: vote(0, " + heightAndVote[0] + ")", x.vote(0, heightAndVote[0]), heightAndVote[1]);
        }
        due("10: vote of another steeple", x.vote(1, 75), 6);
        due("10: vote of a third", x.vote(2, 75), 0);
        x.trust(0, 0);
        due("10: vote with a trust of 0", x.vote(1, 75), 1);
        x.set(0, 0);
        due("10: vote with a weight of 0", x.vote(1, 75), 0);
    }

    private static void bestRows() {
        SteepleWords x = sixMeasures();
        row("11: three agree", x, 0, 89, 90, 17);
        row("11: the heavier", x, 1, 75, 75, 6);
        row("11: without measures", x, 2, 1, 999, 0);

        SteepleWords y = new SteepleWords();
        word(y, 0, 0, 10, 20);
        word(y, 0, 1, 15, 25);
        word(y, 0, 2, 21, 30);
        row("11: one ends where another begins", y, 0, 15, 25, 10);
        word(y, 1, 0, 20, 22);
        word(y, 1, 1, 10, 12);
        row("11: the lower of two rows", y, 1, 10, 12, 5);
        word(y, 1, 2, 13, 13);
        row("11: side by side", y, 1, 10, 13, 5);
        word(y, 2, 3, 50, 60);
        y.trust(3, 0);
        row("11: weights of 0", y, 2, 1, 999, 0);
        y.trust(3, 1);
        row("11: one measure", y, 2, 50, 60, 1);

        SteepleWords z = new SteepleWords();
        word(z, 0, 0, 1, 1);
        word(z, 1, 0, 999, 999);
        word(z, 2, 0, 1, 999);
        row("11: the lowest height", z, 0, 1, 1, 5);
        row("11: the highest height", z, 1, 999, 999, 5);
        row("11: every height", z, 2, 1, 999, 5);
        word(z, 2, 1, 400, 999);
        row("11: to the highest height", z, 2, 400, 999, 10);
    }

    private static void settings() {
        SteepleWords x = new SteepleWords();
        x.set(0, 5);
        x.set(1, 50);
        due("12: setting(0)", x.setting(0), 5);
        due("12: setting(1)", x.setting(1), 50);
    }

    private static void apart() {
        SteepleWords x = new SteepleWords();
        word(x, 0, 0, 10, 20);
        word(x, 0, 1, 21, 30);
        word(x, 0, 0, 50, 60);
        word(x, 1, 2, 50, 60);
        word(x, 0, 2, 20, 21);
        int[][] want = {{0, 0, 0}, {0, 1, 1}, {1, 0, 1}, {0, 2, 30}, {2, 0, 30}, {1, 2, 20}, {2, 3, NONE},
            {3, 0, NONE}, {3, 3, 0}, {0, 4, 0}, {4, 1, 0}, {4, 2, 29}};
        for (int[] row : want) {
            due("20: apart(" + row[0] + ", " + row[1] + ")", x.apart(row[0], row[1]), row[2]);
        }
    }

    private static void against() {
        SteepleWords x = new SteepleWords();
        due("21: without measures", x.against(0), NONE);
        word(x, 0, 0, 100, 110);
        word(x, 0, 1, 100, 110);
        x.trust(0, 9);
        x.trust(1, 9);
        due("21: nobody is against", x.against(0), NONE);
        word(x, 0, 2, 50, 60);
        due("21: one is", x.against(0), 2);
        word(x, 0, 3, 150, 160);
        due("21: the farthest by its nearer end", x.against(0), 3);
        word(x, 0, 4, 10, 50);
        due("21: as far, but behind", x.against(0), 3);
        word(x, 0, 4, 10, 49);
        due("21: 51 feet", x.against(0), 5);
        word(x, 0, 5, 99, 99);
        x.trust(5, 6);
        due("21: the heaviest", x.against(0), 6);
        word(x, 1, 5, 300, 300);
        due("21: another steeple's do not count", x.against(0), 6);
        due("21: of another steeple", x.against(1), NONE);
        x.trust(5, 0);
        due("21: weight 0 of its own steeple's best", x.against(1), 7);
    }

    private static void without() {
        SteepleWords x = sixMeasures();
        int[][] want = {{89, 90, 11}, {88, 90, 11}, {89, 90, 17}, {75, 75, 6}, {89, 92, 12}, {60, 70, 5}};
        for (int k = 0; k < want.length; k++) {
            for (int what = 0; what <= 2; what++) {
                due("22: without(" + k + ", " + what + ")", x.without(k, what), want[k][what]);
            }
        }
        x.drop(5);
        int[] none = {1, 999, 0};
        for (int what = 0; what <= 2; what++) {
            due("22: without the only one: " + what, x.without(3, what), none[what]);
        }
        due("22: nothing is gone", x.about(0), 5);
    }

    private static void swings() {
        SteepleWords x = new SteepleWords();
        word(x, 0, 0, 10, 20);
        word(x, 0, 1, 30, 40);
        word(x, 1, 3, 1, 5);
        word(x, 2, 4, 10, 20);
        x.measure(2, 5, 0, 1, 1, 100, 0);
        String before = Telling.of(x);
        due("23: the lower one ties", x.swings(0, 0), 5);
        due("23: the higher one needs more", x.swings(1, 0), 6);
        due("23: no measure of the teller", x.swings(2, 0), NONE);
        due("23: none of this steeple", x.swings(0, 1), NONE);
        due("23: height 1 needs no trust", x.swings(3, 1), 0);
        due("23: against a shadow of 6", x.swings(4, 2), 6);
        due("23: a shadow against a word of 5", x.swings(5, 2), 5);
        CHECK.isTrue("23: swings changes nothing", Telling.of(x).equals(before));
        x.trust(0, 9);
        due("23: no trust is enough", x.swings(1, 0), NONE);
        due("23: a trust that is there already does not count", x.swings(0, 0), 5);
        x.trust(0, 8);
        due("23: 9 is enough", x.swings(1, 0), 9);
        x.drop(4);
        due("23: alone", x.swings(4, 2), 1);
    }

    private static void truest() {
        SteepleWords x = new SteepleWords();
        due("24: nobody", x.truest(), NONE);
        word(x, 0, 4, 50, 50);
        x.survey(0, 60);
        due("24: wrong once", x.truest(), 4);
        word(x, 0, 5, 50, 50);
        word(x, 0, 5, 50, 50);
        x.survey(0, 60);
        due("24: wrong twice", x.truest(), 5);
        word(x, 0, 3, 50, 60);
        word(x, 0, 3, 50, 50);
        x.survey(0, 60);
        due("24: one of two", x.truest(), 3);
        word(x, 0, 2, 60, 60);
        word(x, 0, 2, 60, 60);
        word(x, 0, 2, 50, 50);
        x.survey(0, 60);
        due("24: two of three", x.truest(), 2);
        word(x, 0, 1, 60, 60);
        word(x, 0, 1, 60, 60);
        word(x, 0, 1, 50, 50);
        x.survey(0, 60);
        due("24: the lowest of like ones", x.truest(), 1);
        for (int i = 0; i < 4; i++) {
            word(x, 0, 5, 60, 60);
        }
        x.survey(0, 60);
        due("24: four of six", x.truest(), 5);
    }

    private static void wrongInputs() {
        SteepleWords x = sixMeasures();
        for (int far : FAR) {
            CHECK.badArgument("6: about", () -> x.about(far));
            CHECK.outOfBounds("7: measureOf", () -> x.measureOf(far, 0));
            CHECK.outOfBounds("7: measureOf both", () -> x.measureOf(far, far));
            CHECK.badArgument("7: measureOf what", () -> x.measureOf(0, far));
            CHECK.outOfBounds("8: tellerOf", () -> x.tellerOf(far, 0));
            CHECK.outOfBounds("8: tellerOf both", () -> x.tellerOf(far, far));
            CHECK.badArgument("8: tellerOf what", () -> x.tellerOf(0, far));
            CHECK.outOfBounds("9: steepleOf", () -> x.steepleOf(far, 0));
            CHECK.outOfBounds("9: steepleOf both", () -> x.steepleOf(far, far));
            CHECK.badArgument("9: steepleOf what", () -> x.steepleOf(0, far));
            CHECK.outOfBounds("10: vote", () -> x.vote(far, 1));
            CHECK.outOfBounds("10: vote both", () -> x.vote(far, far));
            CHECK.badArgument("10: vote height", () -> x.vote(0, far));
            CHECK.outOfBounds("11: best", () -> x.best(far, 0, 0));
            CHECK.outOfBounds("11: best all", () -> x.best(far, far, far));
            CHECK.badArgument("11: best what", () -> x.best(0, far, 0));
            CHECK.badArgument("11: best way", () -> x.best(0, 0, far));
            CHECK.badArgument("12: setting", () -> x.setting(far));
            CHECK.outOfBounds("20: apart", () -> x.apart(far, 0));
            CHECK.outOfBounds("20: apart other", () -> x.apart(0, far));
            CHECK.outOfBounds("21: against", () -> x.against(far));
            CHECK.outOfBounds("22: without", () -> x.without(far, 0));
            CHECK.outOfBounds("22: without both", () -> x.without(far, far));
            CHECK.badArgument("22: without what", () -> x.without(0, far));
            CHECK.outOfBounds("23: swings teller", () -> x.swings(far, 0));
            CHECK.outOfBounds("23: swings steeple", () -> x.swings(0, far));
        }
        CHECK.badArgument("6: about(10)", () -> x.about(10));
        CHECK.outOfBounds("7: measureOf(6, 0)", () -> x.measureOf(6, 0));
        CHECK.badArgument("7: measureOf(0, 11)", () -> x.measureOf(0, 11));
        CHECK.outOfBounds("8: tellerOf(6, 0)", () -> x.tellerOf(6, 0));
        CHECK.badArgument("8: tellerOf(0, 5)", () -> x.tellerOf(0, 5));
        CHECK.outOfBounds("9: steepleOf(3, 0)", () -> x.steepleOf(3, 0));
        CHECK.badArgument("9: steepleOf(0, 3)", () -> x.steepleOf(0, 3));
        CHECK.outOfBounds("10: vote(3, 1)", () -> x.vote(3, 1));
        CHECK.badArgument("10: vote(0, 0)", () -> x.vote(0, 0));
        CHECK.outOfBounds("11: best(3, 0, 0)", () -> x.best(3, 0, 0));
        CHECK.badArgument("11: best(0, 3, 0)", () -> x.best(0, 3, 0));
        CHECK.badArgument("11: best(0, 0, 2)", () -> x.best(0, 0, 2));
        CHECK.badArgument("12: setting(2)", () -> x.setting(2));
        CHECK.outOfBounds("20: apart(6, 0)", () -> x.apart(6, 0));
        CHECK.outOfBounds("20: apart(0, 6)", () -> x.apart(0, 6));
        CHECK.outOfBounds("21: against(3)", () -> x.against(3));
        CHECK.outOfBounds("22: without(6, 0)", () -> x.without(6, 0));
        CHECK.badArgument("22: without(0, 3)", () -> x.without(0, 3));
        CHECK.outOfBounds("23: swings(6, 0)", () -> x.swings(6, 0));
        CHECK.outOfBounds("23: swings(0, 3)", () -> x.swings(0, 3));
    }
}

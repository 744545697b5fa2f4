/** The boundary sentences of promises 20 to 24: what would be. */
final class WouldBeEdges {
    private static final int NONE = SteepleWords.NONE;

    private final Edges edges;

    WouldBeEdges(Edges edges) {
        this.edges = edges;
    }

    void run() {
        apart();
        against();
        without();
        swings();
        truest();
    }

    private void apart() {
        edges.each(this::noSuchMeasures, this::leastLessGreatest, this::heightInCommon, this::notOfOneSteeple,
                this::apartChangesNothing);
    }

    private void against() {
        edges.each(this::againstNoSteeple, this::nobodyAgainst, this::greatestWeight, this::farthest, this::lowestOfThose,
                this::lowestBestHeight, this::againstInFullParish, this::againstChangesNothing);
    }

    private void without() {
        edges.each(this::withoutNoMeasure, this::withoutOutOfRange, this::withoutNamesFirst, this::withoutWhat,
                this::withoutTheOnlyOne, this::withoutThatAlone);
    }

    private void swings() {
        edges.each(this::swingsOfNoTellerOrSteeple, this::leastTrust, this::noTrustIsEnough, this::ofThisTeller,
                this::swingsInFullParish, this::lowestBestIsTold, this::swingsChangesNothing);
    }

    private void truest() {
        edges.each(this::rightOrWrongAtAll, this::greatestShare, this::moreOfBoth, this::lowestOfSeveral,
                this::truestChangesNothing);
    }

    // ---- promise 20

    private void noSuchMeasures() {
        edges.sentence(20, "Throws `IndexOutOfBoundsException` if there is no such measure");
        for (int k : new int[] {-1, 16, Integer.MIN_VALUE, Integer.MAX_VALUE}) {
            edges.refused(Edges.BOUNDS, "apart(" + k + ", 0)", x -> x.apart(k, 0), States.ALL);
            edges.refused(Edges.BOUNDS, "apart(0, " + k + ")", x -> x.apart(0, k), States.ALL);
            edges.refused(Edges.BOUNDS, "apart(" + k + ", " + k + ")", x -> x.apart(k, k), States.ALL);
        }
        edges.refused(Edges.BOUNDS, "apart of the one behind the last", x -> x.apart(x.about(0), 0), States.ALL);
        edges.refused(Edges.BOUNDS, "apart from the one behind the last", x -> x.apart(0, x.about(0)), States.ALL);
        edges.due("apart(15, 0)", States.spread().apart(15, 0), 741);
        edges.due("apart(0, 15)", States.spread().apart(0, 15), 741);
    }

    private void feet(int least, int greatest, int otherLeast, int otherGreatest, int want) {
        SteepleWords x = new SteepleWords();
        States.word(x, 1, 0, least, greatest);
        States.word(x, 1, 1, otherLeast, otherGreatest);
        States.word(x, 1, 0, otherLeast, otherGreatest);
        String what = least + " to " + greatest + " from " + otherLeast + " to " + otherGreatest;
        edges.due(what, x.apart(0, 1), want);
        edges.due(what + ", the other way", x.apart(1, 0), want);
        edges.due(what + ", by one teller", x.apart(2, 0), want);
    }

    private void leastLessGreatest() {
        edges.sentence(20, "they are apart by the least height of the higher one less the greatest height of the lower one.");
        feet(10, 20, 21, 30, 1);
        feet(10, 20, 22, 30, 2);
        feet(10, 20, 1, 9, 1);
        feet(1, 1, 999, 999, 998);
        feet(1, 2, 998, 999, 996);
    }

    private void heightInCommon() {
        edges.sentence(20, "0 if they tell a height in common;");
        feet(10, 20, 20, 30, 0);
        feet(10, 20, 1, 10, 0);
        feet(10, 20, 12, 13, 0);
        feet(10, 20, 10, 20, 0);
        feet(10, 20, 1, 999, 0);
        edges.due("from itself", States.spread().apart(15, 15), 0);
    }

    private void notOfOneSteeple() {
        edges.sentence(20, "NONE if they are not of one steeple (by whichever tellers).");
        SteepleWords x = new SteepleWords();
        States.word(x, 0, 0, 10, 20);
        States.word(x, 1, 0, 10, 20);
        States.word(x, 2, 1, 500, 600);
        for (int k = 0; k <= 2; k++) {
            for (int other = 0; other <= 2; other++) {
                edges.due("apart(" + k + ", " + other + ")", x.apart(k, other), k == other ? 0 : NONE);
            }
        }
    }

    private void apartChangesNothing() {
        edges.sentence(20, "what would be; these and all following methods up to the save slots change nothing.");
        edges.telling("apart(0, 1)", x -> x.apart(0, 1), 186, States.ODD);
        edges.telling("apart(0, 15)", x -> x.apart(0, 15), 365, States.FULL);
    }

    // ---- promise 21

    private void againstNoSteeple() {
        edges.sentence(21, "Throws `IndexOutOfBoundsException` if there is no such steeple");
        for (int s : Edges.outside(0, 2)) {
            edges.refused(Edges.BOUNDS, "against(" + s + ")", x -> x.against(s), States.ALL);
        }
        edges.telling("against(0)", x -> x.against(0), NONE, States.ODD);
        edges.telling("against(2)", x -> x.against(2), 0, States.ODD);
    }

    /** Words of steeple 0: each row is a teller, a least and a greatest height. */
    private static SteepleWords words(int[][] rows, int... trusts) {
        SteepleWords x = new SteepleWords();
        for (int[] row : rows) {
            States.word(x, 0, row[0], row[1], row[2]);
        }
        for (int t = 0; t < trusts.length; t++) {
            x.trust(t, trusts[t]);
        }
        return x;
    }

    private void nobodyAgainst() {
        edges.sentence(21, "NONE if there is none.");
        edges.due("without measures", new SteepleWords().against(0), NONE);
        edges.due("one measure", words(new int[][] {{0, 10, 20}}).against(0), NONE);
        edges.due("sixteen that agree", States.together().against(1), NONE);
        edges.due("of another steeple", States.together().against(0), NONE);
        edges.due("it ends at the best height", words(new int[][] {{0, 10, 20}, {1, 1, 10}}).against(0), NONE);
        edges.due("it ends just below", words(new int[][] {{0, 10, 20}, {0, 10, 20}, {1, 1, 9}}).against(0), 2);
        edges.due("a weight of 0 against height 1", words(new int[][] {{0, 2, 20}}, 0).against(0), 0);
        edges.due("a weight of 0 that tells height 1", words(new int[][] {{0, 1, 20}}, 0).against(0), NONE);
    }

    private void greatestWeight() {
        edges.sentence(21, "the one with the greatest weight");
        int[][] rows = {{0, 500, 500}, {0, 500, 500}, {1, 1, 1}, {2, 499, 499}};
        edges.due("6 against 5, though nearer", words(rows, 5, 5, 6).against(0), 3);
        edges.due("6 against 5, farther", words(rows, 5, 6, 5).against(0), 2);
        SteepleWords x = words(rows, 5, 5, 5);
        x.measure(0, 2, 0, 2, 1, 249, 0);
        edges.due("a shadow against words", x.against(0), 4);
        x.trust(1, 6);
        edges.due("a word of 6 and a shadow of 5 and 1", x.against(0), 2);
    }

    private void farthest() {
        edges.sentence(21, "of several the one farthest from that height (by its nearer end)");
        int[][] below = {{0, 500, 500}, {0, 500, 500}, {1, 300, 400}, {2, 1, 401}};
        edges.due("100 and 99 below", words(below, 9).against(0), 2);
        int[][] above = {{0, 500, 500}, {0, 500, 500}, {1, 600, 610}, {2, 599, 999}};
        edges.due("100 and 99 above", words(above, 9).against(0), 2);
        int[][] later = {{0, 500, 500}, {0, 500, 500}, {1, 600, 610}, {2, 1, 399}};
        edges.due("100 above and 101 below", words(later).against(0), 3);
        int[][] ends = {{0, 500, 500}, {0, 500, 500}, {1, 1, 1}, {2, 999, 999}};
        edges.due("499 below and 499 above", words(ends).against(0), 2);
    }

    private void lowestOfThose() {
        edges.sentence(21, "of several of those the lowest;");
        int[][] alike = {{0, 500, 500}, {0, 500, 500}, {1, 600, 610}, {2, 300, 400}, {3, 600, 700}};
        edges.due("100 above, below and above", words(alike).against(0), 2);
        int[][] ends = {{1, 400, 400}, {0, 500, 500}, {0, 500, 500}, {2, 600, 600}};
        edges.due("100 below and above", words(ends).against(0), 0);
    }

    private void lowestBestHeight() {
        edges.sentence(21, "Returns of its measures that do not tell the lowest best height");
        // The row is 10 to 30, made of two words: the one that tells its higher part alone is against 10.
        edges.due("it tells other best heights", words(new int[][] {{0, 10, 19}, {1, 20, 30}}).against(0), 1);
        SteepleWords x = words(new int[][] {{0, 500, 500}, {0, 500, 500}});
        States.word(x, 1, 3, 7, 7);
        States.word(x, 2, 4, 900, 900);
        edges.due("others' measures do not count", x.against(0), NONE);
        edges.due("a steeple of its own", x.against(1), NONE);
    }

    private void againstInFullParish() {
        edges.sentence(21, "Finds the measure that speaks most against the best height.");
        edges.due("the last is the farthest of fifteen", States.spread().against(0), 15);
        SteepleWords x = States.spread();
        x.trust(1, 4);
        x.trust(3, 4);
        edges.due("the last is lighter, the one ahead of it is not", x.against(0), 14);
        x.trust(2, 4);
        edges.due("nor is the one ahead of that", x.against(0), 12);
    }

    private void againstChangesNothing() {
        edges.sentence(21, "what would be; these and all following methods up to the save slots change nothing.");
        edges.telling("against(1)", x -> x.against(1), NONE, States.FRESH, States.ODD);
    }

    // ---- promise 22

    private void withoutNoMeasure() {
        edges.sentence(22, "Throws `IndexOutOfBoundsException` if there is no such measure");
        for (int k : new int[] {-1, 16, Integer.MIN_VALUE, Integer.MAX_VALUE}) {
            edges.refused(Edges.BOUNDS, "without(" + k + ", 0)", x -> x.without(k, 0), States.ALL);
        }
        edges.refused(Edges.BOUNDS, "without the one behind the last", x -> x.without(x.about(0), 0), States.ALL);
        edges.refused(Edges.BOUNDS, "without(0, 0) of none", x -> x.without(0, 0), States.FRESH);
        edges.due("without(0, 0)", States.spread().without(0, 0), 51);
        edges.due("without(15, 0)", States.spread().without(15, 0), 1);
    }

    private void withoutOutOfRange() {
        edges.sentence(22, "Throws `IllegalArgumentException` if what is not 0 to 2");
        for (int what : Edges.outside(0, 2)) {
            edges.refused(Edges.ARGUMENT, "without(0, " + what + ")", x -> x.without(0, what), States.WITH_MEASURES);
        }
    }

    private void withoutNamesFirst() {
        edges.sentence(22, "If several exceptions apply to a call, the one that its description names first is thrown.");
        edges.refused(Edges.BOUNDS, "without(16, 3)", x -> x.without(16, 3), States.ALL);
        edges.refused(Edges.BOUNDS, "without(-1, -1)", x -> x.without(-1, -1), States.ALL);
        edges.refused(Edges.BOUNDS, "without(0, 3)", x -> x.without(0, 3), States.FRESH);
    }

    private void withoutWhat() {
        edges.sentence(22, "- `what`: as for best(), of the steeple of the measure");
        int[] first = {186, 214, 6};
        int[] second = {400, 400, 4};
        for (int what = 0; what <= 2; what++) {
            int asked = what;
            edges.telling("without(0, " + what + ")", x -> x.without(0, asked), first[what], States.ODD);
            edges.telling("without(1, " + what + ")", x -> x.without(1, asked), second[what], States.ODD);
        }
    }

    private void withoutTheOnlyOne() {
        edges.sentence(22, "Tells what the best heights would be without a measure.");
        SteepleWords x = new SteepleWords();
        States.word(x, 1, 0, 50, 60);
        States.word(x, 2, 1, 70, 80);
        int[] none = {1, 999, 0};
        for (int what = 0; what <= 2; what++) {
            edges.due("without the only one of 1", x.without(0, what), none[what]);
            edges.due("without the only one of 2", x.without(1, what), none[what]);
        }
    }

    private void withoutThatAlone() {
        edges.sentence(22, "without a measure.");
        SteepleWords x = words(new int[][] {{0, 10, 30}, {0, 20, 30}, {1, 10, 25}, {1, 10, 25}});
        int[][] want = {{20, 25, 15}, {10, 25, 15}, {20, 25, 15}, {20, 25, 15}};
        for (int k = 0; k < want.length; k++) {
            for (int what = 0; what <= 2; what++) {
                edges.due("without(" + k + ", " + what + ")", x.without(k, what), want[k][what]);
            }
        }
        SteepleWords y = words(new int[][] {{0, 1, 999}, {1, 1, 1}, {2, 999, 999}});
        edges.due("the lowest", y.without(1, 0), 999);
        edges.due("the highest", y.without(2, 1), 1);
        edges.due("to the highest height", y.without(1, 1), 999);
    }

    // ---- promise 23

    private void swingsOfNoTellerOrSteeple() {
        edges.sentence(23, "Throws `IndexOutOfBoundsException` if there is no such teller or steeple");
        for (int t : Edges.outside(0, 5)) {
            edges.refused(Edges.BOUNDS, "swings(" + t + ", 0)", x -> x.swings(t, 0), States.ALL);
            edges.refused(Edges.BOUNDS, "swings(" + t + ", 3)", x -> x.swings(t, 3), States.ALL);
        }
        for (int s : Edges.outside(0, 2)) {
            edges.refused(Edges.BOUNDS, "swings(0, " + s + ")", x -> x.swings(0, s), States.ALL);
        }
        // A teller is named ahead of a steeple: 5 and 2 are the last ones of their kinds.
        edges.telling("swings(5, 2)", x -> x.swings(5, 2), 7, States.ODD);
        edges.telling("swings(0, 0)", x -> x.swings(0, 0), NONE, States.ODD);
        edges.telling("swings(4, 2)", x -> x.swings(4, 2), 3, States.ODD);
    }

    private void leastTrust() {
        edges.sentence(23, "Returns the least trust, 0 to 9, of this teller with which a measure of this teller tells the lowest "
                + "best height of the steeple;");
        for (int other = 0; other <= 8; other++) {
            edges.due("higher, against a word of " + other,
                    words(new int[][] {{0, 200, 200}, {1, 100, 100}}, 5, other).swings(0, 0), other + 1);
            edges.due("lower, against a word of " + other,
                    words(new int[][] {{0, 50, 50}, {1, 100, 100}}, 5, other).swings(0, 0), other == 0 ? 1 : other);
        }
        edges.due("height 1 needs none", words(new int[][] {{0, 1, 1}}).swings(0, 0), 0);
        edges.due("height 2, alone", words(new int[][] {{0, 2, 2}}).swings(0, 0), 1);
        edges.due("height 1 against a word of 9", words(new int[][] {{0, 1, 1}, {1, 2, 2}}, 5, 9).swings(0, 0), 9);
        edges.due("another one tells the same", words(new int[][] {{0, 90, 100}, {1, 90, 90}}).swings(0, 0), 0);
        SteepleWords x = words(new int[][] {{1, 100, 100}}, 5, 3);
        x.measure(0, 0, 0, 1, 1, 200, 0);
        x.set(0, 4);
        edges.due("a shadow of 4 without trust", x.swings(0, 0), 0);
        x.set(0, 3);
        edges.due("a shadow of 3 and 1", x.swings(0, 0), 1);
    }

    private void noTrustIsEnough() {
        edges.sentence(23, "NONE if there is none.");
        edges.due("without measures", new SteepleWords().swings(0, 0), NONE);
        edges.due("9 are enough", words(new int[][] {{0, 200, 200}, {1, 100, 100}}, 5, 8).swings(0, 0), 9);
        edges.due("9 are not", words(new int[][] {{0, 200, 200}, {1, 100, 100}}, 5, 9).swings(0, 0), NONE);
        edges.due("nor has the trust that is", words(new int[][] {{0, 200, 200}, {1, 100, 100}}, 9, 9).swings(0, 0), NONE);
        edges.due("another one's measure", words(new int[][] {{0, 200, 200}, {1, 100, 100}}).swings(2, 0), NONE);
        edges.due("of another steeple", words(new int[][] {{0, 1, 999}}).swings(0, 1), NONE);
        SteepleWords x = words(new int[][] {{1, 1, 999}, {0, 1, 999}});
        x.drop(1);
        edges.due("the last measure is gone", x.swings(0, 0), NONE);
        x.survey(0, 1);
        edges.due("all measures are gone", x.swings(1, 0), NONE);
    }

    private void ofThisTeller() {
        edges.sentence(23, "Finds the least trust with which a teller would swing a steeple.");
        int[][] rows = {{0, 200, 200}, {0, 190, 200}, {0, 200, 210}, {1, 100, 100}};
        edges.due("three measures of 3 outweigh 8", words(rows, 0, 8).swings(0, 0), 3);
        edges.due("three measures of 4 outweigh 9", words(rows, 9, 9).swings(0, 0), 4);
        edges.due("the other needs 1", words(rows, 0, 9).swings(1, 0), 1);
        edges.due("the other needs 9", words(rows, 3, 0).swings(1, 0), 9);
        edges.due("the other has too little", words(rows, 4, 9).swings(1, 0), NONE);
    }

    private void swingsInFullParish() {
        edges.sentence(23, "of this teller with which a measure of this teller tells the lowest best height of the steeple");
        edges.due("the lowest of sixteen", States.spread().swings(0, 0), 5);
        for (int t = 1; t <= 5; t++) {
            edges.due("one of the others", States.spread().swings(t, 0), 6);
        }
        edges.due("eight of sixteen that agree", States.together().swings(1, 1), 0);
        edges.due("none of sixteen", States.together().swings(2, 1), NONE);
    }

    private void lowestBestIsTold() {
        edges.sentence(23, "with which a measure of this teller tells the lowest best height of the steeple");
        // With 5 the row is 100 to 101, but its lowest height is the other's alone.
        edges.due("a higher part of the row", words(new int[][] {{0, 101, 101}, {1, 100, 100}}).swings(0, 0), 6);
        edges.due("the lowest of the row", words(new int[][] {{0, 101, 101}, {1, 100, 100}}).swings(1, 0), 5);
        edges.due("from the lowest on", words(new int[][] {{0, 100, 200}, {1, 100, 100}}).swings(0, 0), 0);
        edges.due("from the one behind it", words(new int[][] {{0, 101, 200}, {1, 100, 101}}).swings(0, 0), 1);
    }

    private void swingsChangesNothing() {
        edges.sentence(23, "what would be; these and all following methods up to the save slots change nothing.");
        edges.telling("swings(0, 0)", x -> x.swings(0, 0), NONE, States.FRESH, States.ODD);
        edges.telling("swings(3, 1)", x -> x.swings(3, 1), NONE, States.RICH);
    }

    // ---- promise 24

    /** A teller's words of steeple 0: so many that are right with 50, and so many that are wrong. */
    private static void judged(SteepleWords x, int t, int right, int wrong) {
        for (int i = 0; i < right + wrong; i++) {
            int h = i < right ? 50 : 60;
            States.word(x, 0, t, h, h);
            if (x.about(0) == 16 || i == right + wrong - 1) {
                x.survey(0, 50);
            }
        }
    }

    /** Each row: a teller, how often right, how often wrong. */
    private void truest(String what, int want, int[]... rows) {
        SteepleWords x = new SteepleWords();
        for (int[] row : rows) {
            judged(x, row[0], row[1], row[2]);
        }
        edges.due(what, x.truest(), want);
    }

    private void rightOrWrongAtAll() {
        edges.sentence(24, "Returns of those who were right or wrong at all");
        truest("nobody", NONE);
        truest("wrong once", 5, new int[] {5, 0, 1});
        truest("right once", 5, new int[] {5, 1, 0});
        truest("the first teller, wrong", 0, new int[] {0, 0, 1});
        SteepleWords x = new SteepleWords();
        States.word(x, 0, 2, 50, 50);
        x.survey(1, 50);
        x.evening();
        edges.due("measures, but none surveyed", x.truest(), NONE);
        x.survey(0, 50);
        edges.due("surveyed", x.truest(), 2);
        x.undo();
        edges.due("taken back", x.truest(), NONE);
    }

    private void greatestShare() {
        edges.sentence(24, "the one with the greatest share of right ones");
        truest("1 of 1 and 2 of 3", 3, new int[] {3, 1, 0}, new int[] {1, 2, 1});
        truest("1 of 2 and 2 of 3", 4, new int[] {1, 1, 1}, new int[] {4, 2, 1});
        truest("0 of 1 and 1 of 16", 5, new int[] {0, 0, 1}, new int[] {5, 1, 15});
        truest("2 of 3 and 5 of 8", 5, new int[] {5, 2, 1}, new int[] {0, 5, 3});
        // Both are 95 of a hundred, rounded down.
        truest("20 of 21 and 38 of 40", 2, new int[] {2, 20, 1}, new int[] {0, 38, 2});
        truest("19 of 20 and 20 of 21", 3, new int[] {2, 19, 1}, new int[] {3, 20, 1});
        truest("99 of 100 and 100 of 101", 1, new int[] {0, 99, 1}, new int[] {1, 100, 1});
    }

    private void moreOfBoth() {
        edges.sentence(24, "of several the one with more of both together");
        truest("1 of 2 and 2 of 4", 4, new int[] {1, 1, 1}, new int[] {4, 2, 2});
        truest("2 of 4 and 1 of 2", 1, new int[] {1, 2, 2}, new int[] {4, 1, 1});
        truest("1 of 1 and 2 of 2", 3, new int[] {0, 1, 0}, new int[] {3, 2, 0});
        truest("0 of 1 and 0 of 2", 5, new int[] {0, 0, 1}, new int[] {5, 0, 2});
        truest("2 of 3 and 4 of 6", 2, new int[] {1, 2, 1}, new int[] {2, 4, 2});
    }

    private void lowestOfSeveral() {
        edges.sentence(24, "of several of those the lowest; NONE if there is none.");
        truest("all six, 1 of 2", 0, new int[] {5, 1, 1}, new int[] {4, 1, 1}, new int[] {3, 1, 1}, new int[] {2, 1, 1},
                new int[] {1, 1, 1}, new int[] {0, 1, 1});
        truest("4 and 5, 0 of 1", 4, new int[] {4, 0, 1}, new int[] {5, 0, 1});
        truest("5 and 4, 1 of 1", 4, new int[] {5, 1, 0}, new int[] {4, 1, 0});
    }

    private void truestChangesNothing() {
        edges.sentence(24, "what would be; these and all following methods up to the save slots change nothing.");
        edges.telling("truest()", SteepleWords::truest, NONE, States.FRESH, States.FULL, States.ODD);
        edges.telling("truest()", SteepleWords::truest, 0, States.RICH);
    }
}

import java.util.function.IntPredicate;

/** The boundary sentences of promises 25 to 28: scripts, simulations and save slots. */
final class ScriptsEdges {
    private static final int NONE = SteepleWords.NONE;
    private static final long FACTOR = 6364136223846793005L;
    private static final long MORE = 1442695040888963407L;

    private final Edges edges;

    ScriptsEdges(Edges edges) {
        this.edges = edges;
    }

    void run() {
        runScript();
        commands();
        simulate();
        save();
        restore();
    }

    private void runScript() {
        edges.each(this::commandCount, this::scriptDigits, this::scriptIsRefused, this::highestGroupFirst,
                this::firstThatFails, this::onACopy, this::otherGroups, this::anotherDigit, this::failIfItWouldThrow,
                this::doNotExist);
    }

    private void commands() {
        edges.each(this::wordCommand, this::dropCommand, this::trustCommand, this::eveningCommand, this::noEveningAlways,
                this::surveyCommand, this::lowestCommand, this::voteCommand, this::atLeastTrustCommand,
                this::quarrelsCommand);
    }

    private void simulate() {
        edges.each(this::turnsOutOfRange, this::turnsInRange, this::longOverflow, this::leastAndGreatestSeeds,
                this::shiftedWithoutSign, this::shadowTurn, this::poolTurn, this::wordTurn, this::dropTurn,
                this::eveningTurn, this::settingTurn, this::surveyTurn, this::leftOutTurns, this::countedInTheTurns,
                this::simulatedOnACopy);
    }

    private void save() {
        edges.each(this::noSuchSlotToSave, this::savedMeasures, this::twoSlots, this::presentState, this::saveIsNoAction);
    }

    private void restore() {
        edges.each(this::noSuchSlot, this::nothingSaved, this::restoreNamesFirst, this::restorableSlots,
                this::measuresThen, this::forgetsRemembered, this::slotKeepsIt, this::restoreKeepsText);
    }

    // ---- promise 25: n and script

    private void commandCount() {
        edges.sentence(25, "- `n`: number of commands, 1 to 3");
        for (int n : Edges.outside(1, 3)) {
            edges.refused(Edges.ARGUMENT, "runScript(" + n + ", 400000)", x -> x.runScript(n, 400000), States.ALL);
            edges.refused(Edges.ARGUMENT, "runScript(" + n + ", 0)", x -> x.runScript(n, 0), States.ALL);
            edges.refused(Edges.ARGUMENT, "runScript(" + n + ", -1)", x -> x.runScript(n, -1), States.ALL);
        }
        edges.telling("one command", x -> x.runScript(1, 400000L), NONE, States.ALL);
        edges.telling("two commands", x -> x.runScript(2, 400000400000L), NONE, States.ALL);
        edges.telling("three commands", x -> x.runScript(3, 400000400000400000L), NONE, States.ALL);
    }

    private void scriptDigits() {
        edges.sentence(25, "- `script`: the commands, a number of at most 6 * n digits (0 or more)");
        for (int n = 1; n <= 3; n++) {
            int count = n;
            edges.telling("the script 0", x -> x.runScript(count, 0), 0, States.ALL);
        }
        edges.telling("6 digits", x -> x.runScript(1, 999999L), 0, States.ALL);
        edges.telling("12 digits", x -> x.runScript(2, 999999999999L), 0, States.ALL);
        edges.telling("18 digits", x -> x.runScript(3, 999999999999999999L), 0, States.ALL);
    }

    private void scriptIsRefused() {
        edges.sentence(25, "Throws `IllegalArgumentException` if n is out of range, or if script is negative or has more than "
                + "6 * n digits");
        long[][] rows = {{1, -1}, {2, -1}, {3, -1}, {1, -400000}, {3, Long.MIN_VALUE}, {1, 1000000}, {1, 9999999},
            {2, 1000000000000L}, {3, 1000000000000000000L}, {3, Long.MAX_VALUE}, {1, 1L << 32}, {1, Long.MAX_VALUE},
            {2, Long.MIN_VALUE}, {1, 400000400000L}, {2, 400000400000400000L}};
        for (long[] row : rows) {
            edges.refused(Edges.ARGUMENT, "runScript(" + row[0] + ", " + row[1] + ")",
                    x -> x.runScript((int) row[0], row[1]), States.ALL);
        }
    }

    private void script(String what, Edges.Make state, int n, long script, int want) {
        edges.due(what + ": runScript(" + n + ", " + script + ")", state.object().runScript(n, script), want);
    }

    private void highestGroupFirst() {
        edges.sentence(25, "the first command is the highest group of the number (with zeros before it, if it has fewer digits).");
        script("a word, then its drop", States.FRESH, 2, 100095200000L, NONE);
        script("a drop, then a word", States.FRESH, 2, 200000100095L, 0);
        script("in this order", States.FRESH, 3, 100095500095800006L, NONE);
        script("in another order", States.FRESH, 3, 100095800006500095L, 1);
        script("000000 and a command", States.FRESH, 2, 400000L, 0);
        script("000000, 000000 and a command", States.FRESH, 3, 400000L, 0);
        script("000000 and two commands", States.FRESH, 3, 400000400000L, 0);
        script("004000", States.FRESH, 1, 4000L, 0);
    }

    private void firstThatFails() {
        edges.sentence(25, "Returns the index, from 0, of the first command that fails; NONE if all succeed.");
        long right = 400000;
        long wrong = 500000;
        for (int bits = 0; bits < 8; bits++) {
            long script = 0;
            int first = NONE;
            for (int i = 2; i >= 0; i--) {
                boolean fails = (bits >> i & 1) == 1;
                script = 1000000 * script + (fails ? wrong : right);
                first = fails && first == NONE ? 2 - i : first;
            }
            script("three commands", States.FRESH, 3, script, first);
        }
        script("one that succeeds", States.FRESH, 1, right, NONE);
        script("one that fails", States.FRESH, 1, wrong, 0);
    }

    private void onACopy() {
        edges.sentence(25, "Runs a script on a copy of the state.");
        edges.telling("a word, a survey, an evening", x -> x.runScript(3, 100095500095400009L), NONE, States.FRESH, States.RICH,
                States.ODD);
        edges.telling("drops", x -> x.runScript(3, 200000200000200000L), NONE, States.RICH, States.FULL);
        edges.telling("trusts", x -> x.runScript(3, 300009310000350009L), NONE, States.ALL);
        edges.telling("what fails at last", x -> x.runScript(3, 300009500095000000L), 2, States.ALL);
    }

    private void otherGroups() {
        edges.sentence(25, "and so does any other group");
        for (int group : new int[] {0, 1, 9, 95, 999, 10000, 99999}) {
            script("a group that begins with 0", States.FULL, 1, group, 0);
            script("a group that begins with 0, behind another", States.FULL, 2, 400000000000L + group, 1);
        }
    }

    /** Another digit in each place where a 0 is written makes the command fail. */
    private void zeros(String group, int... places) {
        script(group, States.ODD, 1, Long.parseLong(group), NONE);
        for (int place : places) {
            for (char digit = '1'; digit <= '9'; digit++) {
                String other = group.substring(0, place) + digit + group.substring(place + 1);
                script(other, States.ODD, 1, Long.parseLong(other), 0);
            }
        }
    }

    private void anotherDigit() {
        edges.sentence(25, "(also one with another digit where a 0 is written).");
        zeros("200000", 3, 4, 5);
        zeros("300000", 2, 3, 4);
        zeros("400000", 1, 2, 3, 4);
        zeros("500100", 2);
        zeros("600999", 2);
        zeros("700000", 4, 5);
        zeros("800000", 2, 3, 4);
        zeros("900099", 1, 2, 3);
    }

    private void failIfItWouldThrow() {
        edges.sentence(25, "The commands 1 to 5 fail if the method would throw an exception");
        script("a word, with 16", States.FULL, 1, 100095, 0);
        script("a drop, then a word, with 16", States.FULL, 2, 200000100095L, NONE);
        script("a drop, then two words, with 16", States.FULL, 3, 200000100095100095L, 2);
        script("a word of 0 feet", States.FRESH, 1, 100000, 0);
        script("a drop of none", States.FRESH, 1, 200000, 0);
        script("a survey with 0 feet", States.FRESH, 1, 500000, 0);
        script("a trust of teller 6", States.FRESH, 1, 360000, 0);
    }

    private void doNotExist() {
        edges.sentence(25, "commands with steeples, tellers or measures that do not exist fail");
        for (int d = 0; d <= 9; d++) {
            int steeple = d <= 2 ? NONE : 0;
            int teller = d <= 5 ? NONE : 0;
            script("a word of steeple " + d, States.FRESH, 1, 100095 + 10000 * d, steeple);
            script("a word of teller " + d, States.FRESH, 1, 100095 + 1000 * d, teller);
            script("a drop with " + d, States.FULL, 1, 200000 + 1000 * d, NONE);
            script("a drop with 1" + d, States.FULL, 1, 210000 + 1000 * d, teller);
            script("a drop with " + d + "0", States.FULL, 1, 200000 + 10000 * d, d <= 1 ? NONE : 0);
            script("a trust of " + d, States.FRESH, 1, 300000 + 10000 * d, teller);
            script("a survey of " + d, States.FRESH, 1, 500095 + 10000 * d, steeple);
            script("the lowest best height of " + d, States.FRESH, 1, 600999 + 10000 * d, steeple);
            script("the best vote of " + d, States.FRESH, 1, 700000 + 10000 * d, steeple);
            script("the trust of " + d, States.FRESH, 1, 800000 + 10000 * d, teller);
        }
        script("the measure behind the last", States.ODD, 1, 202000, 0);
        script("the last measure", States.ODD, 1, 201000, NONE);
    }

    // ---- promise 25: the commands

    private void wordCommand() {
        edges.sentence(25, "1 s t h h h: a word of the teller t that the steeple s is hhh feet high.");
        script("001", States.FRESH, 1, 100001, NONE);
        script("999", States.FRESH, 1, 125999, NONE);
        script("000", States.FRESH, 1, 125000, 0);
        script("it is told from 95", States.FRESH, 2, 112095610095L, NONE);
        script("and not from 94", States.FRESH, 2, 112095610094L, 1);
        script("with 5", States.FRESH, 2, 112095710500L, NONE);
        script("and not with 6", States.FRESH, 2, 112095710600L, 1);
        script("to 95 alone", States.FRESH, 3, 112095102096710500L, NONE);
        script("by teller 2", States.FRESH, 3, 320009112095710900L, NONE);
    }

    private void dropCommand() {
        edges.sentence(25, "2 k k 0 0 0: drop(kk).");
        script("00 of 16", States.FULL, 1, 200000, NONE);
        script("15 of 16", States.FULL, 1, 215000, NONE);
        script("16 of 16", States.FULL, 1, 216000, 0);
        script("99 of 16", States.FULL, 1, 299000, 0);
        script("15 twice", States.FULL, 2, 215000215000L, 1);
        script("01, then 00", States.ODD, 2, 201000200000L, NONE);
        script("00, then 01", States.ODD, 2, 200000201000L, 1);
        script("the shadow's is gone", States.ODD, 2, 201000720500L, 1);
        script("the word is left", States.ODD, 2, 201000720400L, NONE);
        script("the word's is gone", States.ODD, 2, 200000720600L, NONE);
    }

    private void trustCommand() {
        edges.sentence(25, "3 t 0 0 0 v: trust(t, v).");
        for (int t = 0; t <= 5; t++) {
            for (int v = 0; v <= 9; v++) {
                long set = 300000 + 10000 * t + v;
                long asked = 800000 + 10000 * t;
                script("it is " + v, States.FRESH, 2, 1000000 * set + asked + v, NONE);
                if (v < 9) {
                    script("and no more", States.FRESH, 2, 1000000 * set + asked + v + 1, 1);
                }
            }
        }
    }

    private static SteepleWords fiveAgainstSix() {
        SteepleWords x = new SteepleWords();
        States.word(x, 0, 0, 100, 100);
        States.word(x, 0, 1, 200, 200);
        x.trust(1, 6);
        return x;
    }

    private void eveningCommand() {
        edges.sentence(25, "4 0 0 0 0 n: evening(), n times.");
        for (int n = 0; n <= 9; n++) {
            int left = Math.max(0, 5 - n);
            long asked = 1000000L * (400000 + n) + 800000;
            script("the trust that is left", ScriptsEdges::fiveAgainstSix, 2, asked + left, NONE);
            script("and no more", ScriptsEdges::fiveAgainstSix, 2, asked + left + 1, 1);
        }
    }

    private void noEveningAlways() {
        edges.sentence(25, "in 4, n as 0 always succeeds.");
        for (Edges.Make state : States.ALL) {
            script("n as 0", state, 1, 400000, NONE);
            script("n as 9", state, 1, 400009, NONE);
        }
        script("no evening goes by", ScriptsEdges::fiveAgainstSix, 2, 400000800005L, NONE);
    }

    private void surveyCommand() {
        edges.sentence(25, "5 s 0 h h h: survey(s, hhh).");
        script("001", States.FRESH, 1, 500001, NONE);
        script("999", States.FRESH, 1, 520999, NONE);
        script("000", States.FRESH, 1, 500000, 0);
        script("who is right gains", ScriptsEdges::fiveAgainstSix, 2, 500100800006L, NONE);
        script("1 alone", ScriptsEdges::fiveAgainstSix, 2, 500100800007L, 1);
        script("who is wrong loses", ScriptsEdges::fiveAgainstSix, 2, 500099800005L, 1);
        script("1 alone", ScriptsEdges::fiveAgainstSix, 2, 500099800004L, NONE);
        script("the measures are gone", ScriptsEdges::fiveAgainstSix, 2, 500100200000L, 1);
        script("those of another steeple stay", ScriptsEdges::fiveAgainstSix, 2, 510100201000L, NONE);
    }

    private void lowestCommand() {
        edges.sentence(25, "6 s 0 h h h: succeeds if the lowest best height of the steeple s is at most hhh.");
        script("186, at most 185", States.ODD, 1, 620185, 0);
        script("186, at most 186", States.ODD, 1, 620186, NONE);
        script("186, at most 187", States.ODD, 1, 620187, NONE);
        script("1, at most 0", States.FRESH, 1, 600000, 0);
        script("1, at most 1", States.FRESH, 1, 600001, NONE);
        script("999, at most 998", States.FRESH, 2, 120999620998L, 1);
        script("999, at most 999", States.FRESH, 2, 120999620999L, NONE);
    }

    private static SteepleWords heaviest() {
        SteepleWords x = States.together();
        x.trust(0, 9);
        x.trust(1, 9);
        x.set(0, 5);
        return x;
    }

    private void voteCommand() {
        edges.sentence(25, "7 s v v 0 0: succeeds if the vote of its best heights is at least vv.");
        script("88, at least 87", States::together, 1, 718700, NONE);
        script("88, at least 88", States::together, 1, 718800, NONE);
        script("88, at least 89", States::together, 1, 718900, 0);
        script("88, at least 99", States::together, 1, 719900, 0);
        script("184, at least 99", ScriptsEdges::heaviest, 1, 719900, NONE);
        script("0, at least 0", States.FRESH, 1, 700000, NONE);
        script("0, at least 1", States.FRESH, 1, 700100, 0);
        script("of another steeple", States::together, 1, 700100, 0);
    }

    private void atLeastTrustCommand() {
        edges.sentence(25, "8 t 0 0 0 v: succeeds if the trust of the teller t is at least v.");
        for (int t = 0; t <= 5; t++) {
            for (int v = 0; v <= 9; v++) {
                script("5, at least " + v, States.FRESH, 1, 800000 + 10000 * t + v, v <= 5 ? NONE : 0);
            }
        }
    }

    private void quarrelsCommand() {
        edges.sentence(25, "9 0 0 0 n n: succeeds if at most nn pairs of measures quarrel.");
        script("0, at most 0", States.FRESH, 1, 900000, NONE);
        script("1, at most 0", ScriptsEdges::fiveAgainstSix, 1, 900000, 0);
        script("1, at most 1", ScriptsEdges::fiveAgainstSix, 1, 900001, NONE);
        script("106, at most 99", States::spread, 1, 900099, 0);
        // Without two measures of the tellers 3 and 2 there are 13 and 12 pairs less.
        script("93, at most 99", States::spread, 2, 215000900099L, NONE);
        script("93, at most 93", States::spread, 2, 215000900093L, NONE);
        script("93, at most 92", States::spread, 2, 215000900092L, 1);
        script("two that are 1 apart", States.FRESH, 3, 100010101011900000L, 2);
    }

    // ---- promise 26

    private void turnsOutOfRange() {
        edges.sentence(26, "Throws `IllegalArgumentException` if m is out of range");
        for (int m : Edges.outside(1, 60)) {
            edges.refused(Edges.ARGUMENT, "simulate(7, " + m + ")", x -> x.simulate(7, m), States.ALL);
            edges.refused(Edges.ARGUMENT, "simulate(MIN, " + m + ")", x -> x.simulate(Long.MIN_VALUE, m), States.ALL);
        }
    }

    private static int turnNumber(long x) {
        return (int) (x >>> 33);
    }

    /** The turns once more by the calls of the face, in which those that throw are left out. */
    private static int replayed(SteepleWords x, long seed, int m) {
        int before = x.about(8);
        long at = seed;
        for (int i = 0; i < m; i++) {
            at = at * FACTOR + MORE;
            int r = turnNumber(at);
            Check.outcome(() -> turn(x, r));
        }
        return 10000 * x.about(0) + 100 * x.about(6) + (x.about(8) - before) % 100;
    }

    private static int turn(SteepleWords x, int r) {
        int q = r / 16;
        int s = q % 3;
        int t = q / 4 % 6;
        switch (r % 16) {
            case 0: case 1: case 2: case 3:
                return x.measure(s, t, 0, 1 + q / 32 % 20, 1 + q / 640 % 40, 1 + q / 256 % 400, q / 8 % 21);
            case 4: case 5:
                return x.measure(s, t, 1, 1 + q / 32 % 9, 1 + q / 288 % 60, 1 + q / 256 % 400, q / 8 % 21);
            case 6: case 7: case 8:
                return x.measure(s, t, 2, 1 + q / 32 % 900, 1 + q / 32 % 900 + q / 256 % 90, 0, 0);
            case 9:
                return x.drop(q % 16);
            case 10: case 11: case 12:
                return x.evening();
            case 13:
                return q / 8 % 2 == 0 ? x.set(0, q % 6) : x.set(1, q / 16 % 51);
            default:
                return x.survey(s, 1 + q / 32 % 999);
        }
    }

    private void simulated(Edges.Make state, long seed, int m) {
        edges.due("simulate(" + seed + ", " + m + ")", state.object().simulate(seed, m),
                replayed(state.object(), seed, m));
    }

    private void turnsInRange() {
        edges.sentence(26, "- `m`: number of turns, 1 to 60");
        for (Edges.Make state : States.ALL) {
            for (int m = 1; m <= 60; m++) {
                simulated(state, 20 * m, m);
            }
        }
    }

    private void longOverflow() {
        edges.sentence(26, "x * 6364136223846793005L + 1442695040888963407L (with long overflow)");
        for (Edges.Make state : States.ALL) {
            for (long seed : new long[] {0, 1, -1, Long.MAX_VALUE, Long.MIN_VALUE, Long.MAX_VALUE - 1, 1L << 32, -(1L << 33)}) {
                simulated(state, seed, 1);
                simulated(state, seed, 60);
            }
            for (long seed = 1; seed <= 100; seed++) {
                simulated(state, seed * FACTOR, 60);
            }
        }
    }

    private void leastAndGreatestSeeds() {
        edges.sentence(26, "- `seed`: any long");
        // Whatever the seed, a turn of a new parish leaves at most one measure and the trust of 30.
        for (long seed : new long[] {Long.MIN_VALUE, -1, 0, Long.MAX_VALUE}) {
            int told = new SteepleWords().simulate(seed, 1);
            edges.isTrue("simulate(" + seed + ", 1) is " + told, told == 3000 || told == 13000);
        }
    }

    /** The seed with which x is this one in the first turn. */
    private static long seedOf(long x) {
        long inverse = FACTOR;
        for (int i = 0; i < 6; i++) {
            inverse = inverse * (2 - FACTOR * inverse);
        }
        return (x - MORE) * inverse;
    }

    private static long seedOfTurn(long q, int kind) {
        return seedOf(16 * q + kind << 33);
    }

    /** A seed whose first turn is q and kind, and whose second one is as is asked. */
    private long seedOfTurns(long q, int kind, IntPredicate second) {
        long first = 16 * q + kind << 33;
        for (long low = 0; low < 10000000; low++) {
            if (second.test(turnNumber((first + low) * FACTOR + MORE))) {
                return seedOf(first + low);
            }
        }
        edges.isTrue("there are two such turns", false);
        return 0;
    }

    private static IntPredicate surveyOf(int s, int h) {
        return r -> r % 16 >= 14 && r / 16 % 3 == s && 1 + r / 16 / 32 % 999 == h;
    }

    private static IntPredicate evening() {
        return r -> r % 16 >= 10 && r % 16 <= 12;
    }

    private void shiftedWithoutSign() {
        edges.sentence(26, "and r = (int) (x >>> 33) is computed.");
        // The greatest r is 2147483647, with a negative x: survey(1, 502).
        SteepleWords x = new SteepleWords();
        States.word(x, 1, 0, 502, 502);
        States.word(x, 1, 1, 501, 501);
        States.word(x, 0, 2, 502, 502);
        edges.due("the greatest r", x.simulate(seedOf(-1), 1), 10000 + 3000 + 1);
        edges.due("the greatest r, the least x", x.simulate(seedOf(-1L << 33), 1), 10000 + 3000 + 1);
        // The least r is 0: a shadow of steeple 0 by teller 0.
        edges.due("the least r", x.simulate(seedOf(0), 1), 40000 + 3000);
        edges.due("the least r, the greatest x", x.simulate(seedOf((1L << 33) - 1), 1), 40000 + 3000);
        edges.due("r is 14: survey(0, 1)", x.simulate(seedOf(14L << 33), 1), 20000 + 2900);
        edges.due("r is 13: the last x", x.simulate(seedOf((14L << 33) - 1), 1), 30000 + 3000);
    }

    /** The measure that a turn makes: found by surveys just inside and outside of its heights. */
    private void measureTurn(int kind, long q, int s, int t, int... given) {
        SteepleWords twin = new SteepleWords();
        twin.measure(s, t, given[0], given[1], given[2], given[3], given[4]);
        int least = twin.measureOf(0, 7);
        int greatest = twin.measureOf(0, 8);
        String what = "turn " + kind + " with q " + q;
        edges.due(what, new SteepleWords().simulate(seedOfTurn(q, kind), 1), 13000);
        for (int h : new int[] {least - 1, least, greatest, greatest + 1}) {
            if (h >= 1 && h <= 999) {
                boolean right = h >= least && h <= greatest;
                edges.due(what + ", then survey(" + s + ", " + h + ")",
                        new SteepleWords().simulate(seedOfTurns(q, kind, surveyOf(s, h)), 2), right ? 3101 : 2900);
            }
        }
        SteepleWords x = new SteepleWords();
        x.trust(t, 9);
        edges.due(what + ", its teller", x.simulate(seedOfTurns(q, kind, surveyOf(s, least)), 2), 3401);
    }

    private void shadowTurn() {
        edges.sentence(26, "0 to 3: a shadow of s by t with 1 + q / 32 % 20, 1 + q / 640 % 40, 1 + q / 256 % 400 and q / 8 % 21.");
        measureTurn(0, 0, 0, 0, 0, 1, 1, 1, 0);
        measureTurn(1, 204788, 2, 5, 0, 20, 40, 400, 20);
        measureTurn(2, 511384, 1, 4, 0, 1, 40, 398, 20);
        measureTurn(3, 134217727, 1, 1, 0, 4, 36, 288, 0);
        measureTurn(0, 96243643, 1, 4, 0, 14, 21, 352, 17);
    }

    private void poolTurn() {
        edges.sentence(26, "4 and 5: a pool of s by t with 1 + q / 32 % 9, 1 + q / 288 % 60, 1 + q / 256 % 400 and q / 8 % 21.");
        measureTurn(4, 0, 0, 0, 1, 1, 1, 1, 0);
        measureTurn(5, 2764772, 2, 5, 1, 9, 60, 400, 20);
        measureTurn(4, 311304, 0, 0, 1, 9, 1, 17, 0);
        measureTurn(5, 134217727, 1, 1, 1, 7, 14, 288, 0);
        measureTurn(4, 7786030, 1, 5, 1, 8, 35, 15, 8);
    }

    private void wordTurn() {
        edges.sentence(26, "6 to 8: a word of s by t, from 1 + q / 32 % 900 to q / 256 % 90 more.");
        measureTurn(6, 0, 0, 0, 2, 1, 1, 0, 0);
        measureTurn(7, 115168, 1, 4, 2, 900, 989, 0, 0);
        measureTurn(8, 134217727, 1, 1, 2, 304, 341, 0, 0);
        measureTurn(6, 7786030, 1, 5, 2, 314, 398, 0, 0);
    }

    private void dropTurn() {
        edges.sentence(26, "9: drop(q % 16).");
        for (int k : new int[] {0, 1, 14, 15}) {
            edges.due("drop(" + k + ")", States.spread().simulate(seedOfTurn(16 + k, 9), 1), 153000);
            // With its least height the measure k alone is right.
            int h = 1 + 50 * k;
            long gone = seedOfTurns(k, 9, surveyOf(0, h));
            edges.due("drop(" + k + "), then its height", States.spread().simulate(gone, 2) % 100, 0);
            long there = seedOfTurns((k + 1) % 16, 9, surveyOf(0, h));
            edges.due("drop of another, then its height", States.spread().simulate(there, 2) % 100, 1);
        }
        SteepleWords fifteen = States.spread();
        fifteen.drop(15);
        edges.due("drop(14) of 15", fifteen.simulate(seedOfTurn(14, 9), 1), 143000);
        edges.due("drop(15) of 15", fifteen.simulate(seedOfTurn(15, 9), 1), 153000);
    }

    private void eveningTurn() {
        edges.sentence(26, "10 to 12: evening().");
        // Beside them stand a drop of no measure and set(1, 0).
        int[] want = {23100, 23000, 23000, 23000, 23100};
        for (int kind = 9; kind <= 13; kind++) {
            edges.due("a turn of kind " + kind, fiveAgainstSix().simulate(seedOfTurn(15, kind), 1), want[kind - 9]);
        }
    }

    private static SteepleWords shadowAgainstWord(int trustOfWord) {
        SteepleWords x = new SteepleWords();
        x.measure(0, 0, 0, 1, 1, 100, 0);
        States.word(x, 0, 1, 300, 300);
        x.trust(0, 2);
        x.trust(1, trustOfWord);
        return x;
    }

    private static SteepleWords twoApartBy(int feet) {
        SteepleWords x = new SteepleWords();
        States.word(x, 0, 0, 100, 100);
        States.word(x, 0, 1, 100 + feet, 100 + feet);
        x.trust(1, 6);
        return x;
    }

    private void settingTurn() {
        edges.sentence(26, "13: set(0, q % 6), if q / 8 % 2 is 0, otherwise set(1, q / 16 % 51).");
        // The evening behind it tells the setting: a shadow of 2 and so much more, against a word.
        for (int v = 0; v <= 5; v++) {
            long seed = seedOfTurns(48 + v, 13, evening());
            for (int word = 1 + v; word <= 3 + v; word++) {
                edges.due("set(0, " + v + "), a word of " + word, shadowAgainstWord(word).simulate(seed, 2),
                        20000 + 100 * (22 + word) - (word == 2 + v ? 0 : 100));
            }
        }
        for (int v : new int[] {0, 1, 6, 49, 50}) {
            long seed = seedOfTurns(8 + 16 * v, 13, evening());
            edges.due("set(1, " + v + "), apart by " + v, twoApartBy(v).simulate(seed, 2), 23100);
            edges.due("set(1, " + v + "), apart by " + (v + 1), twoApartBy(v + 1).simulate(seed, 2), 23000);
        }
        long again = seedOfTurns(8 + 16 * 51, 13, evening());
        edges.due("51 is 0 again, apart by 1", twoApartBy(1).simulate(again, 2), 23000);
    }

    private static SteepleWords ofEachSteeple(int h) {
        SteepleWords x = new SteepleWords();
        for (int s = 0; s <= 2; s++) {
            States.word(x, s, s, h, h);
        }
        return x;
    }

    private void surveyTurn() {
        edges.sentence(26, "Otherwise: survey(s, 1 + q / 32 % 999).");
        for (int kind = 14; kind <= 15; kind++) {
            for (int s = 0; s <= 2; s++) {
                edges.due("survey(" + s + ", 1)", ofEachSteeple(1).simulate(seedOfTurn(s, kind), 1), 23101);
                edges.due("survey(" + s + ", 1), not 2", ofEachSteeple(2).simulate(seedOfTurn(s, kind), 1), 22900);
                edges.due("survey(" + s + ", 1) again", ofEachSteeple(1).simulate(seedOfTurn(31968 + s, kind), 1), 23101);
                // 31936 is 998 times 32, and one more than a number of threes.
                int q = 31936 + (s + 2) % 3;
                edges.due("survey(" + s + ", 999)", ofEachSteeple(999).simulate(seedOfTurn(q, kind), 1), 23101);
                edges.due("survey(" + s + ", 999), not 998", ofEachSteeple(998).simulate(seedOfTurn(q, kind), 1), 22900);
            }
        }
    }

    private void leftOutTurns() {
        edges.sentence(26, "What would throw an exception is left out.");
        for (int kind = 0; kind <= 8; kind++) {
            edges.due("a measure, with 16", States.spread().simulate(seedOfTurn(5, kind), 1), 163000);
            SteepleWords fifteen = States.spread();
            fifteen.drop(3);
            edges.due("a measure, with 15", fifteen.simulate(seedOfTurn(5, kind), 1), 163000);
            fifteen.drop(3);
            edges.due("a measure, with 14", fifteen.simulate(seedOfTurn(5, kind), 1), 153000);
        }
        for (int k = 0; k <= 15; k++) {
            edges.due("a drop of none", new SteepleWords().simulate(seedOfTurn(k, 9), 1), 3000);
        }
        // What is left out is a turn all the same: the survey behind it is the second one.
        long seed = seedOfTurns(0, 0, surveyOf(0, 1));
        edges.due("a measure that is left out, then a survey", States.spread().simulate(seed, 2) % 100, 1);
        edges.due("one turn alone", States.spread().simulate(seed, 1), 163000);
    }

    private void countedInTheTurns() {
        edges.sentence(26, "(how often tellers were right in the turns, modulo 100)");
        // survey(1, 95): q is 94 times 32, and one more than a number of threes.
        long seed = seedOfTurn(3008 + 2, 14);
        edges.due("sixteen in one turn", States.together().simulate(seed, 1), 3816);
        SteepleWords x = new SteepleWords();
        for (int i = 0; i < 112; i++) {
            States.word(x, 1, 0, 95, 95);
            if (i % 16 == 15) {
                x.survey(1, 95);
            }
        }
        edges.due("112 ahead of the turns", x.about(8), 112);
        edges.due("none in the turns", x.simulate(seed, 1), 3400);
        States.word(x, 1, 0, 95, 95);
        edges.due("one in the turns", x.simulate(seed, 1), 3401);
    }

    private void simulatedOnACopy() {
        edges.sentence(26, "Simulates m turns on a copy of the state.");
        for (Edges.Make state : States.ALL) {
            for (long seed = 1; seed <= 3; seed++) {
                long from = seed;
                edges.telling("simulate(" + seed + ", 60)", x -> x.simulate(from, 60), replayed(state.object(), seed, 60), state);
            }
        }
    }

    // ---- promise 27

    private void noSuchSlotToSave() {
        edges.sentence(27, "Throws `IndexOutOfBoundsException` if there is no such save slot");
        for (int slot : Edges.outside(0, 1)) {
            edges.refused(Edges.BOUNDS, "save(" + slot + ")", x -> x.save(slot), States.ALL);
        }
    }

    private void savedMeasures() {
        edges.sentence(27, "Returns the measures.");
        edges.due("none", new SteepleWords().save(0), 0);
        edges.due("two", States.ODD.object().save(1), 2);
        edges.due("sixteen", States.FULL.object().save(0), 16);
        edges.due("sixteen", States.FULL.object().save(1), 16);
    }

    private void twoSlots() {
        edges.sentence(27, "- `slot`: 0 or 1");
        for (int slot = 0; slot <= 1; slot++) {
            SteepleWords x = new SteepleWords();
            States.word(x, 0, 0, 1, 1);
            x.save(slot);
            States.word(x, 0, 0, 2, 2);
            x.save(1 - slot);
            edges.due("restore(" + slot + ")", x.restore(slot), 1);
            edges.due("restore(" + (1 - slot) + ")", x.restore(1 - slot), 2);
        }
    }

    private void presentState() {
        edges.sentence(27, "Stores the present state in a save slot.");
        for (int slot = 0; slot <= 1; slot++) {
            for (Edges.Make state : States.ALL) {
                SteepleWords x = state.object();
                x.save(slot);
                x.survey(0, 95);
                x.survey(1, 95);
                x.survey(2, 95);
                x.evening();
                x.set(0, 2);
                x.trust(0, 6);
                x.restore(slot);
                edges.isTrue("it is there again", Telling.of(x).equals(Telling.of(state.object())));
            }
        }
        SteepleWords y = new SteepleWords();
        y.save(0);
        States.word(y, 0, 0, 1, 1);
        y.save(0);
        y.drop(0);
        edges.due("the later one takes the place of the earlier one", y.restore(0), 1);
    }

    private void saveIsNoAction() {
        edges.sentence(27, "Before each action, the state is remembered.");
        SteepleWords x = new SteepleWords();
        x.save(0);
        edges.isTrue("undo() behind save() throws", Check.outcome(x::undo).equals("java.lang.IllegalStateException"));
        x.evening();
        x.save(1);
        edges.due("undo() takes the evening back", x.undo(), 0);
        edges.due("it is gone", x.about(2), 0);
        edges.due("the slot still has it", x.restore(1), 0);
        edges.due("the evening", x.about(2), 1);
    }

    // ---- promise 28

    private void noSuchSlot() {
        edges.sentence(28, "Throws `IndexOutOfBoundsException` if there is no such save slot");
        for (int slot : Edges.outside(0, 1)) {
            edges.refused(Edges.BOUNDS, "restore(" + slot + ")", x -> x.restore(slot), States.ALL);
        }
    }

    private static SteepleWords savedBeforeLoad() {
        SteepleWords x = States.RICH.object();
        x.save(0);
        x.save(1);
        x.load();
        x.evening();
        return x;
    }

    private static SteepleWords savedOnceBehindLoad() {
        SteepleWords x = savedBeforeLoad();
        x.save(1);
        return x;
    }

    private void nothingSaved() {
        edges.sentence(28, "Throws `IllegalStateException` if nothing has been saved in it since the last load");
        edges.refused(Edges.STATE, "restore(0) of a new object", x -> x.restore(0), States.FRESH);
        edges.refused(Edges.STATE, "restore(1) of a new object", x -> x.restore(1), States.FRESH);
        edges.refused(Edges.STATE, "restore(0), with 1 alone saved", x -> x.restore(0), States.ODD);
        edges.refused(Edges.STATE, "restore(0) behind load", x -> x.restore(0), ScriptsEdges::savedBeforeLoad);
        edges.refused(Edges.STATE, "restore(1) behind load", x -> x.restore(1), ScriptsEdges::savedBeforeLoad);
        edges.refused(Edges.STATE, "restore(0), with 1 saved behind load", x -> x.restore(0), ScriptsEdges::savedOnceBehindLoad);
        edges.due("restore(1), saved behind load", savedOnceBehindLoad().restore(1), 1);
        SteepleWords y = States.ODD.object();
        edges.isTrue("load() throws", Check.outcome(y::load).equals("java.lang.IllegalStateException"));
        edges.due("restore(1) behind a load that throws", y.restore(1), 1);
    }

    private void restoreNamesFirst() {
        edges.sentence(28, "If several exceptions apply to a call, the one that its description names first is thrown.");
        edges.refused(Edges.BOUNDS, "restore(2), with nothing saved", x -> x.restore(2), States.FRESH);
        edges.refused(Edges.BOUNDS, "restore(-1), with nothing saved", x -> x.restore(-1), States.FRESH);
    }

    private void restorableSlots() {
        edges.sentence(28, "- `slot`: 0 or 1");
        edges.due("restore(0)", States.FULL.object().restore(0), 9);
        edges.due("restore(1)", States.FULL.object().restore(1), 16);
    }

    private void measuresThen() {
        edges.sentence(28, "Returns the measures then.");
        SteepleWords x = new SteepleWords();
        x.save(0);
        for (int k = 0; k < 16; k++) {
            States.word(x, 0, 0, 1, 1);
        }
        x.save(1);
        edges.due("none", x.restore(0), 0);
        edges.due("none are there", x.about(0), 0);
        edges.due("sixteen", x.restore(1), 16);
        edges.due("sixteen are there", x.about(0), 16);
    }

    private void forgetsRemembered() {
        edges.sentence(28, "Replaces the state by the one in a save slot, and forgets all remembered states.");
        for (Edges.Make state : new Edges.Make[] {States.RICH, States.FULL, States.ODD}) {
            SteepleWords x = state.object();
            x.restore(1);
            edges.isTrue("undo() throws", Check.outcome(x::undo).equals("java.lang.IllegalStateException"));
            x.evening();
            edges.due("undo() of the first action behind it", x.undo(), 0);
        }
    }

    private void slotKeepsIt() {
        edges.sentence(28, "The save slot keeps it.");
        for (Edges.Make state : new Edges.Make[] {States.RICH, States.FULL, States.ODD}) {
            SteepleWords once = state.object();
            once.restore(1);
            SteepleWords twice = state.object();
            twice.restore(1);
            twice.survey(0, 500);
            twice.survey(2, 500);
            twice.evening();
            twice.set(0, 2);
            twice.trust(0, 6);
            twice.restore(1);
            edges.isTrue("it is there once more", Telling.of(twice).equals(Telling.of(once)));
        }
    }

    private void restoreKeepsText() {
        edges.sentence(28, "everything but the text and the save slots.");
        edges.keepsTextAndSlots("restore(1)", x -> x.restore(1), States.WITH_MEASURES);
        edges.keepsTextAndSlots("restore(0)", x -> x.restore(0), States.RICH, States.FULL);
        SteepleWords x = States.FULL.object();
        x.restore(0);
        edges.due("the other slot", x.restore(1), 16);
        edges.due("the text", x.clearText(), 120);
        x.restore(0);
        edges.due("no text", x.clearText(), 0);
    }
}

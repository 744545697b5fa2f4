/** The boundary sentences of promises 1 to 5: a new object, and the text. */
final class TextEdges {
    private static final int NONE = SteepleWords.NONE;
    private static final int MOST_SIGNS = 120;

    // Of each kind of command the one with the least numbers and the one with the greatest.
    private static final String[] COMMANDS = {"s000101001" + "00", "s252040400" + "20", "o001010010" + "0",
        "o25960400" + "20", "w00001001", "w25999999", "d00", "d15", "t00", "t59", "q", "v0001", "v2999"};

    private final Edges edges;

    TextEdges(Edges edges) {
        this.edges = edges;
    }

    void run() {
        newObject();
        append();
        clearText();
        errorPosition();
        load();
    }

    private void newObject() {
        edges.each(this::none, this::newParish, this::trustAtFirst, this::eveningsAtFirst, this::settingsAtFirst,
                this::nothingIsKeptAtFirst, this::callsOfAnObject);
    }

    private void append() {
        edges.each(this::appendCharacters, this::appendLength, this::mostCharacters, this::appendOutOfRange,
                this::appendToFullText, this::appendNamesFirst, this::appendIsNoAction);
    }

    private void clearText() {
        edges.each(this::emptiesText, this::previousLength, this::textIsNoState);
    }

    private void errorPosition() {
        edges.each(this::headOfParish, this::anyNumberOfCommands, this::letters, this::steepleAndTeller,
                this::shadowDigits, this::poolDigits, this::wordDigits, this::dropDigits, this::trustDigits,
                this::eveningHasNone, this::surveyDigits, this::noBlanks, this::leftToRight, this::firstWrongCharacter,
                this::endsTooSoon, this::noneIfParish, this::checkChangesNothing);
    }

    private void load() {
        edges.each(this::loadMakesNew, this::loadDoesCommands, this::loadLeavesOut, this::loadCountsLeftOut,
                this::loadForgets, this::loadKeepsText, this::loadIsRefused, this::loadIsNoAction);
    }

    // ---- promise 1

    private void none() {
        edges.sentence(1, "`NONE = -1`: There is no such result.");
        edges.due("NONE", SteepleWords.NONE, -1);
    }

    private void newParish() {
        edges.sentence(1, "Creates a parish without measures.");
        SteepleWords x = new SteepleWords();
        edges.due("about(0)", x.about(0), 0);
        edges.due("about(1)", x.about(1), 0);
        for (int s = 0; s <= 2; s++) {
            edges.due("steepleOf(" + s + ", 0)", x.steepleOf(s, 0), 0);
        }
        edges.refused(Edges.BOUNDS, "measureOf(0, 0)", y -> y.measureOf(0, 0), States.FRESH);
    }

    private void trustAtFirst() {
        edges.sentence(1, "A teller has a trust of 0 to 9, at first 5.");
        SteepleWords x = new SteepleWords();
        for (int t = 0; t <= 5; t++) {
            edges.due("tellerOf(" + t + ", 0)", x.tellerOf(t, 0), 5);
        }
    }

    private void eveningsAtFirst() {
        edges.sentence(1, "the evenings are 0 at first");
        edges.due("about(2)", new SteepleWords().about(2), 0);
    }

    private void settingsAtFirst() {
        edges.sentence(1, "0: the weight of shadows and pools, 0 to 5, at first 1; 1: the feet by which quarrels do not "
                + "matter, 0 to 50, at first 5.");
        edges.due("setting(0)", new SteepleWords().setting(0), 1);
        edges.due("setting(1)", new SteepleWords().setting(1), 5);
    }

    private void nothingIsKeptAtFirst() {
        edges.sentence(1, "`SteepleWords()`: Creates a parish");
        edges.due("clearText()", new SteepleWords().clearText(), 0);
        edges.refused(Edges.STATE, "undo()", SteepleWords::undo, States.FRESH);
        edges.refused(Edges.STATE, "restore(0)", x -> x.restore(0), States.FRESH);
        edges.refused(Edges.STATE, "restore(1)", x -> x.restore(1), States.FRESH);
    }

    private void callsOfAnObject() {
        edges.sentence(1, "An object is used for at most 512 calls after it has been made");
        SteepleWords x = new SteepleWords();
        SteepleWords y = new SteepleWords();
        SteepleWords z = new SteepleWords();
        for (int call = 1; call < 512; call++) {
            x.evening();
            y.survey(2, 1 + call % 999);
            if (call % 2 == 1) {
                States.word(z, 0, 0, 1, 1);
            } else {
                z.drop(0);
            }
        }
        edges.due("the evenings, in call 512", x.about(2), 511);
        edges.due("the surveys, in call 512", y.about(3), 511);
        edges.due("the measures that came, in call 512", z.about(1), 256);
        edges.due("the trust lost in 245 evenings", manyEvenings(245).about(7), 245 * 9);
        edges.due("right answers in 30 surveys", manySurveys(30, 50).about(8), 30 * 16);
        edges.due("one teller's in 30 surveys", manySurveys(30, 50).tellerOf(3, 2), 30 * 16);
        edges.due("wrong answers in 30 surveys", manySurveys(30, 51).tellerOf(3, 3), 30 * 16);
    }

    /** Eight shadows of teller 0 against eight words of teller 1, who loses all of his 9 in each evening. */
    private static SteepleWords manyEvenings(int count) {
        SteepleWords x = new SteepleWords();
        for (int i = 0; i < 8; i++) {
            x.measure(0, 0, 0, 1, 1, 100, 0);
            States.word(x, 0, 1, 200, 200);
        }
        x.trust(0, 9);
        for (int i = 0; i < count; i++) {
            x.trust(1, 9);
            x.evening();
        }
        return x;
    }

    private static SteepleWords manySurveys(int count, int h) {
        SteepleWords x = new SteepleWords();
        for (int i = 0; i < count; i++) {
            for (int k = 0; k < 16; k++) {
                States.word(x, 0, 3, 50, 50);
            }
            x.survey(0, h);
        }
        return x;
    }

    // ---- promise 2

    private void appendCharacters() {
        edges.sentence(2, "- `c`: character code, 0 to 255");
        edges.due("append(0)", new SteepleWords().append(0), 1);
        edges.due("append(255)", new SteepleWords().append(255), 1);
        SteepleWords x = new SteepleWords();
        for (int c = 0; c < MOST_SIGNS; c++) {
            edges.due("append(" + c + ")", x.append(c), c + 1);
        }
        SteepleWords y = new SteepleWords();
        for (int c = 255; c > 255 - MOST_SIGNS; c--) {
            edges.due("append(" + c + ")", y.append(c), 256 - c);
        }
    }

    private void appendLength() {
        edges.sentence(2, "Returns the new length of the text.");
        SteepleWords x = new SteepleWords();
        for (int length = 1; length <= MOST_SIGNS; length++) {
            edges.due("append('q')", x.append('q'), length);
        }
    }

    private void mostCharacters() {
        edges.sentence(2, "The object has a text buffer of at most 120 characters.");
        edges.due("append, with 119", States.written(States.evenings(119)).append('q'), 120);
        edges.refused(Edges.STATE, "append, with 120", x -> x.append('q'), () -> States.written(States.evenings(120)));
    }

    private void appendOutOfRange() {
        edges.sentence(2, "Throws `IllegalArgumentException` if c is out of range");
        for (int c : Edges.outside(0, 255)) {
            edges.refused(Edges.ARGUMENT, "append(" + c + ")", x -> x.append(c), States.ALL);
        }
        edges.refused(Edges.ARGUMENT, "append('P' + 256)", x -> x.append('P' + 256), States.ALL);
    }

    private void appendToFullText() {
        edges.sentence(2, "Throws `IllegalStateException` if the text already has 120 characters");
        edges.refused(Edges.STATE, "append(0)", x -> x.append(0), States.FULL);
        edges.refused(Edges.STATE, "append(255)", x -> x.append(255), States.FULL);
    }

    private void appendNamesFirst() {
        edges.sentence(2, "If several exceptions apply to a call, the one that its description names first is thrown.");
        edges.refused(Edges.ARGUMENT, "append(256) to 120 characters", x -> x.append(256), States.FULL);
        edges.refused(Edges.ARGUMENT, "append(-1) to 120 characters", x -> x.append(-1), States.FULL);
    }

    private void appendIsNoAction() {
        edges.sentence(2, "change the state, which consists of everything but the text and the save slots.");
        edges.keepsAllButText("append('q')", x -> x.append('q'), States.FRESH, States.RICH, States.ODD);
    }

    // ---- promise 3

    private void emptiesText() {
        edges.sentence(3, "Empties the text buffer.");
        SteepleWords x = States.written(States.evenings(MOST_SIGNS));
        x.clearText();
        edges.due("errorPosition() of nothing", x.errorPosition(), 0);
        edges.due("append('P') behind clearText()", x.append('P'), 1);
        edges.due("errorPosition() of P: nothing shines through", x.errorPosition(), NONE);
        x.append('t');
        edges.due("errorPosition() of Pt: nothing shines through", x.errorPosition(), 2);
        edges.due("clearText()", x.clearText(), 2);
        States.write(x, States.evenings(MOST_SIGNS));
        edges.due("load() of 120 new characters", x.load(), 0);
        edges.due("about(2)", x.about(2), MOST_SIGNS - 1);
    }

    private void previousLength() {
        edges.sentence(3, "Returns the previous length of the text.");
        for (int length : new int[] {1, 2, 119, 120}) {
            SteepleWords x = States.written(States.evenings(length));
            edges.due("clearText() of " + length, x.clearText(), length);
            edges.due("clearText() of nothing", x.clearText(), 0);
        }
        edges.due("clearText() of a new object", new SteepleWords().clearText(), 0);
    }

    private void textIsNoState() {
        edges.sentence(3, "change the state, which consists of everything but the text and the save slots.");
        edges.keepsAllButText("clearText()", SteepleWords::clearText, States.ALL);
        edges.keepsAllButText("clearText() and append", x -> x.clearText() + x.append('P'), States.ALL);
    }

    // ---- promise 4

    private void position(String text, int want) {
        edges.due("errorPosition() of '" + text + "'", States.written(text).errorPosition(), want);
    }

    private void headOfParish() {
        edges.sentence(4, "A parish as a text is the letter P");
        for (int c = 0; c <= 255; c++) {
            position("" + (char) c, c == 'P' ? NONE : 0);
            position((char) c + "q", c == 'P' ? NONE : 0);
        }
        position("", 0);
    }

    private void anyNumberOfCommands() {
        edges.sentence(4, "and then any number of commands");
        for (int length = 1; length <= MOST_SIGNS; length++) {
            position(States.evenings(length), NONE);
        }
        for (String command : COMMANDS) {
            position("P" + command.repeat((MOST_SIGNS - 1) / command.length()), NONE);
        }
        position("P" + String.join("", COMMANDS), NONE);
    }

    private void letters() {
        edges.sentence(4, "the first character that these rules do not allow at its place");
        for (int c = 0; c <= 255; c++) {
            int place = "sowdtv".indexOf(c) >= 0 ? 2 : c == 'q' ? NONE : 1;
            position("P" + (char) c, place);
            position("Pt00" + (char) c, place == NONE ? NONE : place + 3);
        }
    }

    /** Each number of so many digits, behind these characters and before those, and other signs in its places. */
    private void digits(String before, int digits, int least, int greatest, String after) {
        int numbers = digits == 1 ? 10 : digits == 2 ? 100 : 1000;
        for (int v = 0; v < numbers; v++) {
            String told = padded(v, digits);
            int allowed = allowedDigits(told, least, greatest);
            position(before + told + after, allowed == digits ? NONE : before.length() + allowed);
        }
        String right = padded(greatest, digits);
        for (int place = 0; place < digits; place++) {
            for (char other : new char[] {'/', ':', ' ', '-', '+', 'P', 'q', 0, 255, '0' + 128}) {
                position(before + right.substring(0, place) + other + right.substring(place + 1) + after,
                        before.length() + place);
            }
        }
    }

    private static String padded(int v, int digits) {
        String told = "000" + v;
        return told.substring(told.length() - digits);
    }

    /** Of a number's digits, how many are begun by an allowed number together with those before them. */
    private static int allowedDigits(String told, int least, int greatest) {
        int most = 0;
        for (int v = least; v <= greatest; v++) {
            String allowed = padded(v, told.length());
            int common = 0;
            while (common < told.length() && allowed.charAt(common) == told.charAt(common)) {
                common++;
            }
            most = Math.max(most, common);
        }
        return most;
    }

    private void steepleAndTeller() {
        edges.sentence(4, "a steeple and a teller are a digit each (0 to 2, 0 to 5)");
        String[][] commands = {{"s", "0101001" + "00"}, {"o", "101001" + "00"}, {"w", "001001"}};
        for (String[] command : commands) {
            digits("P" + command[0], 1, 0, 2, "0" + command[1]);
            digits("P" + command[0] + "0", 1, 0, 5, command[1]);
        }
        digits("Pv", 1, 0, 2, "001");
        digits("Pt", 1, 0, 5, "0");
    }

    private void shadowDigits() {
        edges.sentence(4, "two digits for a (01 to 20), two for b (01 to 40), three for c (001 to 400), and two for e "
                + "(00 to 20): a shadow;");
        digits("Ps00", 2, 1, 20, "01" + "001" + "00");
        digits("Ps00" + "01", 2, 1, 40, "001" + "00");
        digits("Ps00" + "01" + "01", 3, 1, 400, "00");
        digits("Ps00" + "01" + "01" + "001", 2, 0, 20, "");
    }

    private void poolDigits() {
        edges.sentence(4, "o, a steeple, a teller, one digit for a (1 to 9), two for b (01 to 60), three for c (001 to 400), "
                + "and two for e (00 to 20): a pool;");
        digits("Po00", 1, 1, 9, "01" + "001" + "00");
        digits("Po00" + "1", 2, 1, 60, "001" + "00");
        digits("Po00" + "1" + "01", 3, 1, 400, "00");
        digits("Po00" + "1" + "01" + "001", 2, 0, 20, "");
    }

    private void wordDigits() {
        edges.sentence(4, "w, a steeple, a teller, and twice three digits (001 to 999): a word;");
        digits("Pw00", 3, 1, 999, "999");
        digits("Pw00" + "001", 3, 1, 999, "");
        position("Pw00002001", NONE);
    }

    private void dropDigits() {
        edges.sentence(4, "d and two digits (00 to 15): drop();");
        digits("Pd", 2, 0, 15, "");
    }

    private void trustDigits() {
        edges.sentence(4, "t, a teller, and a digit (0 to 9): trust();");
        digits("Pt0", 1, 0, 9, "");
    }

    private void eveningHasNone() {
        edges.sentence(4, "q: evening();");
        position("Pq", NONE);
        for (char digit = '0'; digit <= '9'; digit++) {
            position("Pq" + digit, 2);
        }
    }

    private void surveyDigits() {
        edges.sentence(4, "v, a steeple, and three digits (001 to 999): survey().");
        digits("Pv0", 3, 1, 999, "");
    }

    private void noBlanks() {
        edges.sentence(4, "There are no blanks.");
        for (String command : COMMANDS) {
            String text = "P" + command;
            for (int place = 0; place <= text.length(); place++) {
                position(text.substring(0, place) + " " + text.substring(place), place);
            }
        }
    }

    private void leftToRight() {
        edges.sentence(4, "The text is read from left to right.");
        position("Pd16x", 3);
        position("xPd16", 0);
        position("Pqxd16", 2);
        position("Pt00d16qx", 6);
        position("Pv0000w", 5);
    }

    private void firstWrongCharacter() {
        edges.sentence(4, "The error position is the index of the first character that these rules do not allow at its place "
                + "(a digit is not allowed if no number that is allowed begins with it and those before it)");
        position("Ps002", 5);
        position("Ps0021", 5);
        position("Ps003", 4);
        position("Pv0000", 5);
        position("Pd1", 3);
        position("Pd16", 3);
        position("Pd2", 2);
        position("Po006", 4 + 1);
        position("Po0016", 6);
        position("Po00161", 6);
        position("Po0017", 5);
        position(States.evenings(119) + "x", 119);
        position(States.evenings(117) + "d16", 119);
        position("x" + States.evenings(119), 0);
    }

    private void endsTooSoon() {
        edges.sentence(4, "if the text ends too soon, it is the length of the text.");
        position("", 0);
        for (String command : COMMANDS) {
            for (int length = 1; length < command.length(); length++) {
                position("P" + command.substring(0, length), 1 + length);
                position(States.evenings(MOST_SIGNS - length) + command.substring(0, length), MOST_SIGNS);
            }
        }
    }

    private void noneIfParish() {
        edges.sentence(4, "Returns the error position of the text; NONE if it is a parish.");
        for (String command : COMMANDS) {
            position("P" + command, NONE);
            position(States.evenings(MOST_SIGNS - command.length()) + command, NONE);
            position("P" + command + "P", 1 + command.length());
        }
    }

    private void checkChangesNothing() {
        edges.sentence(4, "Checks the text.");
        edges.telling("errorPosition()", SteepleWords::errorPosition, NONE, States.RICH, States.FULL);
        edges.telling("errorPosition()", SteepleWords::errorPosition, 1, States.ODD);
        edges.telling("errorPosition()", SteepleWords::errorPosition, 0, States.FRESH);
    }

    // ---- promise 5

    private SteepleWords loaded(String text, int leftOut) {
        SteepleWords x = States.written(text);
        edges.due("load() of '" + text + "'", x.load(), leftOut);
        return x;
    }

    private void loadMakesNew() {
        edges.sentence(5, "Makes everything as in a new object, and then does the commands of the text.");
        String fresh = Telling.of(loaded("P", 0));
        for (Edges.Make state : States.ALL) {
            SteepleWords x = state.object();
            x.clearText();
            x.append('P');
            edges.due("load()", x.load(), 0);
            edges.isTrue("all is as in a new object", Telling.of(x).equals(fresh));
        }
        SteepleWords x = States.RICH.object();
        x.load();
        edges.isTrue("not as in the object before", Telling.of(x).equals(Telling.of(loaded("Pw00100110t19q", 0))));
    }

    private void numbers(SteepleWords x, int k, int... want) {
        for (int what = 0; what < want.length; what++) {
            edges.due("measureOf(" + k + ", " + what + ")", x.measureOf(k, what), want[what]);
        }
    }

    private void loadDoesCommands() {
        edges.sentence(5, "does the commands of the text.");
        numbers(loaded("Ps00" + "01" + "01" + "001" + "00", 0), 0, 0, 0, 0, 1, 1, 1, 0, 1, 1);
        numbers(loaded("Ps25" + "20" + "40" + "400" + "20", 0), 0, 2, 5, 0, 20, 40, 400, 20, 190, 210);
        numbers(loaded("Po00" + "1" + "01" + "001" + "00", 0), 0, 0, 0, 1, 1, 1, 1, 0, 1, 1);
        numbers(loaded("Po25" + "9" + "60" + "400" + "20", 0), 0, 2, 5, 1, 9, 60, 400, 20, 57, 63);
        numbers(loaded("Pw00001001", 0), 0, 0, 0, 2, 1, 1, 0, 0, 1, 1);
        numbers(loaded("Pw25999999", 0), 0, 2, 5, 2, 999, 999, 0, 0, 999, 999);
        numbers(loaded("Pw12001999", 0), 0, 1, 2, 2, 1, 999, 0, 0, 1, 999);
        edges.due("t00", loaded("Pt00", 0).tellerOf(0, 0), 0);
        edges.due("t59", loaded("Pt59", 0).tellerOf(5, 0), 9);
        edges.due("v0001", loaded("Pv0001", 0).steepleOf(0, 1), 1);
        edges.due("v2999", loaded("Pv2999", 0).steepleOf(2, 1), 999);
        edges.due("d00", loaded("Pw00001001d00", 0).about(0), 0);
        edges.due("no command", loaded("P", 0).about(2), 0);
        edges.due("119 commands", loaded(States.evenings(MOST_SIGNS), 0).about(2), 119);
        edges.due("13 words", loaded("P" + "w00001001".repeat(13), 0).about(0), 13);
    }

    private void loadLeavesOut() {
        edges.sentence(5, "Commands that would throw an exception are left out.");
        edges.due("b one below a", loaded("Pw00500499w00400400", 1).about(1), 1);
        edges.due("999 to 001", loaded("Pw00999001q", 1).about(2), 1);
        edges.due("b at least a", loaded("Pw00500500", 0).about(1), 1);
        edges.due("drop of none", loaded("Pd00q", 1).about(2), 1);
        edges.due("drop of the measure behind the last", loaded("Pw00001001w00002002d02", 1).about(0), 2);
        edges.due("drop of the last measure", loaded("Pw00001001w00002002d01", 0).about(0), 1);
        edges.due("d15, with 13", loaded("P" + "w00001001".repeat(12) + "d15q", 1).about(0), 12);
    }

    private void loadCountsLeftOut() {
        edges.sentence(5, "Returns the number of commands that are left out.");
        loaded("P", 0);
        loaded("Pd00", 1);
        loaded("Pqd15qd00q", 2);
        loaded("P" + "d00".repeat(39), 39);
        loaded("P" + "d00".repeat(39) + "qq", 39);
    }

    private void loadForgets() {
        edges.sentence(5, "Behind it no state is remembered, and both save slots are empty.");
        edges.refused(Edges.STATE, "undo() behind load()", SteepleWords::undo, TextEdges::richLoaded);
        edges.refused(Edges.STATE, "restore(0) behind load()", x -> x.restore(0), TextEdges::richLoaded);
        edges.refused(Edges.STATE, "restore(1) behind load()", x -> x.restore(1), TextEdges::richLoaded);
        SteepleWords x = richLoaded();
        x.evening();
        edges.due("undo() of the first action behind load()", x.undo(), 0);
    }

    private static SteepleWords richLoaded() {
        SteepleWords x = States.RICH.object();
        x.load();
        return x;
    }

    private void loadKeepsText() {
        edges.sentence(5, "Keeps the text, also if it throws the exception.");
        for (String text : new String[] {"P", "Pq", "Pd00", States.evenings(MOST_SIGNS)}) {
            SteepleWords x = loaded(text, text.equals("Pd00") ? 1 : 0);
            edges.due("load() once more", x.load(), text.equals("Pd00") ? 1 : 0);
            edges.due("clearText()", x.clearText(), text.length());
        }
        for (String text : new String[] {"", "x", "Pqx", States.evenings(119) + "x"}) {
            SteepleWords x = States.written(text);
            edges.isTrue("load() throws", Check.outcome(x::load).equals("java.lang.IllegalStateException"));
            edges.due("clearText()", x.clearText(), text.length());
        }
    }

    private void loadIsRefused() {
        edges.sentence(5, "Throws `IllegalStateException` if the text is not a parish");
        edges.refused(Edges.STATE, "load() of Px", SteepleWords::load, States.ODD);
        edges.refused(Edges.STATE, "load() of nothing", SteepleWords::load, States.FRESH);
        for (String text : new String[] {"p", "Pd", "Pd1", "Pd16", "Pqqx", "xP", States.evenings(119) + "d"}) {
            edges.refused(Edges.STATE, "load() of " + text, SteepleWords::load, () -> richWith(text));
        }
    }

    private static SteepleWords richWith(String text) {
        SteepleWords x = States.RICH.object();
        x.clearText();
        States.write(x, text);
        return x;
    }

    private void loadIsNoAction() {
        edges.sentence(5, "load and restore are not actions.");
        SteepleWords x = States.RICH.object();
        x.load();
        x.load();
        edges.isTrue("undo() behind load() throws", Check.outcome(x::undo).equals("java.lang.IllegalStateException"));
    }
}

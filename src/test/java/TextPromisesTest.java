/** Promises 1 to 5: a new object and the text. The answers are worked out by hand from the document. */
public final class TextPromisesTest {
    private static final Check CHECK = new Check("TextPromisesTest");

    public static void main(String[] args) {
        newObject();
        append();
        clearText();
        errorPosition();
        load();
        loadLeavesOut();
        loadMakesNew();
        CHECK.end();
    }

    private static void due(String what, long got, long want) {
        CHECK.due(what, got, want);
    }

    static void write(SteepleWords x, String text) {
        x.clearText();
        for (int i = 0; i < text.length(); i++) {
            x.append(text.charAt(i));
        }
    }

    private static SteepleWords loaded(String text, int leftOut) {
        SteepleWords x = new SteepleWords();
        write(x, text);
        due("load of " + text, x.load(), leftOut);
        return x;
    }

    private static void newObject() {
        SteepleWords x = new SteepleWords();
        int[] about = {0, 0, 0, 0, 0, 0, 30, 0, 0, 0};
        for (int what = 0; what < about.length; what++) {
            due("1: about(" + what + ")", x.about(what), about[what]);
        }
        for (int t = 0; t < 6; t++) {
            for (int what = 0; what <= 4; what++) {
                due("1: tellerOf(" + t + ", " + what + ")", x.tellerOf(t, what), what == 0 ? 5 : 0);
            }
        }
        for (int s = 0; s < 3; s++) {
            due("1: measures of " + s, x.steepleOf(s, 0), 0);
            due("1: survey of " + s, x.steepleOf(s, 1), SteepleWords.NONE);
            due("1: weights of " + s, x.steepleOf(s, 2), 0);
        }
        due("1: setting(0)", x.setting(0), 1);
        due("1: setting(1)", x.setting(1), 5);
        CHECK.outOfBounds("1: measureOf(0, 0)", () -> x.measureOf(0, 0));
        CHECK.badState("1: undo()", x::undo);
        CHECK.badState("1: restore(0)", () -> x.restore(0));
        CHECK.badState("1: restore(1)", () -> x.restore(1));
        due("1: the text is empty", x.clearText(), 0);
    }

    private static void append() {
        SteepleWords x = new SteepleWords();
        due("2: append(0)", x.append(0), 1);
        due("2: append(255)", x.append(255), 2);
        for (int bad : new int[] {-1, 256, Integer.MIN_VALUE, Integer.MAX_VALUE}) {
            CHECK.badArgument("2: append(" + bad + ")", () -> x.append(bad));
        }
        for (int i = 3; i <= 120; i++) {
            due("2: append", x.append('P'), i);
        }
        CHECK.badState("2: append to a full text", () -> x.append('P'));
        CHECK.badArgument("2: append(256) to a full text", () -> x.append(256));
        CHECK.badArgument("2: append(-1) to a full text", () -> x.append(-1));
        due("2: the text has its 120 characters", x.clearText(), 120);
    }

    private static void clearText() {
        SteepleWords x = new SteepleWords();
        due("3: clearText of nothing", x.clearText(), 0);
        write(x, "Pqq");
        due("3: clearText", x.clearText(), 3);
        due("3: clearText again", x.clearText(), 0);
        due("3: an empty text is no parish", x.errorPosition(), 0);
        due("3: append behind clearText", x.append('P'), 1);
        due("3: P alone is one", x.errorPosition(), SteepleWords.NONE);
    }

    private static void position(String text, int want) {
        SteepleWords x = new SteepleWords();
        write(x, text);
        String before = Telling.of(x);
        due("4: errorPosition of '" + text + "'", x.errorPosition(), want);
        CHECK.isTrue("4: errorPosition of '" + text + "' changes nothing", Telling.of(x).equals(before));
        due("4: the text stays", x.clearText(), text.length());
    }

    /** A command is a parish behind P; each of its beginnings ends too soon. */
    private static void right(String command) {
        position("P" + command, SteepleWords.NONE);
        position("Pq" + command + "t00", SteepleWords.NONE);
        for (int i = 1; i < command.length(); i++) {
            position("P" + command.substring(0, i), i + 1);
            position("P" + command.substring(0, i) + "x", i + 1);
        }
    }

    private static void errorPosition() {
        for (String command : new String[] {
            "s00010100100", "s25204040020", "s12091939919", "o00101001 00".replace(" ", ""), "o25960400" + "20",
            "w00001001", "w25999999", "w00500400", "d00", "d09", "d15", "t00", "t59", "q", "v0001", "v2999"}) {
            right(command);
        }
        position("", 0);
        position("P", SteepleWords.NONE);
        for (String head : new String[] {"p", "Q", " P", "q", "\u0000", "\u00ff", "0", "sP"}) {
            position(head, 0);
        }
        for (String letter : new String[] {"P", "S", "x", " ", "0", "\u00ff", "r", "u"}) {
            position("P" + letter, 1);
            position("Pq" + letter, 2);
        }
        shadowDigits();
        poolDigits();
        otherDigits();
    }

    private static void shadowDigits() {
        position("Ps3", 2);
        position("Ps06", 3);
        position("Ps003", 4);
        position("Ps0000", 5);
        position("Ps0021", 5);
        position("Ps00015", 6);
        position("Ps000100", 7);
        position("Ps000141", 7);
        position("Ps0001015", 8);
        position("Ps000101000", 10);
        position("Ps00010141", 9);
        position("Ps000101401", 10);
        position("Ps0001014003", 11);
        position("Ps00010140021", 12);
        position("Ps000101400:", 11);
        position("Ps000101400/", 11);
    }

    private static void poolDigits() {
        position("Po3", 2);
        position("Po06", 3);
        position("Po000", 4);
        position("Po0017", 5);
        position("Po00100", 6);
        position("Po00161", 6);
        position("Po001605", 7);
        position("Po00160000", 9);
        position("Po00160401", 9);
        position("Po0016041", 8);
        position("Po001604003", 10);
        position("Po0016040021", 11);
    }

    private static void otherDigits() {
        position("Pw3", 2);
        position("Pw06", 3);
        position("Pw00000", 6);
        position("Pw00001000", 9);
        position("Pd2", 2);
        position("Pd16", 3);
        position("Pt6", 2);
        position("Pt0a", 3);
        position("Pq0", 2);
        position("Pv3", 2);
        position("Pv0000", 5);
        position("Pv0010q ", 7);
    }

    private static void load() {
        SteepleWords x = loaded("Ps01060812002o11506110" + "03w25150160t29", 0);
        due("5: measures", x.about(0), 3);
        int[][] want = {{0, 1, 0, 6, 8, 120, 2, 88, 92, 6, 0}, {1, 1, 1, 5, 6, 110, 3, 89, 95, 6, 0},
            {2, 5, 2, 150, 160, 0, 0, 150, 160, 5, 0}};
        for (int k = 0; k < want.length; k++) {
            for (int what = 0; what < want[k].length; what++) {
                due("5: measureOf(" + k + ", " + what + ")", x.measureOf(k, what), want[k][what]);
            }
        }
        due("5: trust", x.tellerOf(2, 0), 9);
        CHECK.badState("5: nothing is remembered", x::undo);

        SteepleWords y = loaded("Pw00100100w01200200t13qv0100d00", 1);
        due("5: evenings", y.about(2), 1);
        due("5: lost", y.about(7), 1);
        due("5: right", y.about(8), 1);
        due("5: wrong", y.about(9), 1);
        due("5: surveyed", y.steepleOf(0, 1), 100);
        due("5: trust of 0", y.tellerOf(0, 0), 6);
        due("5: trust of 1", y.tellerOf(1, 0), 1);
        due("5: the text is kept", y.clearText(), "Pw00100100w01200200t13qv0100d00".length());
        loaded("P", 0);
    }

    private static void loadLeavesOut() {
        due("5: a word from 500 to 400", loaded("Pw00500400w00400500", 1).about(1), 1);
        due("5: drop of none", loaded("Pd00d15w00400500d01d00", 3).about(1), 1);
        SteepleWords x = new SteepleWords();
        write(x, "Pw00001001w00001001w00001001w00001001w00001001w00001001w00001001"
                + "w00001001w00001001w00001001w00001001w00001001w00001001");
        due("5: load of 13 words", x.load(), 0);
        due("5: thirteen measures", x.about(0), 13);
    }

    private static void loadMakesNew() {
        SteepleWords x = new SteepleWords();
        x.measure(0, 0, 2, 100, 100, 0, 0);
        x.set(0, 4);
        x.set(1, 40);
        x.trust(3, 0);
        x.survey(0, 100);
        x.evening();
        x.save(0);
        x.save(1);
        write(x, "Pqx");
        CHECK.badState("5: load of what is no parish", x::load);
        due("5: the text is kept", x.clearText(), 3);
        due("5: the slots are kept", x.restore(1), 0);
        due("5: the slots are kept", x.restore(0), 0);
        x.evening();
        CHECK.badState("5: load of an empty text", x::load);
        due("5: the remembered state is kept", x.undo(), 0);
        x.evening();
        write(x, "P");
        due("5: load", x.load(), 0);
        SteepleWords fresh = new SteepleWords();
        write(fresh, "P");
        CHECK.isTrue("5: all is as in a new object", Telling.of(x).equals(Telling.of(fresh)));
        CHECK.badState("5: undo behind load", x::undo);
        CHECK.badState("5: restore(0) behind load", () -> x.restore(0));
        CHECK.badState("5: restore(1) behind load", () -> x.restore(1));
        due("5: load again", x.load(), 0);
    }
}

/** Ways to make an object, from a new one to a full one, each in fewer than 180 calls. */
final class States {
    static final Edges.Make FRESH = SteepleWords::new;
    /** Fourteen remembered states, two saved ones, surveys, evenings, and a text that is a parish. */
    static final Edges.Make RICH = States::rich;
    /** Sixteen measures, fourteen remembered states, two saved ones, and a text of 120 characters. */
    static final Edges.Make FULL = States::full;
    /** Three remembered states, an empty slot 0, and a text that is no parish. */
    static final Edges.Make ODD = States::odd;

    static final Edges.Make[] ALL = {FRESH, RICH, FULL, ODD};
    static final Edges.Make[] WITH_MEASURES = {RICH, FULL, ODD};

    static void word(SteepleWords x, int s, int t, int least, int greatest) {
        x.measure(s, t, 2, least, greatest, 0, 0);
    }

    static void write(SteepleWords x, String text) {
        for (int i = 0; i < text.length(); i++) {
            x.append(text.charAt(i));
        }
    }

    static SteepleWords written(String text) {
        SteepleWords x = new SteepleWords();
        write(x, text);
        return x;
    }

    /** P, and evenings until the text has so many characters. */
    static String evenings(int length) {
        return "P" + "q".repeat(length - 1);
    }

    private static SteepleWords rich() {
        SteepleWords x = written("Pw00100110t19q");
        word(x, 0, 0, 100, 110);
        x.save(0);
        x.measure(0, 1, 0, 10, 10, 130, 0);
        x.measure(1, 2, 1, 5, 6, 110, 3);
        x.survey(0, 105);
        x.save(1);
        word(x, 0, 3, 90, 99);
        word(x, 0, 4, 200, 210);
        x.measure(2, 5, 0, 1, 1, 50, 5);
        word(x, 1, 0, 60, 70);
        x.evening();
        x.trust(5, 7);
        x.set(0, 3);
        x.set(1, 20);
        word(x, 0, 1, 300, 310);
        x.drop(1);
        x.evening();
        x.set(1, 7);
        x.trust(4, 2);
        x.survey(2, 999);
        x.set(1, 9);
        return x;
    }

    private static SteepleWords full() {
        SteepleWords x = written(evenings(120));
        for (int i = 0; i < 16; i++) {
            if (i == 9) {
                x.save(0);
            }
            if (i % 4 == 3) {
                x.measure(i % 3, i / 3 % 6, i % 8 / 4, 4, 3, 20 * i, i);
            } else {
                word(x, i % 3, i / 3 % 6, 10 + 20 * i, 15 + 23 * i);
            }
        }
        x.trust(3, 8);
        x.evening();
        x.save(1);
        x.trust(1, 2);
        return x;
    }

    private static SteepleWords odd() {
        SteepleWords x = written("Px");
        word(x, 2, 5, 400, 400);
        x.save(1);
        x.measure(2, 4, 0, 2, 1, 100, 7);
        x.evening();
        return x;
    }

    /** Sixteen words of steeple 0, no two with a height in common, by the tellers 0 to 5 in turn. */
    static SteepleWords spread() {
        SteepleWords x = new SteepleWords();
        for (int i = 0; i < 16; i++) {
            word(x, 0, i % 6, 1 + 50 * i, 10 + 50 * i);
        }
        return x;
    }

    /** Sixteen measures of one steeple that all tell 95: the eight of teller 0 are shadows, those of teller 1 words. */
    static SteepleWords together() {
        SteepleWords x = new SteepleWords();
        for (int i = 0; i < 16; i++) {
            if (i % 2 == 0) {
                x.measure(1, 0, 0, 1, 1, 95, i % 20);
            } else {
                word(x, 1, 1, 95 - i, 95 + i);
            }
        }
        return x;
    }
}

/** All that an object tells by calls that change nothing. */
final class Telling {
    static String of(SteepleWords x) {
        return "error " + x.errorPosition() + ofState(x);
    }

    /** All but what the text makes different. */
    static String ofState(SteepleWords x) {
        StringBuilder told = new StringBuilder();
        for (int what = 0; what <= 9; what++) {
            told.append(" about ").append(x.about(what));
        }
        for (int what = 0; what <= 1; what++) {
            told.append(" setting ").append(x.setting(what));
        }
        int measures = x.about(0);
        for (int k = 0; k < measures; k++) {
            for (int what = 0; what <= 10; what++) {
                told.append(" m").append(k).append(' ').append(x.measureOf(k, what));
            }
            for (int what = 0; what <= 2; what++) {
                told.append(" without ").append(x.without(k, what));
            }
        }
        for (int t = 0; t < 6; t++) {
            for (int what = 0; what <= 4; what++) {
                told.append(" t").append(t).append(' ').append(x.tellerOf(t, what));
            }
        }
        for (int s = 0; s < 3; s++) {
            for (int what = 0; what <= 2; what++) {
                told.append(" s").append(s).append(' ').append(x.steepleOf(s, what));
                told.append(" best ").append(x.best(s, what, 0)).append(' ').append(x.best(s, what, 1));
            }
            told.append(" against ").append(x.against(s));
        }
        return told.append(" truest ").append(x.truest()).toString();
    }
}

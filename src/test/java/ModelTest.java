import java.util.Random;

/** Long runs of calls, each answered by SteepleWords and by PlainParish, that must be of one mind. */
public final class ModelTest {
    private static final int RUNS = 300;
    private static final int CALLS = 512;

    private final Random random;
    private final SteepleWords x = new SteepleWords();
    private final PlainParish plain = new PlainParish();
    private final int run;
    private final Check check;
    private String pending = "";

    private ModelTest(int run, Check check) {
        this.run = run;
        this.check = check;
        this.random = new Random(run);
    }

    public static void main(String[] args) {
        Check check = new Check("ModelTest");
        for (int run = 0; run < RUNS; run++) {
            new ModelTest(run, check).go();
        }
        check.end();
    }

    private void go() {
        int style = run % 5;
        for (int i = 0; i < CALLS; i++) {
            if (!pending.isEmpty()) {
                int c = pending.charAt(0);
                pending = pending.substring(1);
                both("append(" + c + ")", () -> x.append(c), () -> plain.append(c));
            } else if (style == 0) {
                textCall();
            } else if (style == 4 && random.nextInt(3) == 0) {
                both("undo()", x::undo, plain::undo);
            } else {
                anyCall(random.nextInt(style == 1 ? 45 : 60));
            }
        }
    }

    private void both(String call, Check.Call mine, Check.Call due) {
        String got = Check.outcome(mine);
        String want = Check.outcome(due);
        if (!got.equals(want)) {
            check.isTrue("run " + run + ": " + call + " is " + got + ", due is " + want, false);
        } else {
            check.isTrue(call, true);
        }
    }

    // Mostly a number that is allowed, now and then one about its ends or far off.
    private int some(int least, int greatest) {
        int way = random.nextInt(40);
        if (way == 0) {
            return random.nextBoolean() ? least - 1 : greatest + 1;
        }
        if (way == 1) {
            return random.nextInt();
        }
        if (way < 6) {
            return random.nextBoolean() ? least : greatest;
        }
        return least + random.nextInt(greatest - least + 1);
    }

    private int measureNumber() {
        int count = plain.about(0);
        return count == 0 ? some(0, 1) : some(0, count - 1);
    }

    private int steeple() {
        return random.nextInt(3) == 0 ? some(0, 2) : run % 3;
    }

    private int height() {
        return random.nextInt(3) == 0 ? some(1, 999) : some(80, 130);
    }

    private void anyCall(int which) {
        int s = steeple();
        int t = some(0, 5);
        int k = measureNumber();
        if (which < 14) {
            measureCall(s, t);
        } else if (which < 17) {
            both("drop(" + k + ")", () -> x.drop(k), () -> plain.drop(k));
        } else if (which < 20) {
            int v = some(0, 9);
            both("trust(" + t + ", " + v + ")", () -> x.trust(t, v), () -> plain.trust(t, v));
        } else if (which < 22) {
            both("evening()", x::evening, plain::evening);
        } else if (which < 24) {
            int h = height();
            both("survey(" + s + ", " + h + ")", () -> x.survey(s, h), () -> plain.survey(s, h));
        } else if (which < 26) {
            int what = some(0, 1);
            int v = some(0, what == 0 ? 5 : 50);
            both("set(" + what + ", " + v + ")", () -> x.set(what, v), () -> plain.set(what, v));
        } else if (which < 28) {
            both("undo()", x::undo, plain::undo);
        } else if (which < 29) {
            slotCall();
        } else if (which < 30) {
            textCall();
        } else if (which < 45) {
            tellingCall(which, s, t, k);
        } else {
            wouldBeCall(which, s, t, k);
        }
    }

    private void measureCall(int s, int t) {
        int kind = some(0, 2);
        int a;
        int b;
        int c;
        int e;
        if (kind == 2) {
            int least = height();
            a = least;
            b = random.nextInt(20) == 0 ? height() : Math.max(least, least + some(0, 20));
            c = random.nextInt(40) == 0 ? 1 : 0;
            e = random.nextInt(40) == 0 ? 1 : 0;
        } else {
            a = kind == 0 ? some(1, 20) : some(1, 9);
            b = random.nextInt(3) == 0 ? (kind == 0 ? some(1, 40) : some(1, 60)) : a;
            c = random.nextInt(3) == 0 ? some(1, 400) : some(80, 130);
            e = some(0, 20);
        }
        both("measure(" + s + ", " + t + ", " + kind + ", " + a + ", " + b + ", " + c + ", " + e + ")",
                () -> x.measure(s, t, kind, a, b, c, e), () -> plain.measure(s, t, kind, a, b, c, e));
    }

    private void slotCall() {
        int slot = some(0, 1);
        if (random.nextBoolean()) {
            both("save(" + slot + ")", () -> x.save(slot), () -> plain.save(slot));
        } else {
            both("restore(" + slot + ")", () -> x.restore(slot), () -> plain.restore(slot));
        }
    }

    private void tellingCall(int which, int s, int t, int k) {
        int what = some(0, 10);
        if (which < 33) {
            both("about(" + what + ")", () -> x.about(what), () -> plain.about(what));
        } else if (which < 36) {
            both("measureOf(" + k + ", " + what + ")", () -> x.measureOf(k, what), () -> plain.measureOf(k, what));
        } else if (which < 38) {
            int number = some(0, 4);
            both("tellerOf(" + t + ", " + number + ")", () -> x.tellerOf(t, number), () -> plain.tellerOf(t, number));
        } else if (which < 40) {
            int number = some(0, 2);
            both("steepleOf(" + s + ", " + number + ")", () -> x.steepleOf(s, number), () -> plain.steepleOf(s, number));
        } else if (which < 42) {
            int h = height();
            both("vote(" + s + ", " + h + ")", () -> x.vote(s, h), () -> plain.vote(s, h));
        } else if (which < 44) {
            int number = some(0, 2);
            int way = some(0, 1);
            both("best(" + s + ", " + number + ", " + way + ")",
                    () -> x.best(s, number, way), () -> plain.best(s, number, way));
        } else {
            int number = some(0, 1);
            both("setting(" + number + ")", () -> x.setting(number), () -> plain.setting(number));
        }
    }

    private void wouldBeCall(int which, int s, int t, int k) {
        if (which < 47) {
            int other = measureNumber();
            both("apart(" + k + ", " + other + ")", () -> x.apart(k, other), () -> plain.apart(k, other));
        } else if (which < 49) {
            both("against(" + s + ")", () -> x.against(s), () -> plain.against(s));
        } else if (which < 52) {
            int what = some(0, 2);
            both("without(" + k + ", " + what + ")", () -> x.without(k, what), () -> plain.without(k, what));
        } else if (which < 54) {
            both("swings(" + t + ", " + s + ")", () -> x.swings(t, s), () -> plain.swings(t, s));
        } else if (which < 55) {
            both("truest()", x::truest, plain::truest);
        } else if (which < 58) {
            int n = some(1, 3);
            long script = script(n);
            both("runScript(" + n + ", " + script + ")", () -> x.runScript(n, script), () -> plain.runScript(n, script));
        } else {
            long seed = random.nextLong();
            int m = some(1, 60);
            both("simulate(" + seed + ", " + m + ")", () -> x.simulate(seed, m), () -> plain.simulate(seed, m));
        }
    }

    private long script(int n) {
        if (random.nextInt(20) == 0) {
            return random.nextLong();
        }
        long script = 0;
        for (int i = 0; i < Math.max(0, Math.min(3, n)); i++) {
            script = 1000000 * script + group();
        }
        return script;
    }

    private long group() {
        int d = random.nextInt(10);
        int s = random.nextInt(10) == 0 ? random.nextInt(10) : run % 3;
        int t = random.nextInt(10) == 0 ? random.nextInt(10) : random.nextInt(6);
        int h = random.nextInt(3) == 0 ? random.nextInt(1000) : 80 + random.nextInt(50);
        int noise = random.nextInt(15) == 0 ? (int) Math.pow(10, random.nextInt(5)) : 0;
        int[] groups = {random.nextInt(1000), 10000 * s + 1000 * t + h, 1000 * random.nextInt(17),
            10000 * t + random.nextInt(10), random.nextInt(10), 10000 * s + h, 10000 * s + h,
            10000 * s + 100 * random.nextInt(40), 10000 * t + random.nextInt(10), random.nextInt(40)};
        return Math.min(999999, 100000L * d + groups[d] + noise);
    }

    // ---- text

    private void textCall() {
        int which = random.nextInt(12);
        if (which == 0) {
            both("clearText()", x::clearText, plain::clearText);
            pending = random.nextInt(15) == 0 ? "p" : "P";
        } else if (which < 7) {
            pending = someCommand();
        } else if (which < 9) {
            both("errorPosition()", x::errorPosition, plain::errorPosition);
        } else if (which < 10) {
            both("load()", x::load, plain::load);
        } else if (which < 11) {
            int c = some(0, 255);
            int sign = random.nextInt(4) == 0 ? c : "PsowdtqvPsowdtqv0123456789".charAt(random.nextInt(26));
            if (random.nextInt(8) == 0) {
                both("append(" + sign + ")", () -> x.append(sign), () -> plain.append(sign));
            }
        } else {
            anyCall(random.nextInt(60));
        }
    }

    private String someCommand() {
        int most = random.nextInt(12) == 0 ? 1 : 0;
        String place = "" + random.nextInt(3 + most) + random.nextInt(6 + most);
        String far = digits(3, 1, 400) + digits(2, 0, 20);
        switch (random.nextInt(8)) {
            case 0: return "s" + place + digits(2, 1, 20) + digits(2, 1, 40) + far;
            case 1: return "o" + place + digits(1, 1, 9) + digits(2, 1, 60) + far;
            case 2: case 3:
                int least = 80 + random.nextInt(40);
                return "w" + place + digits(3, least, least) + digits(3, least, least + 30);
            case 4: return "d" + digits(2, 0, 15);
            case 5: return "t" + random.nextInt(6 + most) + random.nextInt(10);
            case 6: return "q";
            default: return random.nextInt(3) == 0 ? "v" + random.nextInt(3 + most) + digits(3, 80, 120) : "q";
        }
    }

    private String digits(int count, int least, int greatest) {
        int v = least + random.nextInt(greatest - least + 1);
        if (random.nextInt(60) == 0) {
            v = random.nextBoolean() ? least - 1 : greatest + 1;
        }
        String told = "000" + Math.max(0, v);
        return told.substring(told.length() - count);
    }
}

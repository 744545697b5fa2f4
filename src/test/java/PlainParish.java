import java.util.ArrayDeque;
import java.util.ArrayList;
import java.util.HashSet;
import java.util.List;
import java.util.Set;

/**
 * The document once more, told as plainly as can be and without a thought of speed: heights are sets, votes
 * are counted height by height, numbers of a text are looked up among all that are allowed. Nothing of it
 * comes from SteepleWords, so that what both answer is right or is misread twice.
 */
final class PlainParish {
    private static final class Measure {
        int steeple;
        int teller;
        int[] given;
        Set<Integer> heights = new HashSet<>();
        int least;
        int greatest;
    }

    private static final class State {
        List<Measure> measures = new ArrayList<>();
        int[] trust = {5, 5, 5, 5, 5, 5};
        int[] right = new int[6];
        int[] wrong = new int[6];
        int[] surveyed = {-1, -1, -1};
        int[] settings = {1, 5};
        int came;
        int evenings;
        int surveys;
        int lost;

        State copy() {
            State s = new State();
            s.measures = new ArrayList<>(measures);
            s.trust = trust.clone();
            s.right = right.clone();
            s.wrong = wrong.clone();
            s.surveyed = surveyed.clone();
            s.settings = settings.clone();
            s.came = came;
            s.evenings = evenings;
            s.surveys = surveys;
            s.lost = lost;
            return s;
        }
    }

    private StringBuilder text = new StringBuilder();
    private State now = new State();
    private final ArrayDeque<State> remembered = new ArrayDeque<>();
    private final State[] slots = new State[2];

    // ---- exceptions

    private static void index(boolean exists) {
        if (!exists) {
            throw new IndexOutOfBoundsException();
        }
    }

    private static void argument(boolean fits) {
        if (!fits) {
            throw new IllegalArgumentException();
        }
    }

    private static void state(boolean fits) {
        if (!fits) {
            throw new IllegalStateException();
        }
    }

    private static boolean in(long v, long least, long greatest) {
        return v >= least && v <= greatest;
    }

    private void remember() {
        remembered.addLast(now.copy());
        if (remembered.size() > 14) {
            remembered.removeFirst();
        }
    }

    // ---- text

    int append(int c) {
        argument(in(c, 0, 255));
        state(text.length() < 120);
        text.append((char) c);
        return text.length();
    }

    int clearText() {
        int length = text.length();
        text = new StringBuilder();
        return length;
    }

    /** Reads on from the command's letter; answers its numbers, or null, and then at[0] is the error position. */
    private List<Integer> command(int[] at) {
        String forms = "s:1,0,2;1,0,5;2,1,20;2,1,40;3,1,400;2,0,20 o:1,0,2;1,0,5;1,1,9;2,1,60;3,1,400;2,0,20 "
                + "w:1,0,2;1,0,5;3,1,999;3,1,999 d:2,0,15 t:1,0,5;1,0,9 q: v:1,0,2;3,1,999";
        List<Integer> numbers = new ArrayList<>();
        for (String form : forms.split(" ")) {
            if (form.charAt(0) == text.charAt(at[0])) {
                at[0]++;
                for (String part : form.substring(2).split(";")) {
                    if (!part.isEmpty() && !number(part.split(","), at, numbers)) {
                        return null;
                    }
                }
                return numbers;
            }
        }
        return null;
    }

    private boolean number(String[] form, int[] at, List<Integer> numbers) {
        int digits = Integer.parseInt(form[0]);
        String told = "";
        for (int i = 0; i < digits; i++) {
            if (at[0] == text.length()) {
                return false;
            }
            told += text.charAt(at[0]);
            boolean allowed = false;
            for (int v = Integer.parseInt(form[1]); v <= Integer.parseInt(form[2]); v++) {
                allowed |= ("000" + v).substring(("000" + v).length() - digits).startsWith(told);
            }
            if (!allowed) {
                return false;
            }
            at[0]++;
        }
        numbers.add(Integer.parseInt(told));
        return true;
    }

    int errorPosition() {
        if (text.length() == 0 || text.charAt(0) != 'P') {
            return 0;
        }
        int[] at = {1};
        while (at[0] < text.length()) {
            if (command(at) == null) {
                return at[0];
            }
        }
        return -1;
    }

    int load() {
        state(errorPosition() == -1);
        now = new State();
        int leftOut = 0;
        int[] at = {1};
        while (at[0] < text.length()) {
            char letter = text.charAt(at[0]);
            List<Integer> n = command(at);
            try {
                doCommand(letter, n);
            } catch (RuntimeException e) {
                leftOut++;
            }
        }
        remembered.clear();
        slots[0] = null;
        slots[1] = null;
        return leftOut;
    }

    private void doCommand(char letter, List<Integer> n) {
        switch (letter) {
            case 's': measure(n.get(0), n.get(1), 0, n.get(2), n.get(3), n.get(4), n.get(5)); break;
            case 'o': measure(n.get(0), n.get(1), 1, n.get(2), n.get(3), n.get(4), n.get(5)); break;
            case 'w': measure(n.get(0), n.get(1), 2, n.get(2), n.get(3), 0, 0); break;
            case 'd': drop(n.get(0)); break;
            case 't': trust(n.get(0), n.get(1)); break;
            case 'q': evening(); break;
            default: survey(n.get(0), n.get(1)); break;
        }
    }

    // ---- what there is

    private int weight(Measure m) {
        return now.trust[m.teller] + (m.given[0] <= 1 ? now.settings[0] : 0);
    }

    private boolean quarrel(Measure m, Measure other) {
        Set<Integer> common = new HashSet<>(m.heights);
        common.retainAll(other.heights);
        return m.steeple == other.steeple && m.teller != other.teller && common.isEmpty();
    }

    private static int feet(Measure m, Measure other) {
        return m.least > other.greatest ? m.least - other.greatest
                : other.least > m.greatest ? other.least - m.greatest : 0;
    }

    private List<Measure[]> pairs(boolean matter) {
        List<Measure[]> found = new ArrayList<>();
        for (int i = 0; i < now.measures.size(); i++) {
            for (int j = i + 1; j < now.measures.size(); j++) {
                Measure[] pair = {now.measures.get(i), now.measures.get(j)};
                if (quarrel(pair[0], pair[1]) && (!matter || feet(pair[0], pair[1]) > now.settings[1])) {
                    found.add(pair);
                }
            }
        }
        return found;
    }

    private static int sum(int[] numbers) {
        int sum = 0;
        for (int number : numbers) {
            sum += number;
        }
        return sum;
    }

    int about(int what) {
        argument(in(what, 0, 9));
        int[] told = {now.measures.size(), now.came, now.evenings, now.surveys, pairs(false).size(),
            pairs(true).size(), sum(now.trust), now.lost, sum(now.right), sum(now.wrong)};
        return told[what];
    }

    int measureOf(int k, int what) {
        index(in(k, 0, now.measures.size() - 1));
        argument(in(what, 0, 10));
        Measure m = now.measures.get(k);
        int quarrels = 0;
        for (Measure other : now.measures) {
            quarrels += quarrel(m, other) ? 1 : 0;
        }
        int[] told = {m.steeple, m.teller, m.given[0], m.given[1], m.given[2], m.given[3], m.given[4],
            m.least, m.greatest, weight(m), quarrels};
        return told[what];
    }

    int tellerOf(int t, int what) {
        index(in(t, 0, 5));
        argument(in(what, 0, 4));
        int measures = 0;
        int quarrels = 0;
        for (int k = 0; k < now.measures.size(); k++) {
            if (now.measures.get(k).teller == t) {
                measures++;
                quarrels += measureOf(k, 10);
            }
        }
        int[] told = {now.trust[t], measures, now.right[t], now.wrong[t], quarrels};
        return told[what];
    }

    int steepleOf(int s, int what) {
        index(in(s, 0, 2));
        argument(in(what, 0, 2));
        int measures = 0;
        int weights = 0;
        for (Measure m : now.measures) {
            if (m.steeple == s) {
                measures++;
                weights += weight(m);
            }
        }
        int[] told = {measures, now.surveyed[s], weights};
        return told[what];
    }

    int vote(int s, int h) {
        index(in(s, 0, 2));
        argument(in(h, 1, 999));
        return vote(s, h, null);
    }

    private int vote(int s, int h, Measure gone) {
        int vote = 0;
        for (Measure m : now.measures) {
            if (m != gone && m.steeple == s && m.heights.contains(h)) {
                vote += weight(m);
            }
        }
        return vote;
    }

    private int[] best(int s, Measure gone) {
        int[] votes = new int[1001];
        votes[1000] = -1;
        int most = 0;
        for (int h = 1; h <= 999; h++) {
            votes[h] = vote(s, h, gone);
            most = Math.max(most, votes[h]);
        }
        int lowest = 1;
        while (votes[lowest] != most) {
            lowest++;
        }
        int highest = lowest;
        while (votes[highest + 1] == most) {
            highest++;
        }
        return new int[] {lowest, highest, most};
    }

    int best(int s, int what, int way) {
        index(in(s, 0, 2));
        argument(in(what, 0, 2));
        argument(in(way, 0, 1));
        return best(s, null)[what];
    }

    int setting(int what) {
        argument(in(what, 0, 1));
        return now.settings[what];
    }

    // ---- actions

    int measure(int s, int t, int kind, int a, int b, int c, int e) {
        index(in(s, 0, 2) && in(t, 0, 5));
        argument(in(kind, 0, 2));
        if (kind == 2) {
            argument(in(a, 1, 999) && in(b, a, 999) && c == 0 && e == 0);
        } else {
            argument(in(a, 1, kind == 0 ? 20 : 9) && in(b, 1, kind == 0 ? 40 : 60) && in(c, 1, 400) && in(e, 0, 20));
        }
        state(now.measures.size() < 16);
        remember();
        Measure m = new Measure();
        m.steeple = s;
        m.teller = t;
        m.given = new int[] {kind, a, b, c, e};
        int least = kind == 2 ? a : (int) Math.floor((double) a * (c - e) / b);
        int greatest = kind == 2 ? b : (int) Math.ceil((double) a * (c + e) / b);
        m.least = least < 1 ? 1 : least > 999 ? 999 : least;
        m.greatest = greatest < 1 ? 1 : greatest > 999 ? 999 : greatest;
        for (int h = m.least; h <= m.greatest; h++) {
            m.heights.add(h);
        }
        now.measures.add(m);
        now.came++;
        return now.measures.size() - 1;
    }

    int drop(int k) {
        index(in(k, 0, now.measures.size() - 1));
        remember();
        now.measures.remove(k);
        return now.measures.size();
    }

    int trust(int t, int v) {
        index(in(t, 0, 5));
        argument(in(v, 0, 9));
        remember();
        int previous = now.trust[t];
        now.trust[t] = v;
        return previous;
    }

    int evening() {
        remember();
        now.evenings++;
        int lost = 0;
        for (Measure[] pair : pairs(true)) {
            int first = weight(pair[0]);
            int second = weight(pair[1]);
            if (first == second) {
                continue;
            }
            int t = first < second ? pair[0].teller : pair[1].teller;
            if (now.trust[t] > 0) {
                now.trust[t]--;
                lost++;
            }
        }
        now.lost += lost;
        return lost;
    }

    int survey(int s, int h) {
        index(in(s, 0, 2));
        argument(in(h, 1, 999));
        remember();
        int right = 0;
        List<Measure> left = new ArrayList<>();
        for (Measure m : now.measures) {
            if (m.steeple != s) {
                left.add(m);
            } else if (m.heights.contains(h)) {
                right++;
                now.right[m.teller]++;
                now.trust[m.teller] += now.trust[m.teller] == 9 ? 0 : 1;
            } else {
                now.wrong[m.teller]++;
                now.trust[m.teller] -= now.trust[m.teller] == 0 ? 0 : 1;
            }
        }
        now.measures = left;
        now.surveyed[s] = h;
        now.surveys++;
        return right;
    }

    int set(int what, int v) {
        argument(in(what, 0, 1));
        argument(in(v, 0, what == 0 ? 5 : 50));
        remember();
        int previous = now.settings[what];
        now.settings[what] = v;
        return previous;
    }

    int undo() {
        state(!remembered.isEmpty());
        now = remembered.removeLast();
        return remembered.size();
    }

    // ---- what would be

    int apart(int k, int other) {
        index(in(k, 0, now.measures.size() - 1) && in(other, 0, now.measures.size() - 1));
        Measure m = now.measures.get(k);
        Measure o = now.measures.get(other);
        return m.steeple != o.steeple ? -1 : feet(m, o);
    }

    int against(int s) {
        index(in(s, 0, 2));
        int h = best(s, null)[0];
        int found = -1;
        long foundRank = -1;
        for (int k = 0; k < now.measures.size(); k++) {
            Measure m = now.measures.get(k);
            int far = m.least > h ? m.least - h : h - m.greatest;
            long rank = weight(m) * 1000L + far;
            if (m.steeple == s && !m.heights.contains(h) && rank > foundRank) {
                found = k;
                foundRank = rank;
            }
        }
        return found;
    }

    int without(int k, int what) {
        index(in(k, 0, now.measures.size() - 1));
        argument(in(what, 0, 2));
        return best(now.measures.get(k).steeple, now.measures.get(k))[what];
    }

    int swings(int t, int s) {
        index(in(t, 0, 5) && in(s, 0, 2));
        int previous = now.trust[t];
        int found = -1;
        for (int v = 9; v >= 0; v--) {
            now.trust[t] = v;
            int h = best(s, null)[0];
            for (Measure m : now.measures) {
                if (m.teller == t && m.steeple == s && m.heights.contains(h)) {
                    found = v;
                }
            }
        }
        now.trust[t] = previous;
        return found;
    }

    int truest() {
        int found = -1;
        for (int t = 5; t >= 0; t--) {
            int both = now.right[t] + now.wrong[t];
            if (both == 0) {
                continue;
            }
            if (found >= 0) {
                int foundBoth = now.right[found] + now.wrong[found];
                long share = (long) now.right[t] * foundBoth;
                long foundShare = (long) now.right[found] * both;
                if (share < foundShare || share == foundShare && both < foundBoth) {
                    continue;
                }
            }
            found = t;
        }
        return found;
    }

    // ---- scripts, simulations

    private PlainParish copy() {
        PlainParish copy = new PlainParish();
        copy.now = now.copy();
        return copy;
    }

    int runScript(int n, long script) {
        argument(in(n, 1, 3));
        argument(script >= 0);
        String digits = Long.toString(script);
        argument(digits.length() <= 6 * n);
        digits = "0".repeat(6 * n - digits.length()) + digits;
        PlainParish copy = copy();
        for (int i = 0; i < n; i++) {
            boolean succeeds;
            try {
                succeeds = copy.group(digits.substring(6 * i, 6 * i + 6));
            } catch (RuntimeException e) {
                succeeds = false;
            }
            if (!succeeds) {
                return i;
            }
        }
        return -1;
    }

    private boolean group(String g) {
        int d2 = g.charAt(1) - '0';
        int last = g.charAt(5) - '0';
        int lastThree = Integer.parseInt(g.substring(3));
        if (g.matches("1.....")) {
            measure(d2, g.charAt(2) - '0', 2, lastThree, lastThree, 0, 0);
        } else if (g.matches("2..000")) {
            drop(Integer.parseInt(g.substring(1, 3)));
        } else if (g.matches("3.000.")) {
            trust(d2, last);
        } else if (g.matches("40000.")) {
            for (int i = 0; i < last; i++) {
                evening();
            }
        } else if (g.matches("5.0...")) {
            survey(d2, lastThree);
        } else if (g.matches("6.0...")) {
            return best(d2, 0, 0) <= lastThree;
        } else if (g.matches("7...00")) {
            return best(d2, 2, 0) >= Integer.parseInt(g.substring(2, 4));
        } else if (g.matches("8.000.")) {
            return tellerOf(d2, 0) >= last;
        } else if (g.matches("9000..")) {
            return about(4) <= lastThree;
        } else {
            return false;
        }
        return true;
    }

    int simulate(long seed, int m) {
        argument(in(m, 1, 60));
        PlainParish copy = copy();
        long x = seed;
        for (int i = 0; i < m; i++) {
            x = x * 6364136223846793005L + 1442695040888963407L;
            try {
                copy.turn((int) (x >>> 33));
            } catch (RuntimeException e) {
                // what would throw an exception is left out
            }
        }
        return 10000 * copy.about(0) + 100 * copy.about(6) + (copy.about(8) - about(8)) % 100;
    }

    private void turn(int r) {
        int q = r / 16;
        int s = q % 3;
        int t = q / 4 % 6;
        int turn = r % 16;
        if (turn <= 3) {
            measure(s, t, 0, 1 + q / 32 % 20, 1 + q / 640 % 40, 1 + q / 256 % 400, q / 8 % 21);
        } else if (turn <= 5) {
            measure(s, t, 1, 1 + q / 32 % 9, 1 + q / 288 % 60, 1 + q / 256 % 400, q / 8 % 21);
        } else if (turn <= 8) {
            measure(s, t, 2, 1 + q / 32 % 900, 1 + q / 32 % 900 + q / 256 % 90, 0, 0);
        } else if (turn == 9) {
            drop(q % 16);
        } else if (turn <= 12) {
            evening();
        } else if (turn == 13 && q / 8 % 2 == 0) {
            set(0, q % 6);
        } else if (turn == 13) {
            set(1, q / 16 % 51);
        } else {
            survey(s, 1 + q / 32 % 999);
        }
    }

    // ---- save slots

    int save(int slot) {
        index(in(slot, 0, 1));
        slots[slot] = now.copy();
        return now.measures.size();
    }

    int restore(int slot) {
        index(in(slot, 0, 1));
        state(slots[slot] != null);
        now = slots[slot].copy();
        remembered.clear();
        return now.measures.size();
    }
}

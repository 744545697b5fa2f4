import java.util.Arrays;

/** A parish in which tellers tell the heights of steeples; ../shared/DOC.md says what each call does. */
public final class SteepleWords {
    public static final int NONE = -1;

    private static final int SLOTS = 2;

    // Every state that is ever needed is made here once: calls only copy numbers from one to another.
    private final Parish parish = new Parish();
    private final Parish copy = new Parish();
    private final Parish[] slots = new Parish[SLOTS];
    private final boolean[] saved = new boolean[SLOTS];
    private final History history = new History();
    private final Text text = new Text();
    private final Ballot ballot = new Ballot();

    public SteepleWords() {
        for (int i = 0; i < slots.length; i++) {
            slots[i] = new Parish();
        }
    }

    // ---- text

    public int append(int c) throws IllegalArgumentException, IllegalStateException {
        need(0 <= c && c <= 255);
        if (text.isFull()) {
            throw new IllegalStateException("the text is full");
        }
        return text.add(c);
    }

    public int clearText() {
        return text.empty();
    }

    public int errorPosition() {
        return text.findError();
    }

    public int load() throws IllegalStateException {
        if (text.findError() != NONE) {
            throw new IllegalStateException("the text is not a parish");
        }
        parish.makeNew();
        history.forget();
        for (int i = 0; i < saved.length; i++) {
            saved[i] = false;
        }
        int leftOut = 0;
        text.readHead();
        for (int i = 0; i < Text.MOST_SIGNS && text.readCommand(); i++) {
            if (!doCommandOfText()) {
                leftOut++;
            }
        }
        return leftOut;
    }

    private boolean doCommandOfText() {
        int first = text.number(0);
        int second = text.number(1);
        switch (text.command()) {
            case 's':
                return parish.tryMeasure(first, second, Parish.SHADOW,
                        text.number(2), text.number(3), text.number(4), text.number(5));
            case 'o':
                return parish.tryMeasure(first, second, Parish.POOL,
                        text.number(2), text.number(3), text.number(4), text.number(5));
            case 'w':
                return parish.tryMeasure(first, second, Parish.WORD, text.number(2), text.number(3), 0, 0);
            case 'd':
                return parish.tryDrop(first);
            case 't':
                return parish.tryTrust(first, second);
            case 'q':
                parish.passEvening();
                return true;
            case 'v':
                return parish.trySurvey(first, second);
            default:
                return false;
        }
    }

    // ---- what there is

    public int about(int what) throws IllegalArgumentException {
        need(0 <= what && what <= 9);
        switch (what) {
            case 0: return parish.count();
            case 1: return parish.came();
            case 2: return parish.evenings();
            case 3: return parish.surveys();
            case 4: return parish.pairsThatQuarrel();
            case 5: return parish.pairsThatMatter();
            case 6: return parish.trustOfAll();
            case 7: return parish.lost();
            case 8: return parish.rightOfAll();
            default: return parish.wrongOfAll();
        }
    }

    public int measureOf(int k, int what) throws IndexOutOfBoundsException, IllegalArgumentException {
        needMeasure(k);
        need(0 <= what && what <= 10);
        switch (what) {
            case 9: return parish.weight(k);
            case 10: return parish.quarrelsOfMeasure(k);
            default: return parish.number(k, what);
        }
    }

    public int tellerOf(int t, int what) throws IndexOutOfBoundsException, IllegalArgumentException {
        needTeller(t);
        need(0 <= what && what <= 4);
        switch (what) {
            case 0: return parish.trustOf(t);
            case 1: return parish.measuresOfTeller(t);
            case 2: return parish.rightOf(t);
            case 3: return parish.wrongOf(t);
            default: return parish.quarrelsOfTeller(t);
        }
    }

    public int steepleOf(int s, int what) throws IndexOutOfBoundsException, IllegalArgumentException {
        needSteeple(s);
        need(0 <= what && what <= 2);
        switch (what) {
            case 0: return parish.measuresOfSteeple(s);
            case 1: return parish.heightSurveyed(s);
            default: return parish.weightOfSteeple(s);
        }
    }

    public int vote(int s, int h) throws IndexOutOfBoundsException, IllegalArgumentException {
        needSteeple(s);
        need(Parish.isHeight(h));
        return parish.voteOf(s, h, NONE);
    }

    public int best(int s, int what, int way) throws IndexOutOfBoundsException, IllegalArgumentException {
        needSteeple(s);
        need(0 <= what && what <= 2 && 0 <= way && way <= 1);
        if (way == 0) {
            ballot.countByHeights(parish, s);
        } else {
            ballot.countByEnds(parish, s, NONE);
        }
        return ballot.told(what);
    }

    public int setting(int what) throws IllegalArgumentException {
        need(Parish.isSetting(what));
        return parish.settingOf(what);
    }

    // ---- actions

    public int measure(int s, int t, int kind, int a, int b, int c, int e)
            throws IndexOutOfBoundsException, IllegalArgumentException, IllegalStateException {
        needSteeple(s);
        needTeller(t);
        need(Parish.fits(kind, a, b, c, e));
        if (parish.isFull()) {
            throw new IllegalStateException("there are 16 measures");
        }
        history.remember(parish);
        return parish.addMeasure(s, t, kind, a, b, c, e);
    }

    public int drop(int k) throws IndexOutOfBoundsException {
        needMeasure(k);
        history.remember(parish);
        return parish.removeMeasure(k);
    }

    public int trust(int t, int v) throws IndexOutOfBoundsException, IllegalArgumentException {
        needTeller(t);
        need(Parish.isTrust(v));
        history.remember(parish);
        return parish.changeTrust(t, v);
    }

    public int evening() {
        history.remember(parish);
        return parish.passEvening();
    }

    public int survey(int s, int h) throws IndexOutOfBoundsException, IllegalArgumentException {
        needSteeple(s);
        need(Parish.isHeight(h));
        history.remember(parish);
        return parish.surveySteeple(s, h);
    }

    public int set(int what, int v) throws IllegalArgumentException {
        need(Parish.fitsSetting(what, v));
        history.remember(parish);
        return parish.changeSetting(what, v);
    }

    public int undo() throws IllegalStateException {
        if (history.isEmpty()) {
            throw new IllegalStateException("no state is remembered");
        }
        return history.takeBack(parish);
    }

    // ---- what would be; these and all following methods up to the save slots change nothing

    public int apart(int k, int other) throws IndexOutOfBoundsException {
        needMeasure(k);
        needMeasure(other);
        return parish.feetApart(k, other);
    }

    public int against(int s) throws IndexOutOfBoundsException {
        needSteeple(s);
        ballot.countByEnds(parish, s, NONE);
        return parish.loudestAgainst(s, ballot.lowest());
    }

    public int without(int k, int what) throws IndexOutOfBoundsException, IllegalArgumentException {
        needMeasure(k);
        need(0 <= what && what <= 2);
        ballot.countByEnds(parish, parish.number(k, Parish.STEEPLE), k);
        return ballot.told(what);
    }

    public int swings(int t, int s) throws IndexOutOfBoundsException {
        needTeller(t);
        needSteeple(s);
        copy.takeFrom(parish);
        for (int v = 0; v <= Parish.MOST_TRUST; v++) {
            copy.changeTrust(t, v);
            ballot.countByEnds(copy, s, NONE);
            if (copy.tellsHeight(t, s, ballot.lowest())) {
                return v;
            }
        }
        return NONE;
    }

    public int truest() {
        return parish.tellerMostlyRight();
    }

    // ---- scripts, simulations

    public int runScript(int n, long script) throws IllegalArgumentException {
        need(1 <= n && n <= Script.MOST_COMMANDS);
        need(0 <= script && script < Script.limit(n));
        copy.takeFrom(parish);
        for (int i = 0; i < n; i++) {
            if (!Script.succeeds(copy, ballot, Script.group(script, n - 1 - i))) {
                return i;
            }
        }
        return NONE;
    }

    public int simulate(long seed, int m) throws IllegalArgumentException {
        need(1 <= m && m <= 60);
        copy.takeFrom(parish);
        long x = seed;
        for (int i = 0; i < m; i++) {
            x = x * 6364136223846793005L + 1442695040888963407L;
            Simulation.turn(copy, (int) (x >>> 33));
        }
        int right = copy.rightOfAll() - parish.rightOfAll();
        return 10000 * copy.count() + 100 * copy.trustOfAll() + right % 100;
    }

    // ---- save slots

    public int save(int slot) throws IndexOutOfBoundsException {
        needSlot(slot);
        slots[slot].takeFrom(parish);
        saved[slot] = true;
        return parish.count();
    }

    public int restore(int slot) throws IndexOutOfBoundsException, IllegalStateException {
        needSlot(slot);
        if (!saved[slot]) {
            throw new IllegalStateException("nothing is saved in this slot");
        }
        parish.takeFrom(slots[slot]);
        history.forget();
        return parish.count();
    }

    // ---- what the face asks of its arguments

    private static void need(boolean inRange) {
        if (!inRange) {
            throw new IllegalArgumentException("an argument is out of its range");
        }
    }

    private static void needSteeple(int s) {
        if (!Parish.isSteeple(s)) {
            throw new IndexOutOfBoundsException("no such steeple");
        }
    }

    private static void needTeller(int t) {
        if (!Parish.isTeller(t)) {
            throw new IndexOutOfBoundsException("no such teller");
        }
    }

    private void needMeasure(int k) {
        if (!parish.hasMeasure(k)) {
            throw new IndexOutOfBoundsException("no such measure");
        }
    }

    private static void needSlot(int slot) {
        if (slot < 0 || slot >= SLOTS) {
            throw new IndexOutOfBoundsException("no such save slot");
        }
    }

    /** The state: everything but the text, the save slots and the remembered states. */
    private static final class Parish {
        static final int SHADOW = 0;
        static final int POOL = 1;
        static final int WORD = 2;

        static final int MOST_MEASURES = 16;
        static final int MOST_TRUST = 9;
        static final int MOST_FEET = 999;

        // The numbers of a measure, in the order in which measureOf() counts them.
        static final int STEEPLE = 0;
        static final int TELLER = 1;
        static final int KIND = 2;
        static final int A = 3;
        static final int B = 4;
        static final int C = 5;
        static final int E = 6;
        static final int LEAST = 7;
        static final int GREATEST = 8;

        private static final int NUMBERS = 9;
        private static final int STEEPLES = 3;
        private static final int TELLERS = 6;
        private static final int SETTINGS = 2;

        // One row for all measures, so that a state is copied without a new object.
        private final int[] measures = new int[MOST_MEASURES * NUMBERS];
        private final int[] trusts = new int[TELLERS];
        private final int[] rights = new int[TELLERS];
        private final int[] wrongs = new int[TELLERS];
        private final int[] surveyed = new int[STEEPLES];
        private final int[] settings = new int[SETTINGS];
        private int count;
        private int came;
        private int evenings;
        private int surveys;
        private int lost;

        Parish() {
            makeNew();
        }

        void makeNew() {
            Arrays.fill(measures, 0);
            Arrays.fill(trusts, 5);
            Arrays.fill(rights, 0);
            Arrays.fill(wrongs, 0);
            Arrays.fill(surveyed, NONE);
            settings[0] = 1;
            settings[1] = 5;
            count = 0;
            came = 0;
            evenings = 0;
            surveys = 0;
            lost = 0;
        }

        void takeFrom(Parish other) {
            System.arraycopy(other.measures, 0, measures, 0, measures.length);
            System.arraycopy(other.trusts, 0, trusts, 0, trusts.length);
            System.arraycopy(other.rights, 0, rights, 0, rights.length);
            System.arraycopy(other.wrongs, 0, wrongs, 0, wrongs.length);
            System.arraycopy(other.surveyed, 0, surveyed, 0, surveyed.length);
            System.arraycopy(other.settings, 0, settings, 0, settings.length);
            count = other.count;
            came = other.came;
            evenings = other.evenings;
            surveys = other.surveys;
            lost = other.lost;
        }

        // ---- what is allowed

        static boolean isSteeple(int s) {
            return 0 <= s && s < STEEPLES;
        }

        static boolean isTeller(int t) {
            return 0 <= t && t < TELLERS;
        }

        static boolean isTrust(int v) {
            return 0 <= v && v <= MOST_TRUST;
        }

        static boolean isHeight(int h) {
            return 1 <= h && h <= MOST_FEET;
        }

        static boolean isSetting(int what) {
            return 0 <= what && what < SETTINGS;
        }

        static boolean fitsSetting(int what, int v) {
            return isSetting(what) && 0 <= v && v <= (what == 0 ? 5 : 50);
        }

        static boolean fits(int kind, int a, int b, int c, int e) {
            switch (kind) {
                case SHADOW:
                    return 1 <= a && a <= 20 && 1 <= b && b <= 40 && fitsFarSide(c, e);
                case POOL:
                    return 1 <= a && a <= 9 && 1 <= b && b <= 60 && fitsFarSide(c, e);
                case WORD:
                    return isHeight(a) && isHeight(b) && a <= b && c == 0 && e == 0;
                default:
                    return false;
            }
        }

        private static boolean fitsFarSide(int c, int e) {
            return 1 <= c && c <= 400 && 0 <= e && e <= 20;
        }

        boolean hasMeasure(int k) {
            return 0 <= k && k < count;
        }

        boolean isFull() {
            return count >= MOST_MEASURES;
        }

        // ---- commands that are left out where the method would throw

        boolean tryMeasure(int s, int t, int kind, int a, int b, int c, int e) {
            if (!isSteeple(s) || !isTeller(t) || !fits(kind, a, b, c, e) || isFull()) {
                return false;
            }
            addMeasure(s, t, kind, a, b, c, e);
            return true;
        }

        boolean tryDrop(int k) {
            if (!hasMeasure(k)) {
                return false;
            }
            removeMeasure(k);
            return true;
        }

        boolean tryTrust(int t, int v) {
            if (!isTeller(t) || !isTrust(v)) {
                return false;
            }
            changeTrust(t, v);
            return true;
        }

        boolean trySurvey(int s, int h) {
            if (!isSteeple(s) || !isHeight(h)) {
                return false;
            }
            surveySteeple(s, h);
            return true;
        }

        // ---- changes, with arguments that are known to be allowed

        int addMeasure(int s, int t, int kind, int a, int b, int c, int e) {
            int at = count * NUMBERS;
            measures[at + STEEPLE] = s;
            measures[at + TELLER] = t;
            measures[at + KIND] = kind;
            measures[at + A] = a;
            measures[at + B] = b;
            measures[at + C] = c;
            measures[at + E] = e;
            measures[at + LEAST] = withinFeet(kind == WORD ? a : leastHeight(a, b, c - e));
            measures[at + GREATEST] = withinFeet(kind == WORD ? b : greatestHeight(a, b, c + e));
            count++;
            came++;
            return count - 1;
        }

        // c - e may be negative, where / would round up: floorDiv rounds down there, too.
        private static int leastHeight(int a, int b, int far) {
            return b < 1 ? 1 : Math.floorDiv(a * far, b);
        }

        private static int greatestHeight(int a, int b, int far) {
            return b < 1 ? 1 : (a * far + b - 1) / b;
        }

        private static int withinFeet(int h) {
            return Math.max(1, Math.min(MOST_FEET, h));
        }

        int removeMeasure(int k) {
            int behind = count - 1 - k;
            System.arraycopy(measures, (k + 1) * NUMBERS, measures, k * NUMBERS, behind * NUMBERS);
            count--;
            return count;
        }

        int changeTrust(int t, int v) {
            int previous = trusts[t];
            trusts[t] = v;
            return previous;
        }

        int changeSetting(int what, int v) {
            int previous = settings[what];
            settings[what] = v;
            return previous;
        }

        int passEvening() {
            int lostBefore = lost;
            for (int i = 0; i < count; i++) {
                for (int j = i + 1; j < count; j++) {
                    if (matters(i, j)) {
                        shameLighter(i, j);
                    }
                }
            }
            evenings++;
            return lost - lostBefore;
        }

        private void shameLighter(int i, int j) {
            int difference = weight(i) - weight(j);
            if (difference != 0) {
                int t = number(difference < 0 ? i : j, TELLER);
                if (trusts[t] > 0) {
                    trusts[t]--;
                    lost++;
                }
            }
        }

        int surveySteeple(int s, int h) {
            int telling = 0;
            for (int k = 0; k < count; k++) {
                if (isOf(k, s)) {
                    boolean right = tells(k, h);
                    judge(number(k, TELLER), right);
                    telling += right ? 1 : 0;
                }
            }
            removeMeasuresOf(s);
            surveyed[s] = h;
            surveys++;
            return telling;
        }

        private void judge(int t, boolean right) {
            if (right) {
                rights[t]++;
                trusts[t] = Math.min(MOST_TRUST, trusts[t] + 1);
            } else {
                wrongs[t]++;
                trusts[t] = Math.max(0, trusts[t] - 1);
            }
        }

        // From the last one on, so that the numbers still to be looked at stay as they are.
        private void removeMeasuresOf(int s) {
            for (int k = count - 1; k >= 0; k--) {
                if (isOf(k, s)) {
                    removeMeasure(k);
                }
            }
        }

        // ---- one measure, two measures

        int number(int k, int what) {
            return measures[k * NUMBERS + what];
        }

        boolean isOf(int k, int s) {
            return number(k, STEEPLE) == s;
        }

        boolean tells(int k, int h) {
            return number(k, LEAST) <= h && h <= number(k, GREATEST);
        }

        int weight(int k) {
            return trusts[number(k, TELLER)] + (number(k, KIND) == WORD ? 0 : settings[0]);
        }

        int feetApart(int k, int other) {
            if (number(k, STEEPLE) != number(other, STEEPLE)) {
                return NONE;
            }
            int above = number(k, LEAST) - number(other, GREATEST);
            int below = number(other, LEAST) - number(k, GREATEST);
            return Math.max(0, Math.max(above, below));
        }

        private boolean quarrel(int k, int other) {
            return number(k, TELLER) != number(other, TELLER) && feetApart(k, other) > 0;
        }

        // Setting 1 is never below 0, so that measures so far apart have no height in common.
        private boolean matters(int k, int other) {
            return number(k, TELLER) != number(other, TELLER) && feetApart(k, other) > settings[1];
        }

        int quarrelsOfMeasure(int k) {
            int found = 0;
            for (int other = 0; other < count; other++) {
                if (quarrel(k, other)) {
                    found++;
                }
            }
            return found;
        }

        // ---- the parish as a whole

        int count() {
            return count;
        }

        int came() {
            return came;
        }

        int evenings() {
            return evenings;
        }

        int surveys() {
            return surveys;
        }

        int lost() {
            return lost;
        }

        int settingOf(int what) {
            return settings[what];
        }

        int trustOfAll() {
            return sum(trusts);
        }

        int rightOfAll() {
            return sum(rights);
        }

        int wrongOfAll() {
            return sum(wrongs);
        }

        private static int sum(int[] numbers) {
            int sum = 0;
            for (int number : numbers) {
                sum += number;
            }
            return sum;
        }

        int pairsThatQuarrel() {
            int found = 0;
            for (int i = 0; i < count; i++) {
                for (int j = i + 1; j < count; j++) {
                    found += quarrel(i, j) ? 1 : 0;
                }
            }
            return found;
        }

        int pairsThatMatter() {
            int found = 0;
            for (int i = 0; i < count; i++) {
                for (int j = i + 1; j < count; j++) {
                    found += matters(i, j) ? 1 : 0;
                }
            }
            return found;
        }

        // ---- tellers

        int trustOf(int t) {
            return trusts[t];
        }

        int rightOf(int t) {
            return rights[t];
        }

        int wrongOf(int t) {
            return wrongs[t];
        }

        int measuresOfTeller(int t) {
            int found = 0;
            for (int k = 0; k < count; k++) {
                found += number(k, TELLER) == t ? 1 : 0;
            }
            return found;
        }

        int quarrelsOfTeller(int t) {
            int found = 0;
            for (int k = 0; k < count; k++) {
                found += number(k, TELLER) == t ? quarrelsOfMeasure(k) : 0;
            }
            return found;
        }

        boolean tellsHeight(int t, int s, int h) {
            for (int k = 0; k < count; k++) {
                if (isOf(k, s) && number(k, TELLER) == t && tells(k, h)) {
                    return true;
                }
            }
            return false;
        }

        int tellerMostlyRight() {
            int found = NONE;
            for (int t = 0; t < TELLERS; t++) {
                if (rights[t] + wrongs[t] > 0 && (found == NONE || isTruer(t, found))) {
                    found = t;
                }
            }
            return found;
        }

        // The shares are compared crosswise, since a division would round them.
        private boolean isTruer(int t, int other) {
            int judged = rights[t] + wrongs[t];
            int otherJudged = rights[other] + wrongs[other];
            int difference = rights[t] * otherJudged - rights[other] * judged;
            return difference != 0 ? difference > 0 : judged > otherJudged;
        }

        // ---- steeples

        int heightSurveyed(int s) {
            return surveyed[s];
        }

        int measuresOfSteeple(int s) {
            int found = 0;
            for (int k = 0; k < count; k++) {
                found += isOf(k, s) ? 1 : 0;
            }
            return found;
        }

        int weightOfSteeple(int s) {
            int sum = 0;
            for (int k = 0; k < count; k++) {
                sum += isOf(k, s) ? weight(k) : 0;
            }
            return sum;
        }

        /** The vote as it would be without the measure leftOut, which is NONE where all of them vote. */
        int voteOf(int s, int h, int leftOut) {
            int sum = 0;
            for (int k = 0; k < count; k++) {
                sum += k != leftOut && isOf(k, s) && tells(k, h) ? weight(k) : 0;
            }
            return sum;
        }

        int loudestAgainst(int s, int h) {
            int found = NONE;
            for (int k = 0; k < count; k++) {
                if (isOf(k, s) && !tells(k, h) && (found == NONE || isLouder(k, found, h))) {
                    found = k;
                }
            }
            return found;
        }

        private boolean isLouder(int k, int other, int h) {
            int difference = weight(k) - weight(other);
            return difference != 0 ? difference > 0 : feetFrom(k, h) > feetFrom(other, h);
        }

        private int feetFrom(int k, int h) {
            return Math.max(0, Math.max(number(k, LEAST) - h, h - number(k, GREATEST)));
        }
    }

    /** The best heights of a steeple, in two ways that must agree. */
    private static final class Ballot {
        // By how much the vote of a height differs from that of the height below it.
        private final int[] changes = new int[Parish.MOST_FEET + 2];
        private int lowest;
        private int highest;
        private int most;

        int lowest() {
            return lowest;
        }

        int most() {
            return most;
        }

        int told(int what) {
            switch (what) {
                case 0: return lowest;
                case 1: return highest;
                default: return most;
            }
        }

        void countByHeights(Parish parish, int s) {
            noteChanges(parish, s);
            most = NONE;
            int vote = 0;
            for (int h = 1; h <= Parish.MOST_FEET; h++) {
                vote += changes[h];
                if (vote > most) {
                    most = vote;
                    lowest = h;
                    highest = h;
                } else if (vote == most && highest == h - 1) {
                    highest = h;
                }
            }
        }

        private void noteChanges(Parish parish, int s) {
            Arrays.fill(changes, 0);
            for (int k = 0; k < parish.count(); k++) {
                if (parish.isOf(k, s)) {
                    changes[parish.number(k, Parish.LEAST)] += parish.weight(k);
                    changes[parish.number(k, Parish.GREATEST) + 1] -= parish.weight(k);
                }
            }
        }

        // A vote rises only at a least height and falls only behind a greatest one, so no other height is asked.
        void countByEnds(Parish parish, int s, int leftOut) {
            lowest = 1;
            most = parish.voteOf(s, 1, leftOut);
            for (int k = 0; k < parish.count(); k++) {
                if (k != leftOut && parish.isOf(k, s)) {
                    int start = parish.number(k, Parish.LEAST);
                    tryLowest(start, parish.voteOf(s, start, leftOut));
                }
            }
            highest = Parish.MOST_FEET;
            for (int k = 0; k < parish.count(); k++) {
                int end = parish.number(k, Parish.GREATEST);
                if (k != leftOut && parish.isOf(k, s) && lowest <= end && end < highest
                        && parish.voteOf(s, end + 1, leftOut) < most) {
                    highest = end;
                }
            }
        }

        private void tryLowest(int h, int vote) {
            if (vote > most || (vote == most && h < lowest)) {
                most = vote;
                lowest = h;
            }
        }
    }

    /** The remembered states: a ring in which the newest one takes the place of the oldest one. */
    private static final class History {
        private static final int MOST_STATES = 14;

        private final Parish[] states = new Parish[MOST_STATES];
        private int next;
        private int count;

        History() {
            for (int i = 0; i < states.length; i++) {
                states[i] = new Parish();
            }
        }

        boolean isEmpty() {
            return count == 0;
        }

        void forget() {
            count = 0;
        }

        void remember(Parish parish) {
            states[next].takeFrom(parish);
            next = next + 1 < MOST_STATES ? next + 1 : 0;
            count = Math.min(MOST_STATES, count + 1);
        }

        int takeBack(Parish parish) {
            next = next > 0 ? next - 1 : MOST_STATES - 1;
            count--;
            parish.takeFrom(states[next]);
            return count;
        }
    }

    /** The text buffer, and the reading of it command by command. */
    private static final class Text {
        static final int MOST_SIGNS = 120;

        private static final int MOST_NUMBERS = 6;

        // For each number of a command: its digits, the least and the greatest one that is allowed.
        private static final int[] SHADOW = {1, 0, 2, 1, 0, 5, 2, 1, 20, 2, 1, 40, 3, 1, 400, 2, 0, 20};
        private static final int[] POOL = {1, 0, 2, 1, 0, 5, 1, 1, 9, 2, 1, 60, 3, 1, 400, 2, 0, 20};
        private static final int[] WORD = {1, 0, 2, 1, 0, 5, 3, 1, 999, 3, 1, 999};
        private static final int[] DROP = {2, 0, 15};
        private static final int[] TRUST = {1, 0, 5, 1, 0, 9};
        private static final int[] EVENING = {};
        private static final int[] SURVEY = {1, 0, 2, 3, 1, 999};

        private final int[] signs = new int[MOST_SIGNS];
        private int length;

        // Where the reading stands: where it fails, this is the error position.
        private int position;
        private int command;
        private final int[] numbers = new int[MOST_NUMBERS];

        boolean isFull() {
            return length >= MOST_SIGNS;
        }

        int add(int sign) {
            signs[length] = sign;
            length++;
            return length;
        }

        int empty() {
            int previous = length;
            length = 0;
            return previous;
        }

        int command() {
            return command;
        }

        int number(int i) {
            return numbers[i];
        }

        int findError() {
            if (!readHead()) {
                return position;
            }
            for (int i = 0; i < MOST_SIGNS && position < length; i++) {
                if (!readCommand()) {
                    return position;
                }
            }
            return NONE;
        }

        boolean readHead() {
            position = 0;
            if (signHere() != 'P') {
                return false;
            }
            position = 1;
            return true;
        }

        boolean readCommand() {
            command = signHere();
            switch (command) {
                case 's': return readNumbers(SHADOW);
                case 'o': return readNumbers(POOL);
                case 'w': return readNumbers(WORD);
                case 'd': return readNumbers(DROP);
                case 't': return readNumbers(TRUST);
                case 'q': return readNumbers(EVENING);
                case 'v': return readNumbers(SURVEY);
                default: return false;
            }
        }

        private int signHere() {
            return position < length ? signs[position] : NONE;
        }

        private boolean readNumbers(int[] form) {
            position++;
            for (int i = 0; i < MOST_NUMBERS && 3 * i + 2 < form.length; i++) {
                numbers[i] = readNumber(form[3 * i], form[3 * i + 1], form[3 * i + 2]);
                if (numbers[i] == NONE) {
                    return false;
                }
            }
            return true;
        }

        private int readNumber(int digits, int least, int greatest) {
            int value = 0;
            for (int left = digits - 1; left >= 0; left--) {
                int sign = signHere();
                if (sign < '0' || sign > '9' || !leadsInto(10 * value + sign - '0', left, least, greatest)) {
                    return NONE;
                }
                value = 10 * value + sign - '0';
                position++;
            }
            return value;
        }

        /** Whether a number from least to greatest begins with these digits and has so many more. */
        private static boolean leadsInto(int digits, int more, int least, int greatest) {
            int from = digits;
            int to = digits;
            for (int i = 0; i < more; i++) {
                from = 10 * from;
                to = 10 * to + 9;
            }
            return from <= greatest && least <= to;
        }
    }

    /** The commands of a script, each a group of six digits. */
    private static final class Script {
        static final int MOST_COMMANDS = 3;

        private static final long GROUP = 1000000;

        /** The least number with more than 6 * n digits. */
        static long limit(int n) {
            long limit = 1;
            for (int i = 0; i < n; i++) {
                limit = limit * GROUP;
            }
            return limit;
        }

        /** The group with so many groups behind it. */
        static int group(long script, int behind) {
            long rest = script;
            for (int i = 0; i < behind; i++) {
                rest = rest / GROUP;
            }
            return (int) (rest % GROUP);
        }

        static boolean succeeds(Parish parish, Ballot ballot, int group) {
            int second = group / 10000 % 10;
            int last = group % 10;
            int lastThree = group % 1000;
            switch (group / 100000) {
                case 1:
                    return parish.tryMeasure(second, group / 1000 % 10, Parish.WORD, lastThree, lastThree, 0, 0);
                case 2:
                    return lastThree == 0 && parish.tryDrop(group / 1000 % 100);
                case 3:
                    return group / 10 % 1000 == 0 && parish.tryTrust(second, last);
                case 4:
                    return group / 10 % 10000 == 0 && passEvenings(parish, last);
                case 5:
                    return group / 1000 % 10 == 0 && parish.trySurvey(second, lastThree);
                case 6:
                    return group / 1000 % 10 == 0 && lowestIsAtMost(parish, ballot, second, lastThree);
                case 7:
                    return group % 100 == 0 && mostIsAtLeast(parish, ballot, second, group / 100 % 100);
                case 8:
                    return group / 10 % 1000 == 0 && Parish.isTeller(second) && parish.trustOf(second) >= last;
                case 9:
                    return group / 100 % 1000 == 0 && parish.pairsThatQuarrel() <= group % 100;
                default:
                    return false;
            }
        }

        private static boolean passEvenings(Parish parish, int times) {
            for (int i = 0; i < times; i++) {
                parish.passEvening();
            }
            return true;
        }

        private static boolean lowestIsAtMost(Parish parish, Ballot ballot, int s, int h) {
            if (!Parish.isSteeple(s)) {
                return false;
            }
            ballot.countByEnds(parish, s, NONE);
            return ballot.lowest() <= h;
        }

        private static boolean mostIsAtLeast(Parish parish, Ballot ballot, int s, int vote) {
            if (!Parish.isSteeple(s)) {
                return false;
            }
            ballot.countByEnds(parish, s, NONE);
            return ballot.most() >= vote;
        }
    }

    /** The turns of a simulation. */
    private static final class Simulation {
        static void turn(Parish parish, int r) {
            int q = r / 16;
            int s = q % 3;
            switch (r % 16) {
                case 0: case 1: case 2: case 3: case 4: case 5: case 6: case 7: case 8:
                    tell(parish, r % 16, q);
                    break;
                case 9:
                    parish.tryDrop(q % 16);
                    break;
                case 10: case 11: case 12:
                    parish.passEvening();
                    break;
                case 13:
                    changeSetting(parish, q);
                    break;
                default:
                    parish.trySurvey(s, 1 + q / 32 % 999);
                    break;
            }
        }

        private static void tell(Parish parish, int way, int q) {
            int s = q % 3;
            int t = q / 4 % 6;
            int c = 1 + q / 256 % 400;
            int e = q / 8 % 21;
            if (way <= 3) {
                parish.tryMeasure(s, t, Parish.SHADOW, 1 + q / 32 % 20, 1 + q / 640 % 40, c, e);
            } else if (way <= 5) {
                parish.tryMeasure(s, t, Parish.POOL, 1 + q / 32 % 9, 1 + q / 288 % 60, c, e);
            } else {
                int least = 1 + q / 32 % 900;
                parish.tryMeasure(s, t, Parish.WORD, least, least + q / 256 % 90, 0, 0);
            }
        }

        private static void changeSetting(Parish parish, int q) {
            if (q / 8 % 2 == 0) {
                parish.changeSetting(0, q % 6);
            } else {
                parish.changeSetting(1, q / 16 % 51);
            }
        }
    }
}

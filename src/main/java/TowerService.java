/** A tower whose people are promoted downwards; ../shared/DOC.md says what each call answers. */
public final class TowerService {
    public static final int BAD = -1, NO = -2, FULL = -3, NONE = -4;

    private static final int BOLD = 1, SHAKY = 2, SINGING = 3, MOST_KINDS = 4;
    private static final int MOST_LETTERS = 200;
    private static final int LEAST_STEPS = 2, MOST_STEPS = 10, USUAL_STEPS = 6;
    private static final int MOST_PERSONS = 6, MOST_WORKS = 5, MOST_NEED = 4;
    private static final int LEAST_AGE = 12, MOST_AGE_TOLD = 60, MOST_AGE = 99, MOST_NERVE = 30;
    private static final int FALLING = 8;
    private static final int MOST_YEARS_AT_ONCE = 40, LAST_YEAR = 999;
    private static final int MOST_UNDONE = 8, MOST_SEEN = 6, MOST_KEPT = 2;
    private static final int MOST_PLANNED = 4;
    private static final int CAN_REACH = 2;
    private static final int MOST_DRAWN = 9999, MOST_DECADE = 60;
    private static final String FIRST_TEXT =
        "h6;p0,5,12,8;p1,3,30,5;p2,4,25,6;p3,5,14,2;p3,5,13,3;p0,1,60,9;w5,2;w4,1;w3,1;w1,1;w0,1;";

    private final Text text;
    private final Tower draft;
    private final Tower tower;
    private final Tower trial;
    private final Past past;
    private final Tower[] kept;
    private int keptMany;
    private final Sights sights;
    private final Posting bestPosting;
    private final Timetable bestTimetable;
    private final Swap bestSwap;
    private final Chain chain;

    public TowerService() {
        text = new Text();
        draft = new Tower(new Plan());
        Plan plan = new Plan();
        tower = new Tower(plan);
        trial = new Tower(plan);
        past = new Past(plan);
        kept = towersOf(plan, MOST_KEPT);
        sights = new Sights();
        bestPosting = new Posting(new Tower(plan));
        bestTimetable = new Timetable(plan);
        bestSwap = new Swap(new Tower(plan));
        chain = new Chain();
        for (int i = 0; i < FIRST_TEXT.length(); i++) {
            text.add(FIRST_TEXT.charAt(i));
        }
        text.readInto(draft);
        takeDraft();
        text.clear();
    }

    // ---- towers

    public int write(int letter) {
        if (!within(letter, 32, 126)) {
            return BAD;
        }
        return text.add((char) letter) ? text.length : FULL;
    }

    public int wipe() {
        int was = text.length;
        text.clear();
        return was;
    }

    public int fault() {
        return text.readInto(draft);
    }

    public int lay() {
        if (text.readInto(draft) != NONE || draft.plan.persons == 0) {
            return NO;
        }
        takeDraft();
        return tower.plan.persons;
    }

    public int person(int p, int what) {
        if (!isPerson(p)) {
            return BAD;
        }
        switch (what) {
            case 0: return tower.plan.kind[p];
            case 1: return tower.step[p];
            case 2: return tower.age[p];
            case 3: return tower.nerve[p];
            case 4: return tower.fearOn(p, tower.step[p]);
            case 5: return asNumber(tower.isFrozen(p));
            case 6: return asNumber(tower.gone[p]);
            case 7: return asNumber(tower.mayBeCalled(p));
            default: return BAD;
        }
    }

    public int fear(int p, int s) {
        return isPerson(p) && isStep(s) ? tower.fearOn(p, s) : BAD;
    }

    public int work(int w, int what) {
        if (!within(w, 0, tower.plan.works - 1)) {
            return BAD;
        }
        switch (what) {
            case 0: return tower.plan.workStep[w];
            case 1: return tower.plan.workNeed[w];
            case 2: return asNumber(tower.isDone(w, tower.steadyBits()));
            default: return BAD;
        }
    }

    // ---- acts

    public int pass(int n) {
        if (!within(n, 1, MOST_YEARS_AT_ONCE)) {
            return BAD;
        }
        if (tower.year + n > LAST_YEAR) {
            return NO;
        }
        past.add(tower);
        tower.goYears(n);
        return tower.year;
    }

    public int promote(int p) {
        if (!isPerson(p)) {
            return BAD;
        }
        if (!tower.mayGoDown(p)) {
            return NO;
        }
        past.add(tower);
        tower.goDown(p);
        return tower.step[p];
    }

    public int hoist(int p) {
        if (!isPerson(p)) {
            return BAD;
        }
        if (!tower.mayGoUp(p)) {
            return NO;
        }
        past.add(tower);
        tower.goUp(p);
        return tower.step[p];
    }

    public int call(int p) {
        if (!isPerson(p)) {
            return BAD;
        }
        if (!tower.mayBeCalled(p)) {
            return NO;
        }
        past.add(tower);
        tower.hearCall(p);
        return tower.nerve[p];
    }

    public int undo() {
        if (past.many == 0) {
            return NO;
        }
        past.takeLastInto(tower);
        return past.many;
    }

    // ---- what comes

    public int behind(int n, int p, int what) {
        if (!within(n, 0, MOST_YEARS_AT_ONCE) || !isPerson(p) || !within(what, 0, 1)) {
            return BAD;
        }
        trial.standAs(tower);
        trial.goYears(n);
        return what == 0 ? asNumber(trial.gone[p]) : trial.nerve[p];
    }

    public int lowest(int p) {
        if (!isPerson(p)) {
            return BAD;
        }
        if (!tower.isSteady(p)) {
            return NO;
        }
        int s = tower.step[p];
        while (s > 0 && tower.fearOn(p, s - 1) <= tower.nerve[p]) {
            s--;
        }
        return s;
    }

    public int posting(int p) {
        if (p != -1 && !isPerson(p)) {
            return BAD;
        }
        bestPosting.search(tower);
        if (bestPosting.most < 0) {
            return NONE;
        }
        return p == -1 ? bestPosting.most : bestPosting.best[p];
    }

    public int timetable(int n, int k) {
        if (!within(n, 1, MOST_PLANNED) || !within(k, -1, MOST_PLANNED - 1)) {
            return BAD;
        }
        bestTimetable.search(tower, n);
        if (k == -1) {
            return bestTimetable.most;
        }
        return k < n ? bestTimetable.best[k] : NONE;
    }

    public int swap(int what) {
        if (!within(what, 0, 1)) {
            return BAD;
        }
        bestSwap.search(tower);
        if (bestSwap.most < 0) {
            return NONE;
        }
        return what == 0 ? bestSwap.pair : bestSwap.most;
    }

    public int can(int a, int b, int what) {
        if (!isStep(a) || !isStep(b) || !within(what, 0, 1)) {
            return BAD;
        }
        chain.search(tower, a, b);
        if (chain.first < 0) {
            return NONE;
        }
        return what == 0 ? chain.fewest : chain.first;
    }

    // ---- what was seen

    public int seen(int p, int s, int frozen) {
        if (!isPerson(p) || !isStep(s) || !within(frozen, 0, 1)) {
            return BAD;
        }
        return sights.add(p, s, frozen == 1) ? sights.many : FULL;
    }

    public int forget() {
        int were = sights.many;
        sights.clear();
        return were;
    }

    public int nerves(int p, int what) {
        if (!isPerson(p) || !within(what, 0, 1)) {
            return BAD;
        }
        int many = 0;
        int least = NONE;
        for (int nerve = MOST_NERVE; nerve >= 0; nerve--) {
            if (sights.wouldHold(tower, p, tower.plan.kind[p], nerve)) {
                many++;
                least = nerve;
            }
        }
        return what == 0 ? many : least;
    }

    public int kinds(int p) {
        if (!isPerson(p)) {
            return BAD;
        }
        int bits = 0;
        for (int kind = 0; kind < MOST_KINDS; kind++) {
            if (sights.wouldHold(tower, p, kind, tower.nerve[p])) {
                bits |= 1 << kind;
            }
        }
        return bits;
    }

    // ---- chances, decades

    public int likely(int m, int x, int part) {
        if (!within(m, 0, MOST_WORKS) || !within(x, 0, 10) || !within(part, 0, 1)) {
            return BAD;
        }
        int frozen = tower.frozenBits();
        int above = 0;
        for (int falling = 0; falling < 1 << MOST_PERSONS; falling++) {
            if ((falling & ~frozen) == 0 && doneIfTheseFall(falling) >= m) {
                above += waysOfTen(frozen, falling, x);
            }
        }
        int below = power(10, Integer.bitCount(frozen));
        int shared = commonDivisor(above, below);
        if (shared < 1) {
            return BAD;
        }
        return part == 0 ? above / shared : below / shared;
    }

    public int decade(int z, int n, int what) {
        if (!within(z, 0, MOST_DRAWN) || !within(n, 1, MOST_DECADE) || !within(what, 0, 2)) {
            return BAD;
        }
        trial.standAs(tower);
        for (int i = 0; i < n; i++) {
            trial.actBy(drawOf(z, i));
            trial.goYear();
        }
        switch (what) {
            case 0: return trial.goneMany();
            case 1: return trial.doneMany();
            default: return trial.stepsTogether();
        }
    }

    // ---- kept

    public int keep() {
        if (keptMany >= MOST_KEPT) {
            return FULL;
        }
        kept[keptMany].standAs(tower);
        keptMany++;
        return keptMany;
    }

    public int back() {
        if (keptMany <= 0) {
            return NO;
        }
        keptMany--;
        tower.standAs(kept[keptMany]);
        past.clear();
        return keptMany;
    }

    public int count(int what) {
        switch (what) {
            case 0: return tower.plan.steps;
            case 1: return tower.plan.persons;
            case 2: return tower.plan.works;
            case 3: return tower.year;
            case 4: return tower.goneMany();
            case 5: return Integer.bitCount(tower.frozenBits());
            case 6: return tower.doneMany();
            case 7: return sights.many;
            case 8: return past.many;
            case 9: return keptMany;
            case 10: return text.length;
            default: return BAD;
        }
    }

    // ---- helpers

    private boolean isPerson(int p) {
        return within(p, 0, tower.plan.persons - 1);
    }

    private boolean isStep(int s) {
        return within(s, 0, tower.plan.steps - 1);
    }

    private void takeDraft() {
        tower.plan.copyFrom(draft.plan);
        tower.standAs(draft);
        past.clear();
        sights.clear();
        keptMany = 0;
    }

    private int doneIfTheseFall(int falling) {
        trial.standAs(tower);
        for (int p = 0; p < trial.plan.persons; p++) {
            if (hasBit(falling, p)) {
                trial.gone[p] = true;
            }
        }
        return trial.doneMany();
    }

    private static int waysOfTen(int frozen, int falling, int x) {
        int fallen = Integer.bitCount(falling);
        int staying = Integer.bitCount(frozen) - fallen;
        return power(x, fallen) * power(10 - x, staying);
    }

    private static int power(int base, int times) {
        int product = 1;
        for (int i = 0; i < times; i++) {
            product *= base;
        }
        return product;
    }

    private static int commonDivisor(int a, int b) {
        // Euclid needs far fewer rounds than this for numbers of an int.
        for (int round = 0; round < 100 && b != 0; round++) {
            int rest = a % b;
            a = b;
            b = rest;
        }
        return a;
    }

    private static int drawOf(int z, int yearOfThese) {
        long x = 7919L * z + 6151L * yearOfThese + 1;
        return (int) (x * x % 65521 / 2);
    }

    private static boolean within(int value, int least, int most) {
        return value >= least && value <= most;
    }

    private static int asNumber(boolean is) {
        return is ? 1 : 0;
    }

    private static boolean hasBit(int bits, int i) {
        return (bits >> i & 1) == 1;
    }

    private static Tower[] towersOf(Plan plan, int many) {
        Tower[] towers = new Tower[Math.max(many, 0)];
        for (int i = 0; i < towers.length; i++) {
            towers[i] = new Tower(plan);
        }
        return towers;
    }

    /** What a laid text says once and for all: years and acts do not change it. */
    private static final class Plan {
        int steps = USUAL_STEPS;
        int persons;
        int works;
        final int[] kind = new int[MOST_PERSONS];
        final int[] workStep = new int[MOST_WORKS];
        final int[] workNeed = new int[MOST_WORKS];

        void clear() {
            steps = USUAL_STEPS;
            persons = 0;
            works = 0;
        }

        void copyFrom(Plan other) {
            steps = other.steps;
            persons = other.persons;
            works = other.works;
            System.arraycopy(other.kind, 0, kind, 0, MOST_PERSONS);
            System.arraycopy(other.workStep, 0, workStep, 0, MOST_WORKS);
            System.arraycopy(other.workNeed, 0, workNeed, 0, MOST_WORKS);
        }
    }

    /** The people as they stand in a year; all towers of one object but the draft share a plan. */
    private static final class Tower {
        final Plan plan;
        final int[] step = new int[MOST_PERSONS];
        final int[] age = new int[MOST_PERSONS];
        final int[] nerve = new int[MOST_PERSONS];
        final boolean[] gone = new boolean[MOST_PERSONS];
        final boolean[] called = new boolean[MOST_PERSONS];
        int year;

        Tower(Plan plan) {
            this.plan = plan;
        }

        void standAs(Tower other) {
            System.arraycopy(other.step, 0, step, 0, MOST_PERSONS);
            System.arraycopy(other.age, 0, age, 0, MOST_PERSONS);
            System.arraycopy(other.nerve, 0, nerve, 0, MOST_PERSONS);
            System.arraycopy(other.gone, 0, gone, 0, MOST_PERSONS);
            System.arraycopy(other.called, 0, called, 0, MOST_PERSONS);
            year = other.year;
        }

        int fearOn(int p, int s) {
            return fearAs(plan.kind[p], p, s);
        }

        int fearAs(int kind, int p, int s) {
            int others = 0;
            // Only a singer asks who else is there.
            for (int q = 0; kind == SINGING && q < plan.persons; q++) {
                if (q != p && !gone[q] && step[q] == s) {
                    others++;
                }
            }
            return fearAmong(others, kind, age[p], s);
        }

        int fearAmong(int others, int kind, int years, int s) {
            int above = plan.steps - 1 - s;
            switch (kind) {
                case BOLD: return above;
                case SHAKY: return 2 * above + (years > 20 ? (years - 20) / 5 : 0);
                case SINGING: return above > others ? 2 * (above - others) : 0;
                default: return 2 * above;
            }
        }

        boolean isFrozen(int p) {
            return !gone[p] && fearAs(plan.kind[p], p, step[p]) > nerve[p];
        }

        boolean isSteady(int p) {
            return !gone[p] && fearAs(plan.kind[p], p, step[p]) <= nerve[p];
        }

        int frozenBits() {
            int bits = 0;
            for (int p = 0; p < plan.persons; p++) {
                if (isFrozen(p)) {
                    bits |= 1 << p;
                }
            }
            return bits;
        }

        int steadyBits() {
            int bits = 0;
            for (int p = 0; p < plan.persons; p++) {
                if (isSteady(p)) {
                    bits |= 1 << p;
                }
            }
            return bits;
        }

        boolean isDone(int w, int steady) {
            int hands = 0;
            for (int p = 0; p < plan.persons; p++) {
                if (hasBit(steady, p) && step[p] == plan.workStep[w]) {
                    hands++;
                }
            }
            return hands >= plan.workNeed[w];
        }

        int doneMany() {
            int steady = steadyBits();
            int many = 0;
            for (int w = 0; w < plan.works; w++) {
                if (isDone(w, steady)) {
                    many++;
                }
            }
            return many;
        }

        int goneMany() {
            int many = 0;
            for (int p = 0; p < plan.persons; p++) {
                many += asNumber(gone[p]);
            }
            return many;
        }

        int stepsTogether() {
            int sum = 0;
            for (int p = 0; p < plan.persons; p++) {
                sum += gone[p] ? 0 : step[p];
            }
            return sum;
        }

        void goYears(int n) {
            for (int i = 0; i < n; i++) {
                goYear();
            }
        }

        void goYear() {
            // All are judged before one is changed: a fall would frighten a singer in the same year.
            int frozen = 0;
            int falling = 0;
            for (int p = 0; p < plan.persons; p++) {
                int over = fearOn(p, step[p]) - nerve[p];
                if (!gone[p] && over >= FALLING) {
                    falling |= 1 << p;
                } else if (!gone[p] && over > 0) {
                    frozen |= 1 << p;
                }
            }
            for (int p = 0; p < plan.persons; p++) {
                if (hasBit(falling, p)) {
                    gone[p] = true;
                } else if (!gone[p]) {
                    nerve[p] = hasBit(frozen, p) ? Math.max(nerve[p] - 1, 0) : Math.min(nerve[p] + 1, MOST_NERVE);
                }
                age[p] = Math.min(age[p] + 1, MOST_AGE);
                called[p] = false;
            }
            year++;
        }

        boolean mayGoDown(int p) {
            return step[p] > 0 && isSteady(p);
        }

        void goDown(int p) {
            step[p]--;
        }

        boolean mayGoUp(int p) {
            return step[p] < plan.steps - 1 && !gone[p];
        }

        void goUp(int p) {
            step[p]++;
        }

        boolean mayBeCalled(int p) {
            return !gone[p] && !called[p];
        }

        void hearCall(int p) {
            int callers = 0;
            for (int q = 0; q < plan.persons; q++) {
                if (step[q] > step[p] && isSteady(q)) {
                    callers++;
                }
            }
            nerve[p] = Math.min(nerve[p] + callers, MOST_NERVE);
            called[p] = true;
        }

        void actBy(int draw) {
            if (plan.persons < 1) {
                return;
            }
            int p = draw % plan.persons;
            int act = draw / 8 % 6;
            if (act <= 1 && mayGoDown(p)) {
                goDown(p);
            } else if (act == 2 && mayGoUp(p)) {
                goUp(p);
            } else if (act == 3 && mayBeCalled(p)) {
                hearCall(p);
            }
        }
    }

    /** THE TEXT, and how it is read into a tower. */
    private static final class Text {
        final char[] letters = new char[MOST_LETTERS];
        int length;
        private int at;
        private final int[] numbers = new int[4];

        boolean add(char letter) {
            if (length >= MOST_LETTERS) {
                return false;
            }
            letters[length] = letter;
            length++;
            return true;
        }

        void clear() {
            length = 0;
        }

        /** The place of the first item that is not so, or NONE; the tower is of use only then. */
        int readInto(Tower into) {
            into.plan.clear();
            into.year = 0;
            at = 0;
            for (int items = 0; items < MOST_LETTERS && at < length; items++) {
                int start = at;
                if (!readItem(into)) {
                    return start;
                }
            }
            return NONE;
        }

        private boolean readItem(Tower into) {
            boolean isFirst = at == 0;
            char letter = letters[at];
            at++;
            switch (letter) {
                case 'h': return isFirst && readNumbers(1) && takeSteps(into.plan);
                case 'p': return readNumbers(4) && takePerson(into);
                case 'w': return readNumbers(2) && takeWork(into.plan);
                default: return false;
            }
        }

        private boolean readNumbers(int many) {
            for (int i = 0; i < many; i++) {
                int number = readNumber();
                char end = i + 1 < many ? ',' : ';';
                if (number < 0 || at >= length || letters[at] != end) {
                    return false;
                }
                numbers[i] = number;
                at++;
            }
            return true;
        }

        private int readNumber() {
            int first = figureAt(at);
            if (first < 0) {
                return -1;
            }
            at++;
            int second = figureAt(at);
            if (second < 0) {
                return first;
            }
            at++;
            return first * 10 + second;
        }

        private int figureAt(int place) {
            if (place >= length || letters[place] < '0' || letters[place] > '9') {
                return -1;
            }
            return letters[place] - '0';
        }

        private boolean takeSteps(Plan plan) {
            plan.steps = numbers[0];
            return within(numbers[0], LEAST_STEPS, MOST_STEPS);
        }

        private boolean takePerson(Tower into) {
            int p = into.plan.persons;
            if (p >= MOST_PERSONS || numbers[0] >= MOST_KINDS || numbers[1] >= into.plan.steps
                || !within(numbers[2], LEAST_AGE, MOST_AGE_TOLD) || numbers[3] > MOST_NERVE) {
                return false;
            }
            into.plan.kind[p] = numbers[0];
            into.step[p] = numbers[1];
            into.age[p] = numbers[2];
            into.nerve[p] = numbers[3];
            into.gone[p] = false;
            into.called[p] = false;
            into.plan.persons++;
            return true;
        }

        private boolean takeWork(Plan plan) {
            int w = plan.works;
            if (w >= MOST_WORKS || numbers[0] >= plan.steps || !within(numbers[1], 1, MOST_NEED)) {
                return false;
            }
            plan.workStep[w] = numbers[0];
            plan.workNeed[w] = numbers[1];
            plan.works++;
            return true;
        }
    }

    /** How it stood ahead of the latest acts; the oldest one makes room. */
    private static final class Past {
        private final Tower[] rows;
        private int oldest;
        int many;

        Past(Plan plan) {
            rows = towersOf(plan, MOST_UNDONE);
        }

        void add(Tower tower) {
            rows[(oldest + many) % MOST_UNDONE].standAs(tower);
            if (many < MOST_UNDONE) {
                many++;
            } else {
                oldest = (oldest + 1) % MOST_UNDONE;
            }
        }

        void takeLastInto(Tower tower) {
            if (many > 0) {
                many--;
                tower.standAs(rows[(oldest + many) % MOST_UNDONE]);
            }
        }

        void clear() {
            many = 0;
        }
    }

    /** What is SEEN. */
    private static final class Sights {
        private final int[] who = new int[MOST_SEEN];
        private final int[] where = new int[MOST_SEEN];
        private final boolean[] frozen = new boolean[MOST_SEEN];
        int many;

        boolean add(int p, int s, boolean isFrozen) {
            if (many >= MOST_SEEN) {
                return false;
            }
            who[many] = p;
            where[many] = s;
            frozen[many] = isFrozen;
            many++;
            return true;
        }

        void clear() {
            many = 0;
        }

        boolean wouldHold(Tower tower, int p, int kind, int nerve) {
            for (int i = 0; i < many; i++) {
                if (who[i] == p && (tower.fearAs(kind, p, where[i]) > nerve) != frozen[i]) {
                    return false;
                }
            }
            return true;
        }
    }

    /** POSTING: persons are put one behind the other, each as low as can be first. */
    private static final class Posting {
        private final Tower trial;
        private final int[] places = new int[MOST_PERSONS];
        private final int[] easier = new int[MOST_WORKS];
        private final int[] crowd = new int[MOST_STEPS];
        private int waiting;
        final int[] best = new int[MOST_PERSONS];
        int most;

        Posting(Tower trial) {
            this.trial = trial;
        }

        /** most is -1 if there is no way. */
        void search(Tower tower) {
            trial.standAs(tower);
            most = -1;
            waiting = trial.plan.persons - trial.goneMany();
            for (int s = 0; s < MOST_STEPS; s++) {
                crowd[s] = 0;
            }
            for (int w = 0; w < trial.plan.works; w++) {
                easier[w] = needOfNextEasier(w);
            }
            boolean allHavePlaces = true;
            for (int p = 0; p < trial.plan.persons; p++) {
                places[p] = placesOf(p);
                allHavePlaces = allHavePlaces && (trial.gone[p] || places[p] != 0);
            }
            if (allHavePlaces) {
                putFrom(0);
            }
        }

        /** Steps where one may be put and would not be frozen if all others came along. */
        private int placesOf(int p) {
            int bits = 1 << trial.step[p];
            for (int w = 0; w < trial.plan.works; w++) {
                bits |= 1 << trial.plan.workStep[w];
            }
            for (int s = 0; s < trial.plan.steps; s++) {
                if (isFrozenAmong(p, s, waiting - 1)) {
                    bits &= ~(1 << s);
                }
            }
            return bits;
        }

        private boolean isFrozenAmong(int p, int s, int others) {
            return trial.fearAmong(others, trial.plan.kind[p], trial.age[p], s) > trial.nerve[p];
        }

        private int needOfNextEasier(int w) {
            int need = 0;
            for (int v = 0; v < trial.plan.works; v++) {
                if (trial.plan.workStep[v] == trial.plan.workStep[w] && isEasier(v, w)) {
                    need = Math.max(need, trial.plan.workNeed[v]);
                }
            }
            return need;
        }

        private boolean isEasier(int v, int w) {
            int less = trial.plan.workNeed[w] - trial.plan.workNeed[v];
            return less > 0 || less == 0 && v < w;
        }

        private void putFrom(int p) {
            if (mostInReach() <= most || isSurelyFrozenBefore(p)) {
                return;
            }
            if (p >= trial.plan.persons) {
                takeIfBetter();
            } else if (trial.gone[p]) {
                putFrom(p + 1);
            } else {
                waiting--;
                for (int s = 0; s < trial.plan.steps; s++) {
                    if (hasBit(places[p], s)) {
                        put(p, s);
                    }
                }
                waiting++;
            }
        }

        private void put(int p, int s) {
            trial.step[p] = s;
            crowd[s]++;
            putFrom(p + 1);
            crowd[s]--;
        }

        /** Only a singer's fear can still fall, by all who are yet to be put. */
        private boolean isSurelyFrozenBefore(int end) {
            for (int p = 0; p < end; p++) {
                int s = trial.step[p];
                if (!trial.gone[p] && isFrozenAmong(p, s, crowd[s] - 1 + waiting)) {
                    return true;
                }
            }
            return false;
        }

        /** No fewer than the works that can be done yet: those who wait go to the cheapest ones. */
        private int mostInReach() {
            int left = waiting;
            int many = 0;
            for (int price = 0; price <= MOST_NEED; price++) {
                for (int w = 0; w < trial.plan.works; w++) {
                    if (price <= left && priceOf(w) == price) {
                        left -= price;
                        many++;
                    }
                }
            }
            return many;
        }

        /** How many hands a work lacks beyond those that the next easier one on its step lacks. */
        private int priceOf(int w) {
            int there = crowd[trial.plan.workStep[w]];
            return Math.max(trial.plan.workNeed[w] - there, 0) - Math.max(easier[w] - there, 0);
        }

        /** All are put and nobody is frozen: the crowd is the hands that are there. */
        private void takeIfBetter() {
            int many = 0;
            for (int w = 0; w < trial.plan.works; w++) {
                many += asNumber(crowd[trial.plan.workStep[w]] >= trial.plan.workNeed[w]);
            }
            if (many > most) {
                most = many;
                for (int p = 0; p < trial.plan.persons; p++) {
                    best[p] = trial.gone[p] ? NONE : trial.step[p];
                }
            }
        }
    }

    /** TIMETABLE: a tower for each year to come, so that a choice is undone by laying it anew. */
    private static final class Timetable {
        private final Tower[] ahead;
        private final int[] chosen = new int[MOST_PLANNED];
        private int years;
        final int[] best = new int[MOST_PLANNED];
        int most;

        Timetable(Plan plan) {
            ahead = towersOf(plan, MOST_PLANNED + 1);
        }

        void search(Tower tower, int n) {
            years = Math.min(n, MOST_PLANNED);
            most = -1;
            ahead[0].standAs(tower);
            chooseFrom(0);
        }

        private void chooseFrom(int year) {
            Tower now = ahead[year];
            if (year >= years) {
                takeIfBetter(now.doneMany());
                return;
            }
            choose(year, NONE);
            // No choice can be better than all works.
            for (int p = 0; p < now.plan.persons && most < now.plan.works; p++) {
                if (now.mayGoDown(p)) {
                    choose(year, p);
                }
            }
        }

        private void choose(int year, int whom) {
            Tower next = ahead[year + 1];
            next.standAs(ahead[year]);
            if (whom >= 0) {
                next.goDown(whom);
            }
            next.goYear();
            chosen[year] = whom;
            chooseFrom(year + 1);
        }

        private void takeIfBetter(int many) {
            if (many > most) {
                most = many;
                System.arraycopy(chosen, 0, best, 0, MOST_PLANNED);
            }
        }
    }

    /** SWAP: every two are tried. */
    private static final class Swap {
        private final Tower trial;
        int pair;
        int most;

        Swap(Tower trial) {
            this.trial = trial;
        }

        /** most is -1 if there are no two. */
        void search(Tower tower) {
            most = -1;
            trial.standAs(tower);
            for (int p = 0; p < trial.plan.persons; p++) {
                for (int q = p + 1; q < trial.plan.persons; q++) {
                    if (!trial.gone[p] && !trial.gone[q] && trial.step[p] != trial.step[q]) {
                        takeIfBetter(p, q);
                    }
                }
            }
        }

        private void takeIfBetter(int p, int q) {
            changePlaces(p, q);
            int many = trial.doneMany();
            changePlaces(p, q);
            if (many > most) {
                most = many;
                pair = 10 * p + q;
            }
        }

        private void changePlaces(int p, int q) {
            int s = trial.step[p];
            trial.step[p] = trial.step[q];
            trial.step[q] = s;
        }
    }

    /** CAN: how many persons it takes from each one to the goal, counted from the goal on. */
    private static final class Chain {
        private final int[] persons = new int[MOST_PERSONS];
        int fewest;
        int first;

        /** first is -1 if there is no chain. */
        void search(Tower tower, int from, int goal) {
            countFrom(tower, goal);
            first = -1;
            fewest = 0;
            for (int p = 0; p < tower.plan.persons; p++) {
                if (persons[p] > 0 && tower.step[p] == from && (first < 0 || persons[p] < fewest)) {
                    first = p;
                    fewest = persons[p];
                }
            }
        }

        /** 0 stands for one from whom there is no chain. */
        private void countFrom(Tower tower, int goal) {
            int steady = tower.steadyBits();
            for (int p = 0; p < tower.plan.persons; p++) {
                persons[p] = hasBit(steady, p) && tower.step[p] == goal ? 1 : 0;
            }
            for (int many = 1; many < tower.plan.persons; many++) {
                for (int p = 0; p < tower.plan.persons; p++) {
                    if (persons[p] == 0 && hasBit(steady, p) && reaches(tower, p, many)) {
                        persons[p] = many + 1;
                    }
                }
            }
        }

        private boolean reaches(Tower tower, int p, int many) {
            for (int q = 0; q < tower.plan.persons; q++) {
                if (persons[q] == many && Math.abs(tower.step[p] - tower.step[q]) <= CAN_REACH) {
                    return true;
                }
            }
            return false;
        }
    }
}

import java.util.ArrayDeque;
import java.util.ArrayList;
import java.util.Deque;
import java.util.List;
import java.util.Random;
import java.util.TreeSet;
import java.util.regex.Matcher;
import java.util.regex.Pattern;

/**
 * Long random runs of calls, each answer held against a model of the document that is written
 * as slowly and plainly as can be: regular expressions read the text, all ways are tried.
 */
public final class ModelTest {
    static final int BAD = -1, NO = -2, FULL = -3, NONE = -4;
    private static final int CALLS = 512;
    private static final int RUNS = 400;

    private static int wrong = 0;

    public static void main(String[] args) {
        long answers = 0;
        for (int seed = 0; seed < RUNS && wrong < 20; seed++) {
            answers += run(seed);
        }
        System.out.println(answers + " answers held against the model, " + wrong + " wrong");
        if (wrong != 0) {
            System.exit(1);
        }
    }

    private static int run(int seed) {
        Random dice = new Random(seed);
        TowerService program = new TowerService();
        Model model = new Model();
        Caller caller = new Caller(program, model, seed);
        if (seed % 4 != 0) {
            layText(caller, dice);
        }
        while (caller.calls < CALLS) {
            int kind = dice.nextInt(200);
            if (kind == 0 && caller.calls + 200 < CALLS) {
                layText(caller, dice);
            } else {
                randomCall(caller, dice);
            }
        }
        return caller.calls;
    }

    private static void layText(Caller caller, Random dice) {
        caller.call("wipe");
        for (char letter : randomText(dice).toCharArray()) {
            caller.call("write", letter);
        }
        caller.call("fault");
        caller.call("lay");
    }

    private static String randomText(Random dice) {
        StringBuilder text = new StringBuilder();
        int steps = 6;
        if (dice.nextInt(4) != 0) {
            steps = 2 + dice.nextInt(9);
            text.append('h').append(steps).append(';');
        }
        int persons = dice.nextInt(20) == 0 ? dice.nextInt(9) : 1 + dice.nextInt(6);
        int works = dice.nextInt(20) == 0 ? dice.nextInt(8) : dice.nextInt(6);
        int favourite = dice.nextInt(8);
        int daring = dice.nextInt(3);
        while (persons + works > 0) {
            if (dice.nextInt(persons + works) < persons) {
                persons--;
                int kind = favourite < 4 && dice.nextBoolean() ? favourite : dice.nextInt(4);
                int nerve = daring == 0 ? dice.nextInt(6) : daring == 1 ? dice.nextInt(15) : dice.nextInt(31);
                text.append('p').append(kind).append(',').append(dice.nextInt(steps)).append(',')
                    .append(12 + dice.nextInt(49)).append(',').append(nerve).append(';');
            } else {
                works--;
                text.append('w').append(dice.nextInt(steps)).append(',')
                    .append(dice.nextInt(3) == 0 ? 1 + dice.nextInt(4) : 1 + dice.nextInt(2)).append(';');
            }
        }
        if (dice.nextInt(5) == 0 && text.length() > 0) {
            int at = dice.nextInt(text.length());
            String signs = "hpw,;0123456789 x";
            switch (dice.nextInt(3)) {
                case 0 -> text.deleteCharAt(at);
                case 1 -> text.insert(at, signs.charAt(dice.nextInt(signs.length())));
                default -> text.setCharAt(at, signs.charAt(dice.nextInt(signs.length())));
            }
        }
        return text.toString();
    }

    /** Mostly a number that is told, now and then one beside it. */
    private static int pick(Random dice, int least, int most) {
        int odd = dice.nextInt(40);
        if (odd == 0) {
            return least - 1;
        }
        if (odd == 1) {
            return most + 1;
        }
        if (odd == 2) {
            return dice.nextBoolean() ? Integer.MAX_VALUE : Integer.MIN_VALUE;
        }
        return least + dice.nextInt(most - least + 1);
    }

    private static void randomCall(Caller c, Random dice) {
        int p = pick(dice, 0, Math.max(0, c.model.people.size() - 1));
        int s = pick(dice, 0, c.model.steps - 1);
        int t = pick(dice, 0, c.model.steps - 1);
        int two = pick(dice, 0, 1);
        switch (dice.nextInt(40)) {
            case 0 -> c.call("write", pick(dice, 32, 126));
            case 1 -> c.call(dice.nextInt(6) == 0 ? "wipe" : "fault");
            case 2 -> c.call(dice.nextInt(12) == 0 ? "lay" : "fault");
            case 3, 4, 5 -> c.call("person", p, pick(dice, 0, 7));
            case 6 -> c.call("fear", p, s);
            case 7 -> c.call("work", pick(dice, 0, Math.max(0, c.model.works.size() - 1)), pick(dice, 0, 2));
            case 8, 9 -> c.call("pass", dice.nextInt(3) == 0 ? pick(dice, 1, 40) : 1);
            case 10, 11, 12, 13 -> c.call("promote", p);
            case 14, 15 -> c.call("hoist", p);
            case 16, 17 -> c.call("call", p);
            case 18, 19 -> c.call("undo");
            case 20, 21 -> c.call("behind", pick(dice, 0, 40), p, two);
            case 22 -> c.call("lowest", p);
            case 23, 24 -> c.call("posting", pick(dice, -1, Math.max(0, c.model.people.size() - 1)));
            case 25 -> c.call("timetable", pick(dice, 1, 4), pick(dice, -1, 3));
            case 26 -> c.call("swap", two);
            case 27, 28 -> c.call("can", s, t, two);
            case 29, 30 -> c.call("seen", p, s, two);
            case 31 -> c.call(dice.nextInt(4) == 0 ? "forget" : "keep");
            case 32 -> c.call("nerves", p, two);
            case 33 -> c.call("kinds", p);
            case 34, 35 -> c.call("likely", pick(dice, 0, 5), pick(dice, 0, 10), two);
            case 36 -> c.call("decade", pick(dice, 0, 9999), pick(dice, 1, 60), pick(dice, 0, 2));
            case 37 -> c.call("keep");
            case 38 -> c.call("back");
            default -> c.call("count", pick(dice, 0, 10));
        }
    }

    /** Makes each call on both and tells where they part. */
    static final class Caller {
        final TowerService program;
        final Model model;
        final int seed;
        int calls = 0;

        Caller(TowerService program, Model model, int seed) {
            this.program = program;
            this.model = model;
            this.seed = seed;
        }

        void call(String name, int... a) {
            if (calls >= CALLS) {
                return;
            }
            calls++;
            int got = ofProgram(name, a);
            int want = ofModel(name, a);
            if (got != want && wrong < 20) {
                wrong++;
                System.out.println("seed " + seed + ", call " + calls + ": " + name + java.util.Arrays.toString(a)
                    + " answered " + got + ", due is " + want);
            }
        }

        private int ofProgram(String name, int[] a) {
            TowerService x = program;
            return switch (name) {
                case "write" -> x.write(a[0]);
                case "wipe" -> x.wipe();
                case "fault" -> x.fault();
                case "lay" -> x.lay();
                case "person" -> x.person(a[0], a[1]);
                case "fear" -> x.fear(a[0], a[1]);
                case "work" -> x.work(a[0], a[1]);
                case "pass" -> x.pass(a[0]);
                case "promote" -> x.promote(a[0]);
                case "hoist" -> x.hoist(a[0]);
                case "call" -> x.call(a[0]);
                case "undo" -> x.undo();
                case "behind" -> x.behind(a[0], a[1], a[2]);
                case "lowest" -> x.lowest(a[0]);
                case "posting" -> x.posting(a[0]);
                case "timetable" -> x.timetable(a[0], a[1]);
                case "swap" -> x.swap(a[0]);
                case "can" -> x.can(a[0], a[1], a[2]);
                case "seen" -> x.seen(a[0], a[1], a[2]);
                case "forget" -> x.forget();
                case "nerves" -> x.nerves(a[0], a[1]);
                case "kinds" -> x.kinds(a[0]);
                case "likely" -> x.likely(a[0], a[1], a[2]);
                case "decade" -> x.decade(a[0], a[1], a[2]);
                case "keep" -> x.keep();
                case "back" -> x.back();
                case "count" -> x.count(a[0]);
                default -> throw new IllegalArgumentException(name);
            };
        }

        private int ofModel(String name, int[] a) {
            Model x = model;
            return switch (name) {
                case "write" -> x.write(a[0]);
                case "wipe" -> x.wipe();
                case "fault" -> x.fault();
                case "lay" -> x.lay();
                case "person" -> x.person(a[0], a[1]);
                case "fear" -> x.fear(a[0], a[1]);
                case "work" -> x.work(a[0], a[1]);
                case "pass" -> x.pass(a[0]);
                case "promote" -> x.promote(a[0]);
                case "hoist" -> x.hoist(a[0]);
                case "call" -> x.call(a[0]);
                case "undo" -> x.undo();
                case "behind" -> x.behind(a[0], a[1], a[2]);
                case "lowest" -> x.lowest(a[0]);
                case "posting" -> x.posting(a[0]);
                case "timetable" -> x.timetable(a[0], a[1]);
                case "swap" -> x.swap(a[0]);
                case "can" -> x.can(a[0], a[1], a[2]);
                case "seen" -> x.seen(a[0], a[1], a[2]);
                case "forget" -> x.forget();
                case "nerves" -> x.nerves(a[0], a[1]);
                case "kinds" -> x.kinds(a[0]);
                case "likely" -> x.likely(a[0], a[1], a[2]);
                case "decade" -> x.decade(a[0], a[1], a[2]);
                case "keep" -> x.keep();
                case "back" -> x.back();
                case "count" -> x.count(a[0]);
                default -> throw new IllegalArgumentException(name);
            };
        }
    }

    record Person(int kind, int step, int age, int nerve, boolean gone, boolean called) {
        Person onStep(int s) { return new Person(kind, s, age, nerve, gone, called); }
        Person withKind(int k) { return new Person(k, step, age, nerve, gone, called); }
        Person withNerve(int n) { return new Person(kind, step, age, n, gone, called); }
        Person asCalled(int n) { return new Person(kind, step, age, n, gone, true); }
        Person asGone() { return new Person(kind, step, age, nerve, true, called); }
        Person yearOlder() { return new Person(kind, step, Math.min(99, age + 1), nerve, gone, false); }
    }

    record Work(int step, int need) { }

    record Kept(List<Person> people, int year) { }

    record Sight(int p, int s, boolean frozen) { }

    /** The document once more; a list of people is never changed, only put in another's place. */
    static final class Model {
        private static final Pattern H = Pattern.compile("h(\\d\\d?);");
        private static final Pattern P = Pattern.compile("p(\\d\\d?),(\\d\\d?),(\\d\\d?),(\\d\\d?);");
        private static final Pattern W = Pattern.compile("w(\\d\\d?),(\\d\\d?);");

        String text = "";
        int steps;
        List<Person> people = new ArrayList<>();
        List<Work> works = new ArrayList<>();
        int year;
        Deque<Kept> past = new ArrayDeque<>();
        List<Kept> kept = new ArrayList<>();
        List<Sight> sights = new ArrayList<>();

        private int readSteps;
        private List<Person> readPeople;
        private List<Work> readWorks;

        Model() {
            text = "h6;p0,5,12,8;p1,3,30,5;p2,4,25,6;p3,5,14,2;p3,5,13,3;p0,1,60,9;w5,2;w4,1;w3,1;w1,1;w0,1;";
            lay();
            text = "";
        }

        int write(int letter) {
            if (letter < 32 || letter > 126) return BAD;
            if (text.length() == 200) return FULL;
            text += (char) letter;
            return text.length();
        }

        int wipe() {
            int was = text.length();
            text = "";
            return was;
        }

        int fault() {
            readSteps = 6;
            readPeople = new ArrayList<>();
            readWorks = new ArrayList<>();
            String rest = text;
            while (!rest.isEmpty()) {
                int place = text.length() - rest.length();
                Matcher h = H.matcher(rest), p = P.matcher(rest), w = W.matcher(rest);
                if (h.lookingAt()) {
                    readSteps = number(h, 1);
                    if (place != 0 || readSteps < 2 || readSteps > 10) return place;
                    rest = rest.substring(h.end());
                } else if (p.lookingAt()) {
                    int k = number(p, 1), s = number(p, 2), a = number(p, 3), n = number(p, 4);
                    if (k > 3 || s >= readSteps || a < 12 || a > 60 || n > 30 || readPeople.size() == 6) return place;
                    readPeople.add(new Person(k, s, a, n, false, false));
                    rest = rest.substring(p.end());
                } else if (w.lookingAt()) {
                    int s = number(w, 1), m = number(w, 2);
                    if (s >= readSteps || m < 1 || m > 4 || readWorks.size() == 5) return place;
                    readWorks.add(new Work(s, m));
                    rest = rest.substring(w.end());
                } else {
                    return place;
                }
            }
            return NONE;
        }

        private static int number(Matcher m, int group) {
            return Integer.parseInt(m.group(group));
        }

        int lay() {
            if (fault() != NONE || readPeople.isEmpty()) return NO;
            steps = readSteps;
            people = readPeople;
            works = readWorks;
            year = 0;
            past.clear();
            kept.clear();
            sights.clear();
            return people.size();
        }

        // -- the rules, over any list of people

        int fearIn(List<Person> all, int p, int s) {
            Person one = all.get(p);
            int stepsAbove = 0;
            for (int t = s + 1; t < steps; t++) stepsAbove++;
            int fear = 2 * stepsAbove;
            if (one.kind == 1) fear = fear / 2;
            if (one.kind == 2) for (int a = 25; a <= one.age; a += 5) fear++;
            if (one.kind == 3) {
                for (int q = 0; q < all.size(); q++) {
                    if (q != p && !all.get(q).gone && all.get(q).step == s) fear -= 2;
                }
                if (fear < 0) fear = 0;
            }
            return fear;
        }

        int overIn(List<Person> all, int p) {
            return fearIn(all, p, all.get(p).step) - all.get(p).nerve;
        }

        boolean frozenIn(List<Person> all, int p) {
            return !all.get(p).gone && overIn(all, p) > 0;
        }

        boolean steadyIn(List<Person> all, int p) {
            return !all.get(p).gone && overIn(all, p) <= 0;
        }

        boolean doneIn(List<Person> all, Work w) {
            int hands = 0;
            for (int p = 0; p < all.size(); p++) if (all.get(p).step == w.step && steadyIn(all, p)) hands++;
            return hands >= w.need;
        }

        int doneIn(List<Person> all) {
            int many = 0;
            for (Work w : works) if (doneIn(all, w)) many++;
            return many;
        }

        List<Person> afterYear(List<Person> all) {
            List<Person> next = new ArrayList<>();
            for (int p = 0; p < all.size(); p++) {
                Person one = all.get(p);
                Person then = one;
                if (!one.gone) {
                    int over = overIn(all, p);
                    if (over >= 8) then = one.asGone();
                    else if (over > 0) then = one.withNerve(Math.max(0, one.nerve - 1));
                    else then = one.withNerve(Math.min(30, one.nerve + 1));
                }
                next.add(then.yearOlder());
            }
            return next;
        }

        List<Person> after(List<Person> all, int years) {
            for (int i = 0; i < years; i++) all = afterYear(all);
            return all;
        }

        static List<Person> with(List<Person> all, int p, Person one) {
            List<Person> next = new ArrayList<>(all);
            next.set(p, one);
            return next;
        }

        /** null where it can't be. */
        List<Person> promoted(List<Person> all, int p) {
            if (!steadyIn(all, p) || all.get(p).step == 0) return null;
            return with(all, p, all.get(p).onStep(all.get(p).step - 1));
        }

        List<Person> hoisted(List<Person> all, int p) {
            if (all.get(p).gone || all.get(p).step == steps - 1) return null;
            return with(all, p, all.get(p).onStep(all.get(p).step + 1));
        }

        List<Person> calledTo(List<Person> all, int p) {
            Person one = all.get(p);
            if (one.gone || one.called) return null;
            int nerve = one.nerve;
            for (int q = 0; q < all.size(); q++) if (steadyIn(all, q) && all.get(q).step > one.step) nerve++;
            return with(all, p, one.asCalled(Math.min(30, nerve)));
        }

        // -- the calls

        boolean isPerson(int p) { return p >= 0 && p < people.size(); }
        boolean isStep(int s) { return s >= 0 && s < steps; }
        static int bit(boolean is) { return is ? 1 : 0; }

        int person(int p, int what) {
            if (!isPerson(p) || what < 0 || what > 7) return BAD;
            Person one = people.get(p);
            return new int[] {one.kind, one.step, one.age, one.nerve, fearIn(people, p, one.step),
                bit(frozenIn(people, p)), bit(one.gone), bit(!one.gone && !one.called)}[what];
        }

        int fear(int p, int s) {
            return isPerson(p) && isStep(s) ? fearIn(people, p, s) : BAD;
        }

        int work(int w, int what) {
            if (w < 0 || w >= works.size() || what < 0 || what > 2) return BAD;
            Work one = works.get(w);
            return new int[] {one.step, one.need, bit(doneIn(people, one))}[what];
        }

        private void act(List<Person> next, int years) {
            past.addLast(new Kept(people, year));
            if (past.size() > 8) past.removeFirst();
            people = next;
            year += years;
        }

        int pass(int n) {
            if (n < 1 || n > 40) return BAD;
            if (year + n > 999) return NO;
            act(after(people, n), n);
            return year;
        }

        int promote(int p) {
            if (!isPerson(p)) return BAD;
            List<Person> next = promoted(people, p);
            if (next == null) return NO;
            act(next, 0);
            return people.get(p).step;
        }

        int hoist(int p) {
            if (!isPerson(p)) return BAD;
            List<Person> next = hoisted(people, p);
            if (next == null) return NO;
            act(next, 0);
            return people.get(p).step;
        }

        int call(int p) {
            if (!isPerson(p)) return BAD;
            List<Person> next = calledTo(people, p);
            if (next == null) return NO;
            act(next, 0);
            return people.get(p).nerve;
        }

        int undo() {
            if (past.isEmpty()) return NO;
            Kept was = past.removeLast();
            people = was.people;
            year = was.year;
            return past.size();
        }

        int behind(int n, int p, int what) {
            if (n < 0 || n > 40 || !isPerson(p) || what < 0 || what > 1) return BAD;
            Person then = after(people, n).get(p);
            return what == 0 ? bit(then.gone) : then.nerve;
        }

        int lowest(int p) {
            if (!isPerson(p)) return BAD;
            if (!steadyIn(people, p)) return NO;
            List<Person> all = people;
            while (all.get(p).step > 0) {
                List<Person> next = promoted(all, p);
                if (next == null || !steadyIn(next, p)) break;
                all = next;
            }
            return all.get(p).step;
        }

        int posting(int p) {
            if (p != -1 && !isPerson(p)) return BAD;
            List<List<Integer>> choices = new ArrayList<>();
            for (Person one : people) {
                TreeSet<Integer> may = new TreeSet<>();
                may.add(one.step);
                if (!one.gone) for (Work w : works) may.add(w.step);
                choices.add(new ArrayList<>(may));
            }
            int ways = 1;
            for (List<Integer> may : choices) ways *= may.size();
            int most = -1;
            List<Person> best = null;
            for (int way = 0; way < ways; way++) {
                List<Person> all = new ArrayList<>(people);
                int rest = way;
                for (int q = people.size() - 1; q >= 0; q--) {
                    List<Integer> may = choices.get(q);
                    all.set(q, people.get(q).onStep(may.get(rest % may.size())));
                    rest /= may.size();
                }
                boolean anyFrozen = false;
                for (int q = 0; q < all.size() && !anyFrozen; q++) anyFrozen = frozenIn(all, q);
                if (!anyFrozen && doneIn(all) > most) {
                    most = doneIn(all);
                    best = all;
                }
            }
            if (best == null) return NONE;
            if (p == -1) return most;
            return people.get(p).gone ? NONE : best.get(p).step;
        }

        int timetable(int n, int k) {
            if (n < 1 || n > 4 || k < -1 || k > 3) return BAD;
            int options = people.size() + 1;
            int ways = 1;
            for (int i = 0; i < n; i++) ways *= options;
            int most = -1;
            int[] best = null;
            for (int way = 0; way < ways; way++) {
                int[] whom = new int[n];
                int rest = way;
                for (int i = n - 1; i >= 0; i--) {
                    whom[i] = rest % options - 1;
                    rest /= options;
                }
                List<Person> all = people;
                for (int i = 0; i < n && all != null; i++) {
                    if (whom[i] >= 0) all = promoted(all, whom[i]);
                    if (all != null) all = afterYear(all);
                }
                if (all != null && doneIn(all) > most) {
                    most = doneIn(all);
                    best = whom;
                }
            }
            if (k == -1) return most;
            return k >= n || best[k] < 0 ? NONE : best[k];
        }

        int swap(int what) {
            if (what < 0 || what > 1) return BAD;
            int most = -1, pair = NONE;
            for (int number = 0; number < 60; number++) {
                int p = number / 10, q = number % 10;
                if (p >= q || q >= people.size()) continue;
                Person a = people.get(p), b = people.get(q);
                if (a.gone || b.gone || a.step == b.step) continue;
                int many = doneIn(with(with(people, p, a.onStep(b.step)), q, b.onStep(a.step)));
                if (many > most) {
                    most = many;
                    pair = number;
                }
            }
            return most < 0 ? NONE : what == 0 ? pair : most;
        }

        int can(int a, int b, int what) {
            if (!isStep(a) || !isStep(b) || what < 0 || what > 1) return BAD;
            for (int many = 1; many <= people.size(); many++) {
                for (int p = 0; p < people.size(); p++) {
                    if (people.get(p).step == a && steadyIn(people, p) && chainFrom(p, b, many)) {
                        return what == 0 ? many : p;
                    }
                }
            }
            return NONE;
        }

        private boolean chainFrom(int p, int goal, int many) {
            if (many == 1) return people.get(p).step == goal;
            for (int q = 0; q < people.size(); q++) {
                if (q != p && steadyIn(people, q) && Math.abs(people.get(p).step - people.get(q).step) <= 2
                    && chainFrom(q, goal, many - 1)) return true;
            }
            return false;
        }

        int seen(int p, int s, int frozen) {
            if (!isPerson(p) || !isStep(s) || frozen < 0 || frozen > 1) return BAD;
            if (sights.size() == 6) return FULL;
            sights.add(new Sight(p, s, frozen == 1));
            return sights.size();
        }

        int forget() {
            int were = sights.size();
            sights.clear();
            return were;
        }

        private boolean allSeenHolds(int p, Person instead) {
            List<Person> all = with(people, p, instead);
            for (Sight sight : sights) {
                if (sight.p == p && (fearIn(all, p, sight.s) > instead.nerve) != sight.frozen) return false;
            }
            return true;
        }

        int nerves(int p, int what) {
            if (!isPerson(p) || what < 0 || what > 1) return BAD;
            List<Integer> fit = new ArrayList<>();
            for (int n = 0; n <= 30; n++) if (allSeenHolds(p, people.get(p).withNerve(n))) fit.add(n);
            if (what == 0) return fit.size();
            return fit.isEmpty() ? NONE : fit.get(0);
        }

        int kinds(int p) {
            if (!isPerson(p)) return BAD;
            int bits = 0;
            for (int k = 0; k < 4; k++) if (allSeenHolds(p, people.get(p).withKind(k))) bits += 1 << k;
            return bits;
        }

        int likely(int m, int x, int part) {
            if (m < 0 || m > 5 || x < 0 || x > 10 || part < 0 || part > 1) return BAD;
            long[] chance = chanceFrom(people, 0, m, x);
            long a = chance[0], b = chance[1];
            for (long d = b; d > 1; d--) {
                if (a % d == 0 && b % d == 0) {
                    a /= d;
                    b /= d;
                    break;
                }
            }
            return (int) (part == 0 ? a : b);
        }

        /** Above and below of a fraction, not in lowest terms; who falls is chosen person by person. */
        private long[] chanceFrom(List<Person> all, int p, int m, int x) {
            if (p == people.size()) return new long[] {doneIn(all) >= m ? 1 : 0, 1};
            if (!frozenIn(people, p)) return chanceFrom(all, p + 1, m, x);
            long[] falls = chanceFrom(with(all, p, all.get(p).asGone()), p + 1, m, x);
            long[] stays = chanceFrom(all, p + 1, m, x);
            return new long[] {x * falls[0] + (10 - x) * stays[0], 10 * stays[1]};
        }

        int decade(int z, int n, int what) {
            if (z < 0 || z > 9999 || n < 1 || n > 60 || what < 0 || what > 2) return BAD;
            List<Person> all = people;
            for (int i = 0; i < n; i++) {
                java.math.BigInteger x = java.math.BigInteger.valueOf(7919L * z + 6151L * i + 1);
                int draw = x.multiply(x).mod(java.math.BigInteger.valueOf(65521)).intValue() / 2;
                int p = draw % people.size();
                List<Person> next = switch (draw / 8 % 6) {
                    case 0, 1 -> promoted(all, p);
                    case 2 -> hoisted(all, p);
                    case 3 -> calledTo(all, p);
                    default -> null;
                };
                all = afterYear(next == null ? all : next);
            }
            int gone = 0, sum = 0;
            for (Person one : all) {
                if (one.gone) gone++;
                else sum += one.step;
            }
            return what == 0 ? gone : what == 1 ? doneIn(all) : sum;
        }

        int keep() {
            if (kept.size() == 2) return FULL;
            kept.add(new Kept(people, year));
            return kept.size();
        }

        int back() {
            if (kept.isEmpty()) return NO;
            Kept was = kept.remove(kept.size() - 1);
            people = was.people;
            year = was.year;
            past.clear();
            return kept.size();
        }

        int count(int what) {
            if (what < 0 || what > 10) return BAD;
            int gone = 0, frozen = 0;
            for (int p = 0; p < people.size(); p++) {
                gone += bit(people.get(p).gone);
                frozen += bit(frozenIn(people, p));
            }
            return new int[] {steps, people.size(), works.size(), year, gone, frozen, doneIn(people),
                sights.size(), past.size(), kept.size(), text.length()}[what];
        }
    }
}

/** Each promise by itself: ordinary calls, the edges that the document names, and wrong numbers. */
public final class PromiseTest {
    private static final int BAD = -1, NO = -2, FULL = -3, NONE = -4;
    private static final int LOW = Integer.MIN_VALUE, HIGH = Integer.MAX_VALUE;
    private static int checks = 0;
    private static int wrong = 0;

    public static void main(String[] args) {
        newObject();
        write();
        wipe();
        faultOfLetters();
        faultOfNumbers();
        lay();
        person();
        fear();
        work();
        pass();
        promote();
        hoist();
        call();
        undo();
        behind();
        lowest();
        posting();
        timetable();
        swap();
        can();
        seen();
        forget();
        nerves();
        kinds();
        likely();
        decade();
        keep();
        back();
        count();
        exampleOfReadme();
        System.out.println(checks + " checks, " + wrong + " wrong");
        if (wrong != 0) {
            System.exit(1);
        }
    }

    private static void due(int promise, String what, int got, int want) {
        checks++;
        if (got != want) {
            wrong++;
            System.out.println("promise " + promise + ": " + what + " answered " + got + ", due is " + want);
        }
    }

    private static TowerService written(String text) {
        TowerService x = new TowerService();
        for (char letter : text.toCharArray()) {
            x.write(letter);
        }
        return x;
    }

    private static TowerService laid(String text) {
        TowerService x = written(text);
        if (x.lay() < 1) {
            wrong++;
            System.out.println("promise 5: not laid: " + text);
        }
        return x;
    }

    private static int faultOf(String text) {
        return written(text).fault();
    }

    private static void newObject() {
        TowerService x = new TowerService();
        int[] counts = {6, 6, 5, 0, 0, 0, 4, 0, 0, 0, 0};
        for (int what = 0; what < counts.length; what++) {
            due(1, "count(" + what + ")", x.count(what), counts[what]);
        }
        int[][] people = {{0, 5, 12, 8}, {1, 3, 30, 5}, {2, 4, 25, 6}, {3, 5, 14, 2}, {3, 5, 13, 3}, {0, 1, 60, 9}};
        for (int p = 0; p < people.length; p++) {
            for (int what = 0; what < 4; what++) {
                due(1, "person(" + p + ", " + what + ")", x.person(p, what), people[p][what]);
            }
            due(1, "person(" + p + ", 7)", x.person(p, 7), 1);
        }
        int[][] works = {{5, 2, 1}, {4, 1, 1}, {3, 1, 1}, {1, 1, 1}, {0, 1, 0}};
        for (int w = 0; w < works.length; w++) {
            for (int what = 0; what < 3; what++) {
                due(1, "work(" + w + ", " + what + ")", x.work(w, what), works[w][what]);
            }
        }
        due(1, "fault()", x.fault(), NONE);
        due(1, "lay()", x.lay(), NO);
        TowerService other = new TowerService();
        x.promote(0);
        due(1, "another object's person(0, 1)", other.person(0, 1), 5);
    }

    private static void write() {
        TowerService x = new TowerService();
        for (int letter : new int[] {31, 127, 0, -1, 128, 32 + 65536, LOW, HIGH}) {
            due(2, "write(" + letter + ")", x.write(letter), BAD);
        }
        due(2, "count(10) behind BAD", x.count(10), 0);
        due(2, "write(32)", x.write(32), 1);
        due(2, "write(126)", x.write(126), 2);
        for (int i = 3; i <= 200; i++) {
            due(2, "write no. " + i, x.write('p'), i);
        }
        due(2, "write no. 201", x.write('p'), FULL);
        due(2, "write(127), full", x.write(127), BAD);
        due(2, "count(10), full", x.count(10), 200);
        due(2, "wipe(), full", x.wipe(), 200);
        due(2, "write behind wipe", x.write('p'), 1);
    }

    private static void wipe() {
        TowerService x = written("p0,1");
        due(3, "wipe()", x.wipe(), 4);
        due(3, "wipe() again", x.wipe(), 0);
        due(3, "count(10)", x.count(10), 0);
        due(3, "fault() behind wipe", x.fault(), NONE);
        due(3, "what was laid stays", x.count(1), 6);
    }

    private static void faultOfLetters() {
        due(4, "empty", faultOf(""), NONE);
        due(4, "h alone", faultOf("h6;"), NONE);
        due(4, "all kinds of items", faultOf("h10;p3,9,60,30;w9,4;p0,0,12,0;w0,1;"), NONE);
        due(4, "a zero ahead", faultOf("h06;p00,05,12,08;w05,02;"), NONE);
        due(4, "three figures", faultOf("h006;"), 0);
        due(4, "three figures later", faultOf("p0,0,012,0;"), 0);
        due(4, "no figure", faultOf("h;"), 0);
        due(4, "no figure between", faultOf("p0,,12,0;"), 0);
        due(4, "no end", faultOf("p0,0,12,0"), 0);
        due(4, "only a letter", faultOf("p"), 0);
        due(4, "no end of the second", faultOf("p0,0,12,0;w0,1"), 10);
        due(4, "too few numbers", faultOf("p0,0,12;"), 0);
        due(4, "too many numbers", faultOf("w0,1,1;"), 0);
        due(4, "h with two numbers", faultOf("h6,6;"), 0);
        due(4, "another letter", faultOf("x1;"), 0);
        due(4, "a capital", faultOf("P0,0,12,0;"), 0);
        due(4, "a space ahead", faultOf(" h6;"), 0);
        due(4, "a space within", faultOf("h6;w0, 1;"), 3);
        due(4, "a space behind", faultOf("h6; "), 3);
        due(4, "; twice", faultOf("h6;;"), 3);
        due(4, "; for ,", faultOf("w0;1;"), 0);
        due(4, "a sign", faultOf("w-1,1;"), 0);
        due(4, "the first of two", faultOf("w0,1;w0,9;x"), 5);
    }

    private static void faultOfNumbers() {
        due(4, "h1", faultOf("h1;"), 0);
        due(4, "h2", faultOf("h2;"), NONE);
        due(4, "h10", faultOf("h10;"), NONE);
        due(4, "h11", faultOf("h11;"), 0);
        due(4, "h twice", faultOf("h6;h6;"), 3);
        due(4, "h behind p", faultOf("p0,0,12,0;h6;"), 10);
        due(4, "h behind w", faultOf("w0,1;h6;"), 5);
        due(4, "kind 4", faultOf("p4,0,12,0;"), 0);
        due(4, "step 6 of 6", faultOf("p0,6,12,0;"), 0);
        due(4, "step 2 of 2", faultOf("h2;p0,2,12,0;"), 3);
        due(4, "step 9 of 10", faultOf("h10;p0,9,12,0;"), NONE);
        due(4, "age 11", faultOf("p0,0,11,0;"), 0);
        due(4, "age 60", faultOf("p0,0,60,0;"), NONE);
        due(4, "age 61", faultOf("p0,0,61,0;"), 0);
        due(4, "nerve 31", faultOf("p0,0,12,31;"), 0);
        due(4, "work on step 6 of 6", faultOf("w6,1;"), 0);
        due(4, "work on step 2 of 2", faultOf("h2;w1,1;w2,1;"), 8);
        due(4, "need 0", faultOf("w0,0;"), 0);
        due(4, "need 5", faultOf("w0,5;"), 0);
        String person = "p0,0,12,0;";
        due(4, "six persons", faultOf(person.repeat(6)), NONE);
        due(4, "seven persons", faultOf(person.repeat(7)), 60);
        due(4, "five works", faultOf("w0,1;".repeat(5)), NONE);
        due(4, "six works", faultOf("w0,1;".repeat(6)), 25);
        TowerService x = written("p9");
        due(4, "fault() twice", x.fault() * 10 + x.fault(), 0);
        due(4, "a fault changes nothing laid", x.person(0, 2), 12);
        TowerService y = written("p0,0,12,05;");
        y.wipe();
        for (char letter : "p0,0,12,0".toCharArray()) {
            y.write(letter);
        }
        due(4, "letters that were wiped are not read", y.fault(), 0);
        y.write('5');
        due(4, "nor the last of them", y.fault(), 0);
        y.write(';');
        due(4, "but the one written anew", y.fault(), NONE);
    }

    private static void lay() {
        TowerService x = written("h3;w2,1;");
        due(5, "lay() of no person", x.lay(), NO);
        due(5, "count(0) behind NO", x.count(0), 6);
        due(5, "count(2) behind NO", x.count(2), 5);
        x.wipe();
        due(5, "lay() of an empty text", x.lay(), NO);
        x.promote(0);
        x.pass(3);
        x.keep();
        x.seen(0, 0, 1);
        for (char letter : "h4;p0,3,12,5;p1,2,20,6;w3,1;".toCharArray()) {
            x.write(letter);
        }
        due(5, "lay()", x.lay(), 2);
        int[] counts = {4, 2, 1, 0, 0, 0, 1, 0, 0, 0, 28};
        for (int what = 0; what < counts.length; what++) {
            due(5, "count(" + what + ")", x.count(what), counts[what]);
        }
        due(5, "undo()", x.undo(), NO);
        due(5, "back()", x.back(), NO);
        due(5, "person(2, 0)", x.person(2, 0), BAD);
        due(5, "person(0, 2)", x.person(0, 2), 12);
        x.call(0);
        x.pass(1);
        x.promote(1);
        due(5, "lay() again", x.lay(), 2);
        due(5, "year", x.count(3), 0);
        due(5, "called to", x.person(0, 7), 1);
        due(5, "step", x.person(1, 1), 2);
        x.write('x');
        x.pass(1);
        due(5, "lay() with a fault", x.lay(), NO);
        due(5, "all stays behind NO", x.count(3) * 10 + x.count(8), 11);
        x.wipe();
        for (char letter : "p0,5,12,5;".toCharArray()) {
            x.write(letter);
        }
        due(5, "without h", x.lay(), 1);
        due(5, "6 steps again", x.count(0), 6);
        due(5, "no work any more", x.count(2), 0);
        TowerService fallen = laid("p0,0,12,0;w0,1;");
        fallen.pass(1);
        due(5, "gone", fallen.count(4), 1);
        due(5, "lay() of the gone", fallen.lay(), 1);
        due(5, "nobody gone", fallen.count(4), 0);
        due(5, "frozen", fallen.person(0, 5), 1);
    }

    private static void person() {
        // A porch of 2 steps: fear is 2 below; the shaky one of 60 has 8 more.
        TowerService x = laid("h2;p2,0,60,2;p3,0,12,0;p1,1,30,0;w0,1;");
        int[][] want = {{2, 0, 60, 2, 10, 1, 0, 1}, {3, 0, 12, 0, 0, 0, 0, 1}, {1, 1, 30, 0, 0, 0, 0, 1}};
        for (int p = 0; p < 3; p++) {
            for (int what = 0; what < 8; what++) {
                due(6, "person(" + p + ", " + what + ")", x.person(p, what), want[p][what]);
            }
        }
        for (int p : new int[] {-1, 3, 6, LOW, HIGH}) {
            due(6, "person(" + p + ", 0)", x.person(p, 0), BAD);
        }
        for (int what : new int[] {-1, 8, LOW, HIGH}) {
            due(6, "person(0, " + what + ")", x.person(0, what), BAD);
        }
        x.pass(1);
        // Frozen by 8: it falls, keeps its nerve and grows older; the singer is alone now.
        int[] gone = {2, 0, 61, 2, 10, 0, 1, 0};
        int[] alone = {3, 0, 13, 1, 2, 1, 0, 1};
        for (int what = 0; what < 8; what++) {
            due(6, "gone person(0, " + what + ")", x.person(0, what), gone[what]);
            due(6, "alone person(1, " + what + ")", x.person(1, what), alone[what]);
        }
        x.call(1);
        due(6, "called person(1, 7)", x.person(1, 7), 0);
    }

    private static void fear() {
        TowerService x = laid("h10;p0,9,12,0;p1,9,12,0;p2,9,24,0;p2,9,25,0;p2,9,12,0;p3,9,60,30;");
        due(7, "plain on the porch", x.fear(0, 0), 18);
        due(7, "plain on the ball", x.fear(0, 9), 0);
        due(7, "bold on the porch", x.fear(1, 0), 9);
        due(7, "shaky of 24", x.fear(2, 0), 18);
        due(7, "shaky of 25", x.fear(3, 0), 19);
        due(7, "shaky of 25 on the ball", x.fear(3, 9), 1);
        due(7, "shaky of 12", x.fear(4, 4), 10);
        due(7, "singing alone", x.fear(5, 0), 18);
        due(7, "singing among five", x.fear(5, 9), 0);
        TowerService y = new TowerService();
        due(7, "two others on step 5", y.fear(3, 5), 0);
        due(7, "one other on step 3", y.fear(3, 3), 2);
        due(7, "one other on step 1", y.fear(4, 1), 6);
        due(7, "nobody on step 0", y.fear(4, 0), 10);
        due(7, "itself does not count", laid("h5;p3,0,12,0;").fear(0, 0), 8);
        TowerService z = laid("h9;p3,4,12,30;p0,0,12,0;p1,0,12,30;");
        due(7, "two on the porch", z.fear(0, 0), 12);
        z.pass(1);
        due(7, "one of them gone", z.fear(0, 0), 14);
        due(7, "of a gone one", z.fear(1, 4), 8);
        TowerService old = laid("h2;p2,1,60,30;");
        old.pass(40);
        due(7, "shaky of 99", old.fear(0, 1), 15);
        for (int s : new int[] {-1, 6, LOW, HIGH}) {
            due(7, "fear(0, " + s + ")", y.fear(0, s), BAD);
            due(7, "fear(" + s + ", 0)", y.fear(s, 0), BAD);
        }
        due(7, "a step that this tower has not", old.fear(0, 2), BAD);
    }

    private static void work() {
        TowerService x = laid("h4;p0,3,12,0;p0,3,12,0;p0,2,12,1;p0,2,12,2;w3,2;w3,3;w2,1;w2,2;w1,1;");
        int[][] want = {{3, 2, 1}, {3, 3, 0}, {2, 1, 1}, {2, 2, 0}, {1, 1, 0}};
        for (int w = 0; w < 5; w++) {
            for (int what = 0; what < 3; what++) {
                due(8, "work(" + w + ", " + what + ")", x.work(w, what), want[w][what]);
            }
        }
        for (int n : new int[] {-1, 5, LOW, HIGH}) {
            due(8, "work(" + n + ", 0)", x.work(n, 0), BAD);
        }
        for (int n : new int[] {-1, 3, LOW, HIGH}) {
            due(8, "work(0, " + n + ")", x.work(0, n), BAD);
        }
        due(8, "no work", laid("p0,0,12,0;").work(0, 0), BAD);
        TowerService gone = laid("h5;p0,0,12,0;p3,0,12,30;w0,1;w0,2;");
        due(8, "one frozen, one not", gone.work(0, 2) * 10 + gone.work(1, 2), 10);
        gone.pass(1);
        due(8, "one gone, one not", gone.work(0, 2) * 10 + gone.work(1, 2), 10);
    }

    private static void pass() {
        TowerService x = laid("h10;p0,0,12,10;p0,0,12,11;p0,1,12,16;p0,1,60,30;p0,1,12,15;");
        due(9, "pass(1)", x.pass(1), 1);
        due(9, "frozen by 8 falls", x.person(0, 6), 1);
        due(9, "its nerve stays", x.person(0, 3), 10);
        due(9, "frozen by 7 does not", x.person(1, 6), 0);
        due(9, "it has 1 less", x.person(1, 3), 10);
        due(9, "not frozen has 1 more", x.person(2, 3), 17);
        due(9, "30 at most", x.person(3, 3), 30);
        due(9, "frozen by 1", x.person(4, 3), 14);
        due(9, "a year older", x.person(3, 2), 61);
        due(9, "pass(1)", x.pass(1), 2);
        due(9, "now it falls", x.person(1, 6), 1);
        due(9, "pass(40)", x.pass(40), 42);
        due(9, "99 at most", x.person(3, 2), 99);
        due(9, "the gone grow older", x.person(0, 2), 54);
        TowerService bold = laid("h8;p1,0,12,2;");
        bold.pass(2);
        due(9, "0 at least", bold.person(0, 3), 0);
        due(9, "frozen by 7", bold.person(0, 4), 7);
        bold.pass(1);
        due(9, "still 0", bold.person(0, 3), 0);
        due(9, "still there", bold.person(0, 6), 0);
        // Two fall at once; a singer among them is judged as it was with them.
        TowerService once = laid("h6;p0,0,12,0;p3,0,12,6;p0,0,12,2;");
        once.pass(1);
        due(9, "fallen", once.count(4), 2);
        due(9, "the singer was not frozen", once.person(1, 3), 7);
        once.pass(1);
        due(9, "the singer is frozen now", once.person(1, 3), 6);
        TowerService calls = new TowerService();
        calls.call(0);
        calls.pass(1);
        due(9, "can be called to again", calls.person(0, 7), 1);
        for (int n : new int[] {0, 41, -1, LOW, HIGH}) {
            due(9, "pass(" + n + ")", calls.pass(n), BAD);
        }
        due(9, "nothing changed", calls.count(3), 1);
        for (int i = 0; i < 24; i++) {
            calls.pass(40);
        }
        due(9, "the year", calls.count(3), 961);
        due(9, "pass(39)", calls.pass(39), NO);
        due(9, "pass(41) is BAD first", calls.pass(41), BAD);
        due(9, "pass(38)", calls.pass(38), 999);
        due(9, "pass(1) above 999", calls.pass(1), NO);
        due(9, "the year stays", calls.count(3), 999);
    }

    private static void promote() {
        TowerService x = laid("h5;p0,4,12,4;p0,0,12,30;p0,0,12,0;");
        due(10, "promote(0)", x.promote(0), 3);
        due(10, "promote(0)", x.promote(0), 2);
        due(10, "into frozen", x.promote(0), 1);
        due(10, "frozen", x.promote(0), NO);
        due(10, "on 0", x.promote(1), NO);
        due(10, "step stays", x.person(1, 1), 0);
        due(10, "NO is not undone", x.count(8), 3);
        x.pass(1);
        due(10, "gone", x.promote(2), NO);
        for (int p : new int[] {-1, 3, LOW, HIGH}) {
            due(10, "promote(" + p + ")", x.promote(p), BAD);
        }
        due(10, "no year goes by", x.count(3), 1);
        TowerService y = laid("h2;p0,1,12,2;");
        due(10, "from 1 to the porch", y.promote(0), 0);
        due(10, "and no lower", y.promote(0), NO);
    }

    private static void hoist() {
        TowerService x = laid("h5;p0,3,12,0;p0,0,12,1;p0,0,12,0;");
        due(11, "frozen is hoisted", x.hoist(1), 1);
        due(11, "hoist(0)", x.hoist(0), 4);
        due(11, "on the ball", x.hoist(0), NO);
        due(11, "NO is not undone", x.count(8), 2);
        x.pass(1);
        due(11, "gone", x.hoist(2), NO);
        due(11, "fallen from below", x.person(2, 1), 0);
        for (int p : new int[] {-1, 3, LOW, HIGH}) {
            due(11, "hoist(" + p + ")", x.hoist(p), BAD);
        }
    }

    private static void call() {
        // Above 0: two steady on 5, a frozen one on 2, a steady one on 1; one beside it.
        TowerService x = laid("p0,0,12,5;p0,5,12,0;p0,5,12,0;p0,2,12,0;p1,1,12,4;p1,0,12,30;");
        due(12, "call(0)", x.call(0), 8);
        due(12, "call(0) again", x.call(0), NO);
        due(12, "nerve stays", x.person(0, 3), 8);
        due(12, "30 at most", x.call(5), 30);
        due(12, "of nobody", x.call(1), 0);
        due(12, "of nobody is called too", x.call(1), NO);
        due(12, "a frozen one is called to", x.call(3), 2);
        due(12, "can be undone", x.count(8), 4);
        x.pass(1);
        due(12, "in the next year", x.call(1), 1);
        for (int p : new int[] {-1, 6, LOW, HIGH}) {
            due(12, "call(" + p + ")", x.call(p), BAD);
        }
        TowerService y = laid("h6;p0,0,12,0;p1,0,12,30;p0,1,12,0;");
        y.pass(1);
        due(12, "gone", y.call(0), NO);
        due(12, "the gone do not call", y.call(1), 30);
        TowerService z = laid("h9;p1,0,12,8;p0,1,12,0;p0,8,12,0;");
        z.pass(1);
        due(12, "one gone above, one steady", z.call(0), 10);
        due(12, "the first person calls too", laid("p0,5,12,0;p1,0,12,9;").call(1), 10);
    }

    private static void undo() {
        TowerService x = new TowerService();
        due(13, "undo() of nothing", x.undo(), NO);
        x.promote(0);
        x.hoist(1);
        x.call(2);
        x.pass(40);
        due(13, "count(8)", x.count(8), 4);
        due(13, "years", x.undo(), 3);
        due(13, "the year", x.count(3), 0);
        due(13, "how old", x.person(2, 2), 25);
        due(13, "called again", x.person(2, 7), 0);
        due(13, "the call", x.undo(), 2);
        due(13, "nerve", x.person(2, 3), 6);
        due(13, "not called", x.person(2, 7), 1);
        due(13, "the hoisting", x.undo(), 1);
        due(13, "step", x.person(1, 1), 3);
        due(13, "the promotion", x.undo(), 0);
        due(13, "step", x.person(0, 1), 5);
        due(13, "undo() of no more", x.undo(), NO);
        for (int i = 0; i < 11; i++) {
            x.pass(1);
        }
        due(13, "8 at most", x.count(8), 8);
        for (int left = 7; left >= 0; left--) {
            due(13, "undo()", x.undo(), left);
        }
        due(13, "the ninth", x.undo(), NO);
        due(13, "the year", x.count(3), 3);
        x.pass(2);
        due(13, "undo() behind a gap", x.undo(), 0);
        due(13, "the year", x.count(3), 3);
        TowerService y = laid("p0,0,12,0;");
        y.pass(1);
        due(13, "gone", y.person(0, 6), 1);
        y.seen(0, 0, 1);
        y.undo();
        due(13, "gone no more", y.person(0, 6), 0);
        due(13, "what is seen stays", y.count(7), 1);
    }

    private static void behind() {
        TowerService x = laid("h10;p0,1,12,10;p0,0,12,30;p1,0,12,8;");
        due(14, "behind(0, 0, 1)", x.behind(0, 0, 1), 10);
        due(14, "behind(0, 0, 0)", x.behind(0, 0, 0), 0);
        due(14, "behind(1, 0, 1)", x.behind(1, 0, 1), 9);
        due(14, "behind(2, 0, 1)", x.behind(2, 0, 1), 8);
        due(14, "behind(2, 0, 0)", x.behind(2, 0, 0), 0);
        due(14, "behind(3, 0, 0)", x.behind(3, 0, 0), 1);
        due(14, "behind(40, 0, 1)", x.behind(40, 0, 1), 8);
        due(14, "behind(40, 1, 1)", x.behind(40, 1, 1), 30);
        due(14, "frozen by 8 at last", x.behind(7, 2, 0) * 10 + x.behind(8, 2, 0), 1);
        due(14, "nothing changes", x.person(0, 3) * 100 + x.count(3) * 10 + x.count(8), 1000);
        for (int n : new int[] {-1, 41, LOW, HIGH}) {
            due(14, "behind(" + n + ", 0, 0)", x.behind(n, 0, 0), BAD);
        }
        due(14, "behind(1, -1, 0)", x.behind(1, -1, 0), BAD);
        due(14, "behind(1, 3, 0)", x.behind(1, 3, 0), BAD);
        due(14, "behind(1, 0, -1)", x.behind(1, 0, -1), BAD);
        due(14, "behind(1, 0, 2)", x.behind(1, 0, 2), BAD);
        for (int i = 0; i < 24; i++) {
            x.pass(40);
        }
        x.pass(39);
        due(14, "beyond the last year", x.behind(40, 1, 1), 30);
    }

    private static void lowest() {
        TowerService x = laid("h6;p0,5,12,7;p0,0,12,30;p0,0,12,0;p3,5,12,0;p0,3,12,4;p3,4,12,0;");
        due(15, "lowest(0)", x.lowest(0), 2);
        due(15, "on 0 already", x.lowest(1), 0);
        due(15, "frozen", x.lowest(2), NO);
        // The singer is carried over 4 by one there, but 3 has 4 of fear and only one other.
        due(15, "lowest(3)", x.lowest(3), 4);
        due(15, "it stays where it is", x.lowest(4), 3);
        due(15, "nothing changes", x.person(0, 1), 5);
        x.pass(1);
        due(15, "gone", x.lowest(2), NO);
        for (int p : new int[] {-1, 6, LOW, HIGH}) {
            due(15, "lowest(" + p + ")", x.lowest(p), BAD);
        }
        // On 1 there are three others, but on 2 nobody: it can't come past.
        TowerService y = laid("h5;p3,3,12,2;p0,1,12,30;p0,1,12,30;p0,1,12,30;");
        due(15, "step by step", y.lowest(0), 3);
        due(15, "though not frozen below", y.fear(0, 1), 0);
        due(15, "down to the porch", y.lowest(1), 0);
        due(15, "all the way", laid("h10;p0,9,12,18;").lowest(0), 0);
        due(15, "all the way but one", laid("h10;p0,9,12,17;").lowest(0), 1);
    }

    private static void posting() {
        TowerService x = laid("h4;p0,3,12,30;p0,3,12,2;w0,1;w2,1;w3,1;");
        due(16, "how many", x.posting(-1), 2);
        due(16, "posting(0)", x.posting(0), 0);
        due(16, "posting(1)", x.posting(1), 2);
        due(16, "nothing changes", x.person(0, 1), 3);
        for (int p : new int[] {-2, 2, LOW, HIGH}) {
            due(16, "posting(" + p + ")", x.posting(p), BAD);
        }
        TowerService none = laid("h4;p0,0,12,2;p0,3,12,30;w0,1;w1,1;");
        due(16, "no way", none.posting(-1), NONE);
        due(16, "no way for one", none.posting(1), NONE);
        due(16, "BAD ahead of NONE", none.posting(2), BAD);
        TowerService idle = laid("h4;p0,2,12,30;");
        due(16, "no work", idle.posting(-1), 0);
        due(16, "it stays", idle.posting(0), 2);
        TowerService frozen = laid("h4;p0,2,12,0;");
        due(16, "no work, frozen", frozen.posting(-1), NONE);
        // The two singers bear the porch only together.
        TowerService song = laid("h3;p3,2,12,2;p3,2,12,2;w0,1;w0,2;w2,1;");
        due(16, "together", song.posting(-1) * 100 + song.posting(0) * 10 + song.posting(1), 200);
        TowerService home = laid("h4;p0,1,12,30;p0,2,12,30;w3,1;");
        due(16, "one stays where it is", home.posting(0) * 10 + home.posting(1), 13);
        TowerService gone = laid("h6;p0,0,12,0;p0,5,12,0;w5,1;w0,1;");
        gone.pass(1);
        due(16, "the gone are not put", gone.posting(0), NONE);
        due(16, "how many with one gone", gone.posting(-1), 1);
        due(16, "where the other goes", gone.posting(1), 5);
        TowerService all = laid("h6;p0,0,12,0;w0,1;w0,1;");
        all.pass(1);
        due(16, "all gone", all.posting(-1), 0);
        due(16, "all gone, whom", all.posting(0), NONE);
        TowerService same = laid("h3;p0,2,12,30;p0,2,12,30;w0,2;w0,2;w0,1;w1,1;w2,1;");
        due(16, "works alike on a step", same.posting(-1) * 100 + same.posting(0) * 10 + same.posting(1), 300);
        TowerService hard = laid("h3;p0,2,12,30;p0,2,12,30;p0,2,12,30;p0,2,12,30;w2,4;w1,2;w0,2;");
        due(16, "two of two are more than one of four", hard.posting(-1), 2);
        due(16, "the first of them", hard.posting(0) * 1000 + hard.posting(1) * 100 + hard.posting(2) * 10
            + hard.posting(3), 11);
        TowerService hidden = laid("h6;p0,5,12,30;p0,0,12,0;p0,5,12,30;w0,2;w5,1;");
        hidden.pass(1);
        due(16, "the one between is gone", hidden.posting(-1) * 100 + hidden.posting(0) * 10 + hidden.posting(2), 100);
    }

    private static void timetable() {
        TowerService x = laid("h4;p0,3,12,1;p0,3,12,9;p0,3,12,9;w1,1;w2,1;w3,1;");
        due(17, "one year", x.timetable(1, -1), 2);
        // 0 has nerve 1, and 2 of fear on 2: it would be frozen there, so 1 goes.
        due(17, "whom", x.timetable(1, 0), 1);
        due(17, "two years", x.timetable(2, -1), 2);
        due(17, "nobody first", x.timetable(2, 0), NONE);
        due(17, "then 0: it has 2 by then", x.timetable(2, 1), 0);
        due(17, "three years", x.timetable(3, -1), 3);
        due(17, "1, then 0 (steady on 2 only by then), then 1", x.timetable(3, 0), 1);
        due(17, "second", x.timetable(3, 1), 0);
        due(17, "third", x.timetable(3, 2), 1);
        due(17, "there are not so many", x.timetable(3, 3), NONE);
        due(17, "four years", x.timetable(4, -1), 3);
        due(17, "nobody at first", x.timetable(4, 0), NONE);
        due(17, "nothing changes", x.person(1, 1) * 10 + x.count(3), 30);
        for (int n : new int[] {0, 5, -1, LOW, HIGH}) {
            due(17, "timetable(" + n + ", 0)", x.timetable(n, 0), BAD);
        }
        for (int k : new int[] {-2, 4, LOW, HIGH}) {
            due(17, "timetable(1, " + k + ")", x.timetable(1, k), BAD);
        }
        TowerService low = laid("h2;p0,0,12,30;w1,1;");
        due(17, "nobody can be", low.timetable(4, -1), 0);
        due(17, "nobody", low.timetable(4, 3), NONE);
        due(17, "no work", laid("p0,5,12,30;").timetable(2, -1), 0);
    }

    private static void swap() {
        TowerService x = laid("h4;p0,0,12,0;p0,3,12,30;p0,3,12,30;w0,1;w3,2;");
        due(18, "which", x.swap(0), 1);
        due(18, "how many", x.swap(1), 2);
        due(18, "nothing changes", x.person(0, 1), 0);
        for (int what : new int[] {-1, 2, LOW, HIGH}) {
            due(18, "swap(" + what + ")", x.swap(what), BAD);
        }
        TowerService y = laid("h4;p0,3,12,30;p0,3,12,30;p0,2,12,30;p0,1,12,0;w1,1;");
        due(18, "the best of several", y.swap(0), 3);
        due(18, "how many", y.swap(1), 1);
        TowerService worse = laid("h4;p0,3,12,0;p1,0,12,30;w0,1;w3,1;");
        due(18, "one must be told, though it is worse", worse.swap(1), 1);
        due(18, "which", worse.swap(0), 1);
        TowerService alike = laid("p0,5,12,0;p0,5,12,0;");
        due(18, "on one step", alike.swap(0), NONE);
        due(18, "on one step, how many", alike.swap(1), NONE);
        due(18, "BAD ahead of NONE", alike.swap(2), BAD);
        TowerService idle = laid("h3;p0,2,12,0;p0,1,12,0;");
        due(18, "none is done, but there are two", idle.swap(0), 1);
        due(18, "none is done", idle.swap(1), 0);
        TowerService gone = laid("p0,0,12,0;p0,5,12,30;p0,4,12,30;w4,1;");
        gone.pass(1);
        due(18, "not the gone", gone.swap(0), 12);
        TowerService last = laid("h3;p0,2,12,30;p0,2,12,30;p0,2,12,30;p0,2,12,30;p0,2,12,0;p0,1,12,30;w2,4;w1,1;");
        due(18, "the last ones of all", last.swap(0), 5);
        TowerService two = laid("h3;p0,2,12,30;p3,2,12,0;p0,1,12,2;p0,2,12,2;w2,3;w1,1;");
        due(18, "a singer carried", two.swap(0) * 10 + two.swap(1), 22);
    }

    private static void can() {
        TowerService x = laid("h10;p0,9,12,30;p0,9,12,30;p0,7,12,30;p0,5,12,30;p0,3,12,30;p0,0,12,30;");
        due(19, "from 9 to 3", x.can(9, 3, 0), 4);
        due(19, "the first one", x.can(9, 3, 1), 0);
        due(19, "from 3 to 9", x.can(3, 9, 0), 4);
        due(19, "the first one", x.can(3, 9, 1), 4);
        due(19, "from 9 to 9", x.can(9, 9, 0), 1);
        due(19, "from 9 to 9, first", x.can(9, 9, 1), 0);
        due(19, "3 steps are too far", x.can(3, 0, 0), NONE);
        due(19, "nobody at the first", x.can(8, 7, 0), NONE);
        due(19, "nobody at the last", x.can(9, 8, 0), NONE);
        due(19, "nobody at the last, first", x.can(9, 8, 1), NONE);
        for (int s : new int[] {-1, 10, LOW, HIGH}) {
            due(19, "can(" + s + ", 0, 0)", x.can(s, 0, 0), BAD);
            due(19, "can(0, " + s + ", 0)", x.can(0, s, 0), BAD);
        }
        for (int what : new int[] {-1, 2, LOW, HIGH}) {
            due(19, "can(0, 0, " + what + ")", x.can(0, 0, what), BAD);
        }
        due(19, "BAD ahead of NONE", x.can(8, 7, 2), BAD);
        TowerService y = laid("h6;p0,5,12,0;p0,3,12,3;p0,3,12,4;p1,4,12,1;p0,1,12,30;p0,5,12,0;");
        due(19, "past a frozen one", y.can(5, 1, 0), 3);
        due(19, "a frozen one is not the first", y.can(3, 5, 1), 2);
        TowerService gone = laid("h6;p0,5,12,0;p1,3,12,2;p0,0,12,0;p1,1,12,4;");
        due(19, "there and not gone", gone.can(5, 1, 0), 3);
        gone.pass(1);
        due(19, "the gone pass nothing", gone.can(0, 0, 0), NONE);
        due(19, "two on the way", laid("h4;p0,3,12,30;p0,2,12,30;p0,1,12,30;").can(3, 1, 0), 2);
        due(19, "by way of the first person", laid("h6;p0,3,12,30;p0,5,12,30;p0,1,12,30;").can(5, 1, 0), 3);
        due(19, "to the first person", laid("h6;p0,3,12,30;p0,5,12,30;").can(5, 3, 0), 2);
    }

    private static void seen() {
        TowerService x = laid("h4;p0,3,12,3;p0,2,12,3;");
        int[][] bad = {{-1, 0, 0}, {2, 0, 0}, {0, -1, 0}, {0, 4, 0}, {0, 0, -1}, {0, 0, 2}, {LOW, 0, 0}, {0, HIGH, 0}};
        for (int[] b : bad) {
            due(20, "seen(" + b[0] + ", " + b[1] + ", " + b[2] + ")", x.seen(b[0], b[1], b[2]), BAD);
        }
        for (int i = 1; i <= 6; i++) {
            due(20, "seen no. " + i, x.seen(0, 3, 0), i);
        }
        due(20, "seen no. 7", x.seen(0, 3, 0), FULL);
        due(20, "BAD ahead of FULL", x.seen(0, 4, 0), BAD);
        due(20, "count(7)", x.count(7), 6);
        due(20, "cannot be undone", x.count(8), 0);
    }

    private static void forget() {
        TowerService x = new TowerService();
        due(21, "forget() of nothing", x.forget(), 0);
        x.seen(0, 0, 0);
        x.seen(1, 0, 1);
        due(21, "forget()", x.forget(), 2);
        due(21, "count(7)", x.count(7), 0);
        due(21, "nerves again", x.nerves(0, 0), 31);
        due(21, "seen again", x.seen(0, 0, 0), 1);
    }

    private static void nerves() {
        TowerService x = laid("h6;p0,5,12,8;p3,5,12,2;p0,2,12,30;");
        due(22, "nothing seen", x.nerves(0, 0), 31);
        due(22, "the least of all", x.nerves(0, 1), 0);
        x.seen(0, 0, 1);
        due(22, "frozen on 0: 0 to 9", x.nerves(0, 0), 10);
        x.seen(0, 2, 0);
        due(22, "not on 2: 6 to 9", x.nerves(0, 0), 4);
        due(22, "the least", x.nerves(0, 1), 6);
        due(22, "of another nothing is seen", x.nerves(1, 0), 31);
        x.seen(0, 1, 1);
        x.seen(0, 1, 0);
        due(22, "against itself", x.nerves(0, 0), 0);
        due(22, "none", x.nerves(0, 1), NONE);
        x.seen(1, 2, 1);
        due(22, "a singer beside one: 0 to 3", x.nerves(1, 0), 4);
        x.promote(2);
        due(22, "by how it stands now: 0 to 5", x.nerves(1, 0), 6);
        due(22, "its own nerve does not matter", x.person(0, 3), 8);
        for (int n : new int[] {-1, 3, LOW, HIGH}) {
            due(22, "nerves(" + n + ", 0)", x.nerves(n, 0), BAD);
        }
        for (int n : new int[] {-1, 2, LOW, HIGH}) {
            due(22, "nerves(0, " + n + ")", x.nerves(0, n), BAD);
        }
        TowerService old = laid("h10;p2,0,60,0;");
        old.pass(1);
        old.seen(0, 0, 0);
        due(22, "26 to 30", old.nerves(0, 0), 5);
        due(22, "26", old.nerves(0, 1), 26);
        for (int i = 0; i < 20; i++) {
            old.pass(1);
        }
        due(22, "30 at 80", old.nerves(0, 1), 30);
        old.pass(5);
        due(22, "none at 85", old.nerves(0, 1), NONE);
    }

    private static void kinds() {
        // On 2 of 6: plain 6, bold 3, shaky of 40 10, singing beside one 4.
        TowerService x = laid("h6;p0,5,40,3;p0,2,12,30;");
        due(23, "nothing seen", x.kinds(0), 15);
        x.seen(0, 2, 0);
        due(23, "not frozen on 2", x.kinds(0), 2);
        x.forget();
        x.seen(0, 2, 1);
        due(23, "frozen on 2", x.kinds(0), 13);
        x.seen(0, 4, 0);
        due(23, "not frozen on 4", x.kinds(0), 9);
        due(23, "of another", x.kinds(1), 15);
        x.hoist(1);
        x.hoist(1);
        x.promote(0);
        x.forget();
        x.seen(0, 3, 1);
        due(23, "plain, shaky, singing on 3", x.kinds(0), 13);
        x.promote(1);
        due(23, "a song on 3", x.kinds(0), 5);
        x.seen(0, 3, 0);
        due(23, "none", x.kinds(0), 0);
        for (int n : new int[] {-1, 2, LOW, HIGH}) {
            due(23, "kinds(" + n + ")", x.kinds(n), BAD);
        }
    }

    private static void likely() {
        // A singer is steady only beside a frozen one: with it falls the second work.
        TowerService x = laid("h3;p3,1,12,0;p0,1,12,0;p0,2,12,0;w1,1;w2,1;");
        due(24, "two, above", x.likely(2, 3, 0), 7);
        due(24, "two, below", x.likely(2, 3, 1), 10);
        due(24, "in lowest terms, above", x.likely(2, 4, 0), 3);
        due(24, "in lowest terms, below", x.likely(2, 4, 1), 5);
        due(24, "one is sure", x.likely(1, 3, 0) * 10 + x.likely(1, 3, 1), 11);
        due(24, "three are not to be had", x.likely(3, 3, 0) * 10 + x.likely(3, 3, 1), 1);
        due(24, "none falls", x.likely(2, 0, 0) * 10 + x.likely(2, 0, 1), 11);
        due(24, "all fall", x.likely(2, 10, 0) * 10 + x.likely(2, 10, 1), 1);
        due(24, "0 or more", x.likely(0, 10, 0), 1);
        // Of four frozen ones one at least must stay for the singer: 1 less 3/10 to the fourth.
        TowerService four = laid("h3;p3,1,12,0;p0,1,12,0;p0,1,12,0;p1,1,12,0;p2,1,12,0;w1,1;");
        due(24, "four, above", four.likely(1, 3, 0), 9919);
        due(24, "four, below", four.likely(1, 3, 1), 10000);
        TowerService all = laid("h5;p3,0,12,0;p3,0,12,0;p3,0,12,0;p3,0,12,0;p3,0,12,2;p0,0,12,0;w0,1;");
        due(24, "singers frightened by a fall", all.likely(1, 9, 0), 1);
        all = laid("h9;p0,0,12,0;p0,0,12,0;p0,0,12,0;p0,0,12,0;p0,0,12,0;p3,0,12,6;w0,1;");
        due(24, "five must stay, above", all.likely(1, 3, 0), 16807);
        due(24, "five must stay, below", all.likely(1, 3, 1), 100000);
        due(24, "nothing changes", all.count(5) * 10 + all.count(4), 50);
        int[][] bad = {{-1, 0, 0}, {6, 0, 0}, {0, -1, 0}, {0, 11, 0}, {0, 0, -1}, {0, 0, 2}, {HIGH, 0, 0}, {0, LOW, 0}};
        for (int[] b : bad) {
            due(24, "likely(" + b[0] + ", " + b[1] + ", " + b[2] + ")", x.likely(b[0], b[1], b[2]), BAD);
        }
        due(24, "m above the works there are", x.likely(5, 5, 0), 0);
        TowerService gone = laid("h6;p0,0,12,0;p0,5,12,0;w5,1;");
        gone.pass(1);
        due(24, "the gone do not fall again", gone.likely(1, 5, 0) * 10 + gone.likely(1, 5, 1), 11);
    }

    private static void decade() {
        // z 0: x is 1, 6152, 12303, ..; DRAW 0, then 6152 * 6152 modulo 65521, by 2: 20799.
        TowerService x = laid("h4;p0,3,12,9;p0,2,12,9;w2,1;w2,2;");
        due(25, "first year: 0 is promoted", x.decade(0, 1, 2), 4);
        due(25, "works", x.decade(0, 1, 1), 2);
        // 20799 modulo 2 is 1, by 8 2599, modulo 6 1: person 1 is promoted.
        due(25, "second year: 1 is promoted", x.decade(0, 2, 2), 3);
        due(25, "works", x.decade(0, 2, 1), 1);
        due(25, "gone", x.decade(0, 2, 0), 0);
        due(25, "nothing changes", x.person(0, 1) * 100 + x.count(3) * 10 + x.count(8), 300);
        TowerService fallen = laid("h9;p0,0,12,0;p0,8,12,0;w8,1;");
        due(25, "one is gone", fallen.decade(5, 60, 0) >= 1 ? 1 : 0, 1);
        TowerService alone = laid("h9;p0,0,12,0;");
        due(25, "all are gone", alone.decade(9999, 60, 0), 1);
        due(25, "steps of nobody", alone.decade(9999, 60, 2), 0);
        due(25, "one alone is promoted", laid("h4;p0,3,12,9;").decade(0, 1, 2), 2);
        int[][] bad = {{-1, 1, 0}, {10000, 1, 0}, {0, 0, 0}, {0, 61, 0}, {0, 1, -1}, {0, 1, 3}, {HIGH, 1, 0}, {0, LOW, 0}};
        for (int[] b : bad) {
            due(25, "decade(" + b[0] + ", " + b[1] + ", " + b[2] + ")", x.decade(b[0], b[1], b[2]), BAD);
        }
        // z 1: x is 7920, DRAW 11363: modulo 2 1, by 8 1420, modulo 6 4: nobody does a thing.
        due(25, "z 1", x.decade(1, 1, 2), 5);
        int hoists = 0;
        int calls = 0;
        for (int z = 0; z < 200; z++) {
            long first = 7919L * z + 1;
            int draw = (int) (first * first % 65521) / 2;
            int act = draw / 8 % 6;
            int p = draw % 2;
            int steps = act < 2 ? 4 : act == 2 && p == 1 ? 6 : 5;
            hoists += act == 2 && p == 1 ? 1 : 0;
            due(25, "decade(" + z + ", 1, 2)", x.decade(z, 1, 2), steps);
            // The frozen one is saved by a call of the one above, a year ahead of its fall.
            TowerService called = laid("h5;p0,0,12,0;p0,4,12,0;");
            boolean saved = p == 0 && (act == 2 || act == 3);
            calls += p == 0 && act == 3 ? 1 : 0;
            due(25, "called, decade(" + z + ", 1, 0)", called.decade(z, 1, 0), saved ? 0 : 1);
        }
        due(25, "hoists and calls were among them", hoists > 0 && calls > 0 ? 1 : 0, 1);
    }

    private static void keep() {
        TowerService x = new TowerService();
        due(26, "keep()", x.keep(), 1);
        due(26, "keep() again", x.keep(), 2);
        due(26, "keep() a third time", x.keep(), FULL);
        due(26, "count(9)", x.count(9), 2);
        due(26, "cannot be undone", x.count(8), 0);
        x.back();
        due(26, "keep() behind back", x.keep(), 2);
    }

    private static void back() {
        TowerService x = new TowerService();
        due(27, "back() to nothing", x.back(), NO);
        x.promote(0);
        x.keep();
        x.call(1);
        x.pass(3);
        x.keep();
        x.promote(0);
        x.hoist(2);
        x.write('p');
        x.seen(0, 0, 1);
        due(27, "back()", x.back(), 1);
        due(27, "step", x.person(0, 1), 4);
        due(27, "step", x.person(2, 1), 4);
        due(27, "the year", x.count(3), 3);
        due(27, "how old", x.person(1, 2), 33);
        due(27, "the text stays", x.count(10), 1);
        due(27, "what is seen stays", x.count(7), 1);
        due(27, "nothing is undone", x.count(8), 0);
        due(27, "undo()", x.undo(), NO);
        x.pass(1);
        due(27, "undo() of what came since", x.undo(), 0);
        due(27, "back() again", x.back(), 0);
        due(27, "the year", x.count(3), 0);
        due(27, "step", x.person(0, 1), 4);
        due(27, "not called yet", x.person(1, 7), 1);
        due(27, "nerve", x.person(1, 3), 5);
        due(27, "no more", x.back(), NO);
        TowerService y = laid("p0,0,12,0;");
        y.keep();
        y.pass(1);
        due(27, "gone", y.count(4), 1);
        y.back();
        due(27, "gone no more", y.count(4), 0);
        y.call(0);
        y.keep();
        y.pass(1);
        y.back();
        due(27, "called, as it was kept", y.person(0, 7), 0);
        y.promote(0);
        due(27, "NO changes nothing", y.back() * 10 + y.count(8), -20);
    }

    private static void count() {
        TowerService x = laid("h9;p0,0,12,0;p0,0,12,15;p0,8,12,0;w8,1;w0,1;w3,1;");
        x.pass(1);
        x.hoist(1);
        x.seen(0, 0, 1);
        x.keep();
        int[] want = {9, 3, 3, 1, 1, 0, 1, 1, 2, 1, 49};
        for (int what = 0; what < want.length; what++) {
            due(28, "count(" + what + ")", x.count(what), want[what]);
        }
        x.undo();
        due(28, "frozen", x.count(5), 1);
        for (int what : new int[] {-1, 11, LOW, HIGH}) {
            due(28, "count(" + what + ")", x.count(what), BAD);
        }
    }

    private static void exampleOfReadme() {
        TowerService x = written("h4;p0,3,12,5;p3,2,14,2;w3,1;w2,1;");
        due(4, "README: fault()", x.fault(), NONE);
        due(5, "README: lay()", x.lay(), 2);
        due(10, "README: promote(0)", x.promote(0), 2);
        due(9, "README: pass(1)", x.pass(1), 1);
        due(28, "README: count(6)", x.count(6), 1);
        due(17, "README: timetable(2, -1)", x.timetable(2, -1), 1);
        due(13, "README: undo()", x.undo(), 1);
    }
}

import java.util.ArrayList;
import java.util.List;
import java.util.function.IntUnaryOperator;

/**
 * Each sentence of the document that names a bound, by itself: the last number that is allowed and the first
 * that is not, on both sides; empty and full. Each check is told with the sentence it stands for.
 */
public final class BoundsTest {
    private static final int BAD = -1, NO = -2, FULL = -3, NONE = -4;
    private static final int LOW = Integer.MIN_VALUE, HIGH = Integer.MAX_VALUE;
    private static final String PERSON = "p0,0,12,0;", WORK = "w0,1;";
    /** No text without fault is longer: 117 letters. */
    private static final String LONGEST = "h10;" + "p03,09,60,30;".repeat(6) + "w09,04;".repeat(5);
    private static String sentence = "";
    private static int sentences = 0;
    private static int checks = 0;
    private static int wrong = 0;

    public static void main(String[] args) {
        letters();
        textIsFull();
        longestText();
        itemLetters();
        figures();
        commas();
        semicolons();
        stepsTold();
        stepsNotTold();
        stepsToldOnce();
        stepsToldFirst();
        kindsTold();
        personStepsTold();
        agesTold();
        nervesTold();
        mostPersons();
        personsInOrder();
        workStepsTold();
        needsTold();
        mostWorks();
        worksInOrder();
        firstFault();
        faultOfNothing();
        aPersonAtLeast();
        laidWithoutFault();
        layMakesNew();
        textStays();
        fearOfPlain();
        fearOfBold();
        fearOfShaky();
        fearOfSinging();
        songOfTheGone();
        fearByAllElse();
        frozen();
        frozenOfTheGone();
        done();
        doneByTheSteady();
        falls();
        nerveFalls();
        nerveGrows();
        nerveOfTheGone();
        older();
        atOnce();
        calledAgain();
        yearsOfAPass();
        lastYear();
        promoted();
        hoisted();
        called();
        calledAtMost();
        calledOnce();
        undoneAtOnce();
        lastEightUndone();
        undoneInARing();
        undoneNothingElse();
        behind();
        behindTheLastYear();
        lowest();
        lowestStepByStep();
        postingPlaces();
        postingOfTheSteady();
        postingOfMost();
        postingOfNobody();
        postingFirst();
        timetableYears();
        timetableCanBe();
        timetableFirst();
        swapOfNone();
        swapOfTwo();
        canReach();
        canOfTheSteady();
        canFewest();
        mostSeen();
        seenByNow();
        nervesAll();
        nervesNone();
        kindsAll();
        likelyBounds();
        likelyOfTen();
        lowestTerms();
        decadeBounds();
        decadeAsCalls();
        decadeOfAYear();
        mostKept();
        keptAll();
        backUndoesNothing();
        counts();
        badFirst();
        suchAsThereAre();
        theLastCall();
        System.out.println(sentences + " sentences, " + checks + " checks, " + wrong + " wrong");
        if (wrong != 0) {
            System.exit(1);
        }
    }

    // ---- how a check is written

    private static void of(String quoted) {
        sentence = quoted;
        sentences++;
    }

    private static void due(String what, int got, int want) {
        checks++;
        if (got != want) {
            wrong++;
            System.out.println("\"" + sentence + "\": " + what + " answered " + got + ", due is " + want);
        }
    }

    private static void add(TowerService x, String text) {
        for (char letter : text.toCharArray()) {
            x.write(letter);
        }
    }

    private static TowerService written(String text) {
        TowerService x = new TowerService();
        add(x, text);
        return x;
    }

    private static TowerService laid(String text) {
        TowerService x = written(text);
        due("lay() of " + text, x.lay() > 0 ? 1 : 0, 1);
        return x;
    }

    private static void dueFault(String text, int want) {
        due("fault() of " + text, written(text).fault(), want);
    }

    /** A call of one number: told is what it may be, all else is BAD. */
    private static void dueBadBeyond(String call, int least, int most, IntUnaryOperator of) {
        for (int n : new int[] {least, most}) {
            due(call + " of " + n + ": BAD?", of.applyAsInt(n) == BAD ? 1 : 0, 0);
        }
        for (int n : new int[] {least - 1, most + 1, least - 2, most + 2, LOW, HIGH, LOW + 1, -65536 + least, 65536 + most}) {
            due(call + " of " + n, of.applyAsInt(n), BAD);
        }
    }

    private static int at(TowerService x, int p) {
        return x.person(p, 1);
    }

    private static int nerve(TowerService x, int p) {
        return x.person(p, 3);
    }

    /** By as few calls as can be: an object has 512 of them. */
    private static void passAll(TowerService x, int years) {
        int left = years;
        while (left > 0) {
            int n = Math.min(left, 40);
            x.pass(n);
            left -= n;
        }
    }

    // ---- 1: the text

    private static void letters() {
        of("A letter (32 to 126, as in ASCII) comes behind THE TEXT: how long it is. BAD");
        dueBadBeyond("write", 32, 126, n -> new TowerService().write(n));
        TowerService x = new TowerService();
        for (int letter = 32; letter <= 126; letter++) {
            due("write(" + letter + ")", x.write(letter), letter - 31);
        }
        due("count(10)", x.count(10), 95);
    }

    private static void textIsFull() {
        of("A TEXT is letters (200 at most); FULL");
        TowerService x = new TowerService();
        for (int i = 1; i <= 200; i++) {
            due("write no. " + i, x.write('w'), i);
        }
        due("write no. 201", x.write('w'), FULL);
        due("write no. 202", x.write(126), FULL);
        due("letters", x.count(10), 200);
        due("wipe()", x.wipe(), 200);
        due("wipe() of nothing", x.wipe(), 0);
        due("write behind wipe", x.write('w'), 1);
    }

    private static void longestText() {
        of("A TEXT is letters (200 at most), ITEMS one behind the other (the longest without fault, and a full one)");
        due("its length", LONGEST.length(), 117);
        TowerService x = written(LONGEST);
        due("fault()", x.fault(), NONE);
        due("lay()", x.lay(), 6);
        due("works", x.count(2), 5);
        due("the last need", x.work(4, 1), 4);
        for (int i = 118; i <= 200; i++) {
            due("write no. " + i, x.write(';'), i);
            due("fault() of " + i + " letters", x.fault(), 117);
        }
        due("lay() with a fault", x.lay(), NO);
    }

    private static void itemLetters() {
        of("ITEMS, each a letter: h, p, w and no other");
        for (char letter = 32; letter <= 126; letter++) {
            dueFault(letter + "6;", letter == 'h' ? NONE : 0);
            dueFault(letter + "0,5,12,0;", letter == 'p' ? NONE : 0);
            dueFault(letter + "0,1;", letter == 'w' ? NONE : 0);
            dueFault(PERSON + letter, 10);
        }
    }

    private static void figures() {
        of("then numbers (one or two figures)");
        dueFault("h;", 0);
        dueFault("h006;", 0);
        dueFault("h06;", NONE);
        String[] person = {"1", "2", "12", "3"};
        String[] work = {"1", "2"};
        for (String[] numbers : new String[][] {person, work}) {
            for (int i = 0; i < numbers.length; i++) {
                String item = numbers == person ? "p" : "w";
                String one = numbers[i];
                dueFault(WORK + item + joined(numbers, i, ""), 5);
                dueFault(WORK + item + joined(numbers, i, one), NONE);
                dueFault(WORK + item + joined(numbers, i, one.length() == 1 ? "0" + one : one), NONE);
                dueFault(WORK + item + joined(numbers, i, (one.length() == 1 ? "00" : "0") + one), 5);
                dueFault(WORK + item + joined(numbers, i, " " + one), 5);
                dueFault(WORK + item + joined(numbers, i, one + " "), 5);
                dueFault(WORK + item + joined(numbers, i, "-" + one), 5);
                dueFault(WORK + item + joined(numbers, i, "+" + one), 5);
            }
        }
        for (char letter = 32; letter <= 126; letter++) {
            boolean isFigure = letter >= '0' && letter <= '9';
            dueFault("p0,0,12," + letter + ";", isFigure ? NONE : 0);
            if (letter != ';') {
                dueFault("p0,0,12,1" + letter + ";", isFigure ? NONE : 0);
            }
        }
    }

    private static String joined(String[] numbers, int i, String instead) {
        String[] other = numbers.clone();
        other[i] = instead;
        return String.join(",", other) + ";";
    }

    private static void commas() {
        of("numbers parted by ,");
        for (String between : new String[] {"", ";", ".", "+", "-", " ", ",,", ", ", " ,", "/", ":"}) {
            dueFault(WORK + "w0" + between + "1;", 5);
            dueFault(WORK + "p1" + between + "2,12,3;", 5);
            dueFault(WORK + "p1,2" + between + "12,3;", 5);
            dueFault(WORK + "p1,2,12" + between + "3;", 5);
        }
        dueFault("w,0,1;", 0);
        dueFault("w0,1,;", 0);
        dueFault("h,6;", 0);
        dueFault("h6,;", 0);
        dueFault("h6,6;", 0);
        dueFault("w0,1,1;", 0);
        dueFault("w0;", 0);
        dueFault("p0,0,12;", 0);
        dueFault("p0,0,12,0,0;", 0);
    }

    private static void semicolons() {
        of("and a ; behind the last one");
        for (String end : new String[] {"", ",", ":", "<", ".", " ", " ;"}) {
            dueFault("h6" + end, 0);
            dueFault(WORK + "p0,0,12,0" + end, 5);
            dueFault(WORK + "w0,1" + end, 5);
            if (!end.isEmpty()) {
                dueFault("h6" + end + WORK, 0);
                dueFault("w0,1" + end + WORK, 0);
            }
        }
        dueFault("h6;;", 3);
        dueFault(";", 0);
        dueFault("w0,1;;", 5);
        dueFault("w0,1;;w0,1;", 5);
        for (int length = 1; length < PERSON.length(); length++) {
            dueFault(PERSON + PERSON.substring(0, length), 10);
        }
    }

    private static void stepsTold() {
        of("hH the tower has H (2 to 10) STEPS");
        for (int h = 0; h <= 99; h++) {
            boolean isTold = h >= 2 && h <= 10;
            dueFault("h" + h + ";" + PERSON, isTold ? NONE : 0);
            dueFault((h < 10 ? "h0" : "h") + h + ";" + PERSON, isTold ? NONE : 0);
            TowerService x = written("h" + h + ";" + PERSON);
            due("lay() of h" + h, x.lay(), isTold ? 1 : NO);
            due("STEPS of h" + h, x.count(0), isTold ? h : 6);
        }
    }

    private static void stepsNotTold() {
        of("STEPS (6 without)");
        due("STEPS", laid(PERSON).count(0), 6);
        dueFault("p0,5,12,0;w5,1;", NONE);
        dueFault("p0,6,12,0;", 0);
        dueFault("w6,1;", 0);
        TowerService x = laid("h9;" + PERSON);
        x.wipe();
        add(x, PERSON);
        x.lay();
        due("STEPS behind a tower of 9", x.count(0), 6);
        x.wipe();
        add(x, "h9;w9,9;");
        due("fault() of another", x.fault(), 3);
        x.wipe();
        add(x, "p0,6,12,0;");
        due("fault() forgets what another told", x.fault(), 0);
    }

    private static void stepsToldOnce() {
        of("STEPS told at most once");
        dueFault("h6;", NONE);
        dueFault("h6;h6;", 3);
        dueFault("h6;h7;" + PERSON, 3);
        dueFault("h10;h10;h10;", 4);
        dueFault("h11;h6;", 0);
        due("lay()", written("h6;h6;" + PERSON).lay(), NO);
    }

    private static void stepsToldFirst() {
        of("STEPS told ahead of all others");
        dueFault("h6;" + PERSON + WORK, NONE);
        dueFault(PERSON + "h6;", 10);
        dueFault(WORK + "h6;", 5);
        dueFault("h6;" + PERSON + "h6;", 13);
        due("lay()", written(PERSON + "h6;").lay(), NO);
    }

    private static void kindsTold() {
        of("a PERSON of KIND K (0 PLAIN, 1 BOLD, 2 SHAKY, 3 SINGING)");
        for (int k = 0; k <= 99; k++) {
            dueFault(PERSON + "p" + k + ",0,12,0;", k <= 3 ? NONE : 10);
        }
        for (int k = 0; k <= 3; k++) {
            due("KIND", laid("p" + k + ",0,12,0;").person(0, 0), k);
        }
    }

    private static void personStepsTold() {
        of("a PERSON on STEP S: 0 the porch, H less 1 the ball");
        for (int h = 2; h <= 10; h++) {
            for (int s = 0; s <= 99; s++) {
                dueFault("h" + h + ";p0," + s + ",12,0;", s < h ? NONE : h < 10 ? 3 : 4);
            }
            due("FEAR on the ball of " + h, laid("h" + h + ";p0," + (h - 1) + ",12,0;").person(0, 4), 0);
        }
    }

    private static void agesTold() {
        of("A (12 to 60) YEARS old");
        for (int a = 0; a <= 99; a++) {
            dueFault(WORK + "p0,0," + a + ",0;", a >= 12 && a <= 60 ? NONE : 5);
        }
        due("12", laid("p0,5,12,0;").person(0, 2), 12);
        due("60", laid("p0,5,60,0;").person(0, 2), 60);
    }

    private static void nervesTold() {
        of("with NERVE N (0 to 30)");
        for (int n = 0; n <= 99; n++) {
            dueFault(WORK + "p0,0,12," + n + ";", n <= 30 ? NONE : 5);
        }
        due("0", nerve(laid("p0,5,12,0;"), 0), 0);
        due("30", nerve(laid("p0,5,12,30;"), 0), 30);
    }

    private static void mostPersons() {
        of("PERSONS: 6 at most");
        for (int many = 1; many <= 6; many++) {
            due("lay() of " + many, laid(PERSON.repeat(many)).count(1), many);
        }
        dueFault(PERSON.repeat(6), NONE);
        dueFault(PERSON.repeat(7), 60);
        dueFault(PERSON.repeat(8), 60);
        dueFault(PERSON.repeat(3) + WORK + PERSON.repeat(4), 65);
        dueFault(PERSON.repeat(6) + WORK.repeat(5), NONE);
        due("lay() of 7", written(PERSON.repeat(7)).lay(), NO);
    }

    private static void personsInOrder() {
        of("PERSONS 0, 1, ..");
        TowerService x = laid("w5,1;p0,0,12,1;p1,1,13,2;w4,2;p2,2,14,3;p3,3,15,4;p0,4,16,5;p1,5,17,6;");
        for (int p = 0; p < 6; p++) {
            due("KIND of " + p, x.person(p, 0), p % 4);
            due("STEP of " + p, x.person(p, 1), p);
            due("how old " + p + " is", x.person(p, 2), 12 + p);
            due("NERVE of " + p, x.person(p, 3), 1 + p);
        }
    }

    private static void workStepsTold() {
        of("a WORK on STEP S");
        for (int h = 2; h <= 10; h++) {
            for (int s = 0; s <= 99; s++) {
                dueFault("h" + h + ";w" + s + ",1;", s < h ? NONE : h < 10 ? 3 : 4);
            }
        }
    }

    private static void needsTold() {
        of("a WORK that needs M (1 to 4) PERSONS");
        for (int m = 0; m <= 99; m++) {
            dueFault(PERSON + "w0," + m + ";", m >= 1 && m <= 4 ? NONE : 10);
        }
    }

    private static void mostWorks() {
        of("WORKS: 5 at most");
        for (int many = 0; many <= 5; many++) {
            due("WORKS", laid(PERSON + WORK.repeat(many)).count(2), many);
        }
        dueFault(WORK.repeat(5), NONE);
        dueFault(WORK.repeat(6), 25);
        dueFault(WORK.repeat(7), 25);
        dueFault(WORK.repeat(2) + PERSON + WORK.repeat(4), 35);
        due("lay() of 6", written(PERSON + WORK.repeat(6)).lay(), NO);
    }

    private static void worksInOrder() {
        of("WORKS 0, 1, ..");
        TowerService x = laid("w4,1;w0,2;" + PERSON + "w3,3;w1,4;w2,1;");
        int[][] told = {{4, 1}, {0, 2}, {3, 3}, {1, 4}, {2, 1}};
        for (int w = 0; w < 5; w++) {
            due("STEP of " + w, x.work(w, 0), told[w][0]);
            due("need of " + w, x.work(w, 1), told[w][1]);
        }
    }

    private static void firstFault() {
        of("FAULT: the place (from 0 on) of the first letter of the first ITEM that is not so");
        dueFault("x", 0);
        dueFault("p0,0,12,99;", 0);
        dueFault("p0,0,12,0;p0,0,12,99;p9,0,12,0;", 10);
        dueFault("w0,9;w0,8;", 0);
        dueFault("h2;w1,1;w2,1;", 8);
        TowerService x = written(PERSON);
        due("without", x.fault(), NONE);
        x.write('w');
        due("an item begun", x.fault(), 10);
        add(x, "0,1;");
        due("and ended", x.fault(), NONE);
        add(x, "w0,5;");
        due("wrong", x.fault(), 15);
        add(x, WORK);
        due("wrong with a good one behind", x.fault(), 15);
        due("asked again", x.fault(), 15);
    }

    private static void faultOfNothing() {
        of("fault: NONE");
        due("an empty text", new TowerService().fault(), NONE);
        TowerService x = written("x");
        x.wipe();
        due("an empty text again", x.fault(), NONE);
        due("no person is no fault", written("h6;" + WORK).fault(), NONE);
    }

    private static void aPersonAtLeast() {
        of("LAID is a TEXT of a PERSON at least (NO else)");
        for (String text : new String[] {"", "h6;", WORK, "h2;w1,1;w0,4;", WORK.repeat(5)}) {
            TowerService x = written(text);
            due("lay() of \"" + text + "\"", x.lay(), NO);
            due("what stands: STEPS", x.count(0), 6);
            due("what stands: PERSONS", x.count(1), 6);
            due("what stands: WORKS", x.count(2), 5);
            add(x, "p0,0,12,0;");
            due("with one", x.lay(), 1);
        }
    }

    private static void laidWithoutFault() {
        of("LAID is a TEXT without FAULT (NO else)");
        TowerService x = written("h3;p1,2,40,7;w2,1;w2,1");
        due("an item without end", x.lay(), NO);
        due("STEPS stay", x.count(0), 6);
        due("KIND stays", x.person(0, 0), 0);
        due("how old it is stays", x.person(0, 2), 12);
        due("NERVE stays", x.person(0, 3), 8);
        due("STEP stays", x.person(0, 1), 5);
        due("need stays", x.work(0, 1), 2);
        due("STEP of a WORK stays", x.work(0, 0), 5);
        x.write(';');
        due("with its end", x.lay(), 1);
        due("STEPS", x.count(0), 3);
    }

    private static void layMakesNew() {
        of("LAID: YEAR 0, nobody GONE, nothing SEEN, UNDONE, KEPT");
        TowerService x = laid("p0,0,12,0;p0,5,12,0;");
        for (int i = 0; i < 9; i++) {
            x.pass(1);
        }
        x.call(1);
        x.keep();
        x.keep();
        for (int i = 0; i < 6; i++) {
            x.seen(0, 0, 1);
        }
        int[] full = {9, 1, 6, 8, 2};
        for (int i = 0; i < 5; i++) {
            due("ahead of it", x.count(new int[] {3, 4, 7, 8, 9}[i]), full[i]);
        }
        due("lay()", x.lay(), 2);
        for (int what : new int[] {3, 4, 7, 8, 9}) {
            due("count(" + what + ")", x.count(what), 0);
        }
        due("GONE", x.person(0, 6), 0);
        due("can be called to", x.person(1, 7), 1);
        due("how old", x.person(0, 2), 12);
        due("undo()", x.undo(), NO);
        due("back()", x.back(), NO);
        due("forget()", x.forget(), 0);
        due("NERVES", x.nerves(0, 0), 31);
    }

    private static void textStays() {
        of("lay (THE TEXT stays)");
        TowerService x = written(PERSON);
        due("lay()", x.lay(), 1);
        due("letters", x.count(10), 10);
        add(x, PERSON);
        due("and more can come behind", x.lay(), 2);
        due("wipe()", x.wipe(), 20);
        due("what is laid stays", x.count(1), 2);
    }

    // ---- 2: fear, frozen, done

    private static void fearOfPlain() {
        of("FEAR: as much as twice the STEPS of the tower above it");
        for (int h = 2; h <= 10; h++) {
            TowerService x = laid("h" + h + ";p0,0,60,30;p3,0,60,30;");
            for (int s = 0; s < h; s++) {
                due("plain on " + s + " of " + h, x.fear(0, s), 2 * (h - 1 - s));
            }
        }
    }

    private static void fearOfBold() {
        of("FEAR of a BOLD one half of that");
        for (int h = 2; h <= 10; h++) {
            TowerService x = laid("h" + h + ";p1,0,60,30;p3,0,60,30;");
            for (int s = 0; s < h; s++) {
                due("bold on " + s + " of " + h, x.fear(0, s), h - 1 - s);
            }
        }
    }

    private static void fearOfShaky() {
        of("FEAR of a SHAKY one as many more as it is whole 5 YEARS older than 20 (none below)");
        for (int age = 12; age <= 60; age++) {
            TowerService x = laid("h10;p2,9," + age + ",30;");
            int more = age < 25 ? 0 : age / 5 - 4;
            due("on the ball, " + age + " old", x.fear(0, 9), more);
            due("on the porch, " + age + " old", x.fear(0, 0), 18 + more);
        }
        TowerService x = laid("h2;p2,1,60,30;");
        for (int age = 61; age <= 101; age++) {
            x.pass(1);
            due("on the ball, " + age + " old", x.fear(0, 1), Math.min(age, 99) / 5 - 4);
        }
        due("others do not matter", laid("p2,5,45,0;p0,5,12,0;").fear(0, 5), 5);
    }

    private static void fearOfSinging() {
        of("FEAR of a SINGING one 2 less for each other PERSON on that STEP (0 at least)");
        for (int others = 0; others <= 5; others++) {
            for (int s = 0; s < 10; s++) {
                String crowd = ("p0," + s + ",12,30;").repeat(others);
                int want = Math.max(0, 2 * (9 - s) - 2 * others);
                TowerService x = laid("h10;p3,9,12,30;" + crowd);
                due(others + " others on " + s, x.fear(0, s), s == 9 ? 0 : want);
                TowerService beside = laid("h10;p3," + s + ",12,30;" + crowd);
                due(others + " others beside it on " + s, beside.person(0, 4), want);
                TowerService last = laid("h10;" + crowd + "p3," + s + ",12,30;");
                due(others + " others ahead of it on " + s, last.person(others, 4), want);
            }
        }
        due("one on the STEP above is not there", laid("h4;p3,0,12,0;p0,1,12,0;").fear(0, 0), 6);
        due("a frozen one is there", laid("h4;p3,0,12,0;p0,0,12,0;").fear(0, 0), 4);
        due("how old it is does not matter", laid("h4;p3,0,60,0;").fear(0, 0), 6);
    }

    private static void songOfTheGone() {
        of("each other PERSON on that STEP who is not GONE");
        TowerService x = laid("h9;p3,8,12,30;p0,0,12,0;p0,0,12,8;p0,0,12,9;p0,0,12,30;");
        due("four others", x.fear(0, 0), 8);
        x.pass(1);
        due("two fell", x.count(4), 2);
        due("two others", x.fear(0, 0), 12);
        x.undo();
        due("four others again", x.fear(0, 0), 8);
    }

    private static void fearByAllElse() {
        of("fear: FEAR that a PERSON would have on a STEP, all else as now");
        TowerService x = laid("h6;p3,1,12,30;p3,1,12,30;p0,2,12,30;");
        due("where it is", x.fear(0, 1), 6);
        due("where one is", x.fear(0, 2), 4);
        due("where nobody is", x.fear(0, 0), 10);
        x.promote(2);
        due("one more where it is", x.fear(0, 1), 4);
        due("nobody there any more", x.fear(0, 2), 6);
        due("STEP stays", at(x, 0), 1);
    }

    private static void frozen() {
        of("FROZEN is one that has more FEAR on its STEP than NERVE");
        // On the porch of 6: plain 10, bold 5, shaky of 35 13, singing beside three 4.
        int[] fears = {10, 5, 13, 4};
        for (int kind = 0; kind < 4; kind++) {
            for (int more = -1; more <= 1; more++) {
                String one = "p" + kind + ",0,35," + (fears[kind] + more) + ";";
                TowerService x = laid("h6;" + one + "p0,0,12,30;".repeat(3) + "w0,4;");
                due("FEAR", x.person(0, 4), fears[kind]);
                due("KIND " + kind + ", NERVE less FEAR " + more, x.person(0, 5), more < 0 ? 1 : 0);
                due("how many", x.count(5), more < 0 ? 1 : 0);
                due("WORK", x.work(0, 2), more < 0 ? 0 : 1);
            }
        }
        due("no FEAR, no NERVE", laid("p0,5,12,0;").person(0, 5), 0);
    }

    private static void frozenOfTheGone() {
        of("1 if FROZEN (5; 0: GONE, too), 1 if GONE (6), 1 if it can be called to (7)");
        TowerService x = laid("p0,0,12,2;p0,0,12,3;p0,5,12,0;");
        int[][] ahead = {{1, 0, 1}, {1, 0, 1}, {0, 0, 1}};
        int[][] behind = {{0, 1, 0}, {1, 0, 1}, {0, 0, 1}};
        for (int p = 0; p < 3; p++) {
            for (int what = 5; what <= 7; what++) {
                due("person(" + p + ", " + what + ")", x.person(p, what), ahead[p][what - 5]);
            }
        }
        due("FROZEN ahead", x.count(5), 2);
        x.pass(1);
        for (int p = 0; p < 3; p++) {
            for (int what = 5; what <= 7; what++) {
                due("behind, person(" + p + ", " + what + ")", x.person(p, what), behind[p][what - 5]);
            }
        }
        due("FROZEN behind", x.count(5), 1);
        due("GONE behind", x.count(4), 1);
    }

    private static void done() {
        of("DONE is a WORK, if as many PERSONS as it needs, or more, are on its STEP");
        for (int need = 1; need <= 4; need++) {
            for (int hands = 0; hands <= 6; hands++) {
                String here = "p0,3,12,30;".repeat(hands);
                String there = "p0,4,12,30;".repeat(6 - hands);
                TowerService x = laid(here + there + "w3," + need + ";");
                due(hands + " of " + need, x.work(0, 2), hands >= need ? 1 : 0);
                due(hands + " of " + need + ", how many", x.count(6), hands >= need ? 1 : 0);
            }
        }
        TowerService all = laid("h2;" + "p0,1,12,0;".repeat(4) + "w1,1;w1,2;w1,3;w1,4;w1,4;");
        due("five on one STEP", all.count(6), 5);
        due("none there", laid(PERSON).count(6), 0);
    }

    private static void doneByTheSteady() {
        of("DONE .. that are not FROZEN and not GONE");
        TowerService x = laid("p0,0,12,9;p0,0,12,10;p0,0,12,2;w0,1;w0,2;w0,3;");
        due("one steady", x.count(6), 1);
        x.pass(1);
        due("one steady, one gone", x.count(6), 1);
        TowerService y = laid("p0,0,12,10;p0,0,12,10;w0,1;w0,2;w0,3;");
        due("two steady", y.count(6), 2);
    }

    // ---- 2: years

    private static void falls() {
        of("who is FROZEN by 8 or more FALLS");
        for (int by = 6; by <= 18; by++) {
            TowerService x = laid("h10;p0,0,12," + (18 - by) + ";");
            x.pass(1);
            due("by " + by, x.person(0, 6), by >= 8 ? 1 : 0);
            due("by " + by + ", NERVE", nerve(x, 0), by >= 8 ? 18 - by : 17 - by);
            due("by " + by + ", how many", x.count(4), by >= 8 ? 1 : 0);
        }
        int[] fears = {18, 9, 26, 16};
        for (int kind = 0; kind < 4; kind++) {
            for (int by = 7; by <= 8; by++) {
                TowerService x = laid("h10;p" + kind + ",0,60," + (fears[kind] - by) + ";p0,0,12,30;");
                x.pass(1);
                due("KIND " + kind + " by " + by, x.person(0, 6), by - 7);
            }
        }
    }

    private static void nerveFalls() {
        of("who else is FROZEN has 1 of NERVE less (0 at least)");
        TowerService x = laid("h3;p1,0,12,1;p0,0,12,3;p1,0,12,0;");
        int[] want = {0, 2, 0};
        for (int year = 1; year <= 4; year++) {
            x.pass(1);
            for (int p = 0; p < 3; p++) {
                due("NERVE of " + p + " in " + year, nerve(x, p), Math.max(0, want[p] - (p == 1 ? year - 1 : 0)));
            }
        }
        due("nobody fell", x.count(4), 0);
        x.pass(40);
        due("still 0", nerve(x, 0) + nerve(x, 1) + nerve(x, 2), 0);
    }

    private static void nerveGrows() {
        of("who is not has 1 more (30 at most)");
        for (int n = 0; n <= 30; n++) {
            TowerService x = laid("p0,5,12," + n + ";");
            x.pass(1);
            due("from " + n, nerve(x, 0), n < 30 ? n + 1 : 30);
        }
        TowerService x = laid("p0,5,12,28;");
        x.pass(3);
        due("28 and 3 YEARS", nerve(x, 0), 30);
        due("as much FEAR as NERVE", laidAndPassed("p0,4,12,2;", 1).person(0, 3), 3);
    }

    private static TowerService laidAndPassed(String text, int years) {
        TowerService x = laid(text);
        passAll(x, years);
        return x;
    }

    private static void nerveOfTheGone() {
        of("FALLS: that one is GONE (its NERVE is neither less nor more then)");
        TowerService x = laid("p0,0,12,2;");
        for (int year = 1; year <= 5; year++) {
            x.pass(1);
            due("in " + year, nerve(x, 0), 2);
            due("in " + year + ", where it was", at(x, 0), 0);
            due("in " + year + ", FEAR", x.person(0, 4), 10);
        }
    }

    private static void older() {
        of("Then each is a YEAR older (99 at most; also who is GONE)");
        TowerService x = laid("p0,0,60,0;p0,5,60,0;p0,5,59,0;");
        x.pass(1);
        due("the GONE one", x.person(0, 2), 61);
        x.pass(37);
        int[][] want = {{98, 98, 97}, {99, 99, 98}, {99, 99, 99}, {99, 99, 99}};
        for (int year = 0; year < 4; year++) {
            for (int p = 0; p < 3; p++) {
                due("how old " + p + " is in " + (38 + year), x.person(p, 2), want[year][p]);
            }
            x.pass(1);
        }
        x.pass(40);
        due("still 99", x.person(0, 2) + x.person(1, 2), 198);
    }

    private static void atOnce() {
        of("By a YEAR, at once, as it is ahead of it");
        // The singer on the porch has 6 of FEAR beside the two who fall, and would have 10 alone.
        for (String text : new String[] {"p3,0,12,6;p0,0,12,0;p0,0,12,0;", "p0,0,12,0;p0,0,12,0;p3,0,12,6;"}) {
            TowerService x = laid(text);
            int singer = text.startsWith("p3") ? 0 : 2;
            x.pass(1);
            due("two fell", x.count(4), 2);
            due("the singer was steady", nerve(x, singer), 7);
            x.pass(1);
            due("the singer is FROZEN", nerve(x, singer), 6);
        }
        // Who turns 25 in this YEAR has its FEAR of 24 still.
        TowerService shaky = laid("p2,5,24,0;");
        shaky.pass(1);
        due("FEAR of 24", nerve(shaky, 0), 1);
        due("FEAR of 25", shaky.person(0, 4), 1);
        TowerService late = laid("p2,5,29,1;p2,5,29,0;");
        late.pass(1);
        due("steady at 29", nerve(late, 0), 2);
        due("FROZEN at 29", nerve(late, 1), 0);
    }

    private static void calledAgain() {
        of("Then each can be called to again");
        TowerService x = laid("p0,0,12,2;p0,1,12,1;p0,5,12,0;");
        x.call(0);
        x.call(1);
        for (int p = 0; p < 3; p++) {
            due("person(" + p + ", 7)", x.person(p, 7), p == 2 ? 1 : 0);
        }
        x.pass(1);
        for (int p = 0; p < 3; p++) {
            due("behind a YEAR, person(" + p + ", 7)", x.person(p, 7), 1);
        }
        due("call", x.call(0), 3);
    }

    private static void yearsOfAPass() {
        of("n (1 to 40) YEARS go by: which it is. BAD");
        dueBadBeyond("pass", 1, 40, n -> new TowerService().pass(n));
        for (int n = 1; n <= 40; n++) {
            due("pass(" + n + ")", new TowerService().pass(n), n);
            TowerService x = laid("p0,5,12,0;");
            x.pass(2);
            due("behind 2, pass(" + n + ")", x.pass(n), n + 2);
            due("as many YEARS older", x.person(0, 2), 14 + n);
            due("as many more", nerve(x, 0), Math.min(30, n + 2));
        }
    }

    private static void lastYear() {
        of("NO: it would be above 999");
        for (int n = 1; n <= 40; n++) {
            TowerService x = new TowerService();
            passAll(x, 1000 - n);
            due("the YEAR", x.count(3), 1000 - n);
            due("pass(" + n + ") to 1000", x.pass(n), NO);
            due("the YEAR stays", x.count(3), 1000 - n);
            due("what can be UNDONE stays", x.count(8), 8);
            due("pass to 999", n > 1 ? x.pass(n - 1) : x.count(3), 999);
            due("pass(1) from 999", x.pass(1), NO);
            due("pass(40) from 999", x.pass(40), NO);
        }
        TowerService x = new TowerService();
        passAll(x, 999);
        x.undo();
        due("undone, pass(1)", x.pass(1), 961);
    }

    // ---- 2: acts

    private static void promoted() {
        of("PROMOTED one that is neither FROZEN nor GONE goes a STEP down (not below 0). NO: FROZEN, GONE, on 0");
        TowerService x = laid("h10;p0,9,12,30;p0,3,12,12;p0,3,12,11;p0,0,12,0;p0,0,12,18;");
        for (int s = 8; s >= 0; s--) {
            due("promote(0)", x.promote(0), s);
        }
        due("on 0", x.promote(0), NO);
        due("STEP", at(x, 0), 0);
        due("as much FEAR as NERVE", x.promote(1), 2);
        due("1 more FEAR than NERVE", x.promote(1), NO);
        due("FROZEN from the first", x.promote(2), NO);
        due("FROZEN, STEP", at(x, 2), 3);
        due("on 0, steady", x.promote(4), NO);
        due("those that were", x.count(8), 8);
        TowerService gone = laid("h10;p0,1,12,0;p0,9,12,0;");
        gone.pass(1);
        due("GONE", gone.promote(0), NO);
        due("GONE, STEP", at(gone, 0), 1);
        due("only the YEAR", gone.count(8), 1);
        dueBadBeyond("promote", 0, 5, n -> new TowerService().promote(n));
    }

    private static void hoisted() {
        of("HOISTED any that is not GONE a STEP up (not above the ball). NO: GONE, on the ball");
        for (int h = 2; h <= 10; h++) {
            TowerService x = laid("h" + h + ";p0,0,12,0;");
            for (int s = 1; s < h; s++) {
                due("hoist(0) of " + h, x.hoist(0), s);
            }
            due("on the ball of " + h, x.hoist(0), NO);
            due("STEP", at(x, 0), h - 1);
            due("those that were", x.count(8), Math.min(8, h - 1));
        }
        TowerService gone = laid("h10;p0,0,12,0;p0,0,12,11;");
        gone.pass(1);
        due("GONE", gone.hoist(0), NO);
        due("GONE, STEP", at(gone, 0), 0);
        due("FROZEN", gone.hoist(1), 1);
        dueBadBeyond("hoist", 0, 5, n -> new TowerService().hoist(n));
    }

    private static void called() {
        of("CALLED to one has as much more NERVE as there are PERSONS not FROZEN, not GONE, on STEPS above it");
        // Above 3: on 4 (10 of FEAR) one FROZEN and one steady, and one on the ball.
        TowerService x = laid("h10;p0,3,12,0;p0,4,12,9;p0,4,12,10;p0,9,12,0;p1,3,12,6;p1,2,12,30;");
        due("a FROZEN one above, two steady, one beside, one below", x.call(0), 2);
        due("from the ball by nobody", x.call(3), 0);
        due("called to by nobody is called to", x.call(3), NO);
        due("that can be UNDONE, too", x.count(8), 2);
        TowerService gone = laid("h10;p0,5,12,0;p0,3,12,12;p0,9,12,0;p1,0,12,9;");
        gone.pass(1);
        due("one fell", gone.person(0, 6), 1);
        due("not by the GONE one", nerve(gone, 3), 10);
        due("by the two steady ones", gone.call(3), 12);
        due("GONE", gone.call(0), NO);
        due("GONE, NERVE", nerve(gone, 0), 0);
        TowerService all = laid("h2;p0,0,12,0;" + "p0,1,12,0;".repeat(5));
        due("by five", all.call(0), 5);
        TowerService first = laid("h2;" + "p0,1,12,0;".repeat(5) + "p0,0,12,0;");
        due("by five ahead of it", first.call(5), 5);
        dueBadBeyond("call", 0, 5, n -> new TowerService().call(n));
    }

    private static void calledAtMost() {
        of("CALLED to .. more NERVE (30 at most)");
        for (int n = 24; n <= 30; n++) {
            for (int callers = 0; callers <= 5; callers++) {
                TowerService x = laid("h2;p0,0,12," + n + ";" + "p0,1,12,0;".repeat(callers));
                due(n + " by " + callers, x.call(0), Math.min(30, n + callers));
                due(n + " by " + callers + ", NERVE", nerve(x, 0), Math.min(30, n + callers));
            }
        }
    }

    private static void calledOnce() {
        of("CALLED to .. once in a YEAR. NO: GONE, called to in this YEAR");
        TowerService x = laid("h2;p0,0,12,0;p0,1,12,0;");
        due("call", x.call(0), 1);
        due("again", x.call(0), NO);
        due("NERVE stays", nerve(x, 0), 1);
        due("one can be UNDONE", x.count(8), 1);
        due("another can be", x.call(1), 0);
        x.hoist(0);
        due("though it was HOISTED", x.call(0), NO);
        x.pass(1);
        due("in the next YEAR", x.call(0), 2);
        x.undo();
        due("behind undo", x.call(0), 2);
        x.undo();
        x.undo();
        due("the YEAR UNDONE: called to still", x.call(0), NO);
        x.undo();
        x.undo();
        due("the other's call UNDONE, not its own", x.call(0), NO);
        x.undo();
        due("its own UNDONE", x.call(0), 1);
        x.keep();
        x.pass(1);
        x.back();
        due("called to as KEPT", x.call(0), NO);
        x.lay();
        due("behind lay", x.call(0), 1);
    }

    private static void undoneAtOnce() {
        of("UNDONE is the latest of these, of YEARS (all of one call at once)");
        TowerService x = laid("p0,4,30,9;p2,0,60,11;p0,5,12,0;");
        due("nothing", x.undo(), NO);
        due("promote", x.promote(0), 3);
        due("call", x.call(0), 10);
        due("hoist", x.hoist(1), 1);
        due("pass", x.pass(40), 40);
        due("it fell", x.person(1, 6), 1);
        due("undo 40 YEARS", x.undo(), 3);
        due("YEAR", x.count(3), 0);
        due("GONE no more", x.person(1, 6), 0);
        due("how old", x.person(0, 2), 30);
        due("NERVE", nerve(x, 0), 10);
        due("undo hoist", x.undo(), 2);
        due("STEP", at(x, 1), 0);
        due("STEP of another", at(x, 0), 3);
        due("undo call", x.undo(), 1);
        due("NERVE", nerve(x, 0), 9);
        due("can be called to", x.person(0, 7), 1);
        due("undo promote", x.undo(), 0);
        due("STEP", at(x, 0), 4);
        due("nothing more", x.undo(), NO);
        due("nothing is UNDONE by that", at(x, 0), 4);
    }

    private static void lastEightUndone() {
        of("UNDONE .. (the last 8 can be)");
        for (int acts = 0; acts <= 20; acts++) {
            TowerService x = new TowerService();
            for (int i = 0; i < acts; i++) {
                x.pass(1);
            }
            int can = Math.min(acts, 8);
            due("how many of " + acts, x.count(8), can);
            for (int left = can - 1; left >= 0; left--) {
                due("undo() of " + acts, x.undo(), left);
                due("the YEAR", x.count(3), acts - can + left);
                due("how many more", x.count(8), left);
            }
            due("no more of " + acts, x.undo(), NO);
            due("the YEAR stays", x.count(3), acts - can);
        }
    }

    private static void undoneInARing() {
        of("UNDONE: how many more can be (acts between)");
        List<Integer> years = new ArrayList<>();
        TowerService x = new TowerService();
        int year = 0;
        int draw = 7;
        for (int i = 0; i < 200; i++) {
            draw = (draw * 75 + 74) % 65537;
            if (draw % 5 < 2) {
                int left = years.isEmpty() ? NO : years.size() - 1;
                due("undo() no. " + i, x.undo(), left);
                year = left == NO ? year : years.remove(left);
            } else if (year < 990) {
                int n = 1 + draw % 3;
                years.add(year);
                year += n;
                due("pass no. " + i, x.pass(n), year);
                if (years.size() > 8) {
                    years.remove(0);
                }
            }
            due("the YEAR no. " + i, x.count(3), year);
        }
    }

    private static void undoneNothingElse() {
        of("UNDONE is the latest of these (not what is written, laid, SEEN, KEPT)");
        TowerService x = new TowerService();
        x.write('p');
        x.seen(0, 0, 1);
        x.keep();
        x.fault();
        x.wipe();
        x.forget();
        due("nothing to undo", x.undo(), NO);
        x.promote(0);
        x.write('p');
        x.seen(0, 0, 1);
        x.keep();
        due("undo()", x.undo(), 0);
        due("STEP", at(x, 0), 5);
        due("letters stay", x.count(10), 1);
        due("SEEN stays", x.count(7), 1);
        due("KEPT stays", x.count(9), 2);
        due("as KEPT last", x.back(), 1);
        due("STEP then", at(x, 0), 4);
    }

    // ---- 3: what comes

    private static void behind() {
        of("BEHIND n (0 to 40) YEARS, nothing else being done: 1 if a PERSON is GONE; its NERVE. BAD");
        String text = "h9;p0,4,12,3;p1,2,30,5;p2,5,24,6;p3,0,14,8;p0,0,13,12;p1,0,60,0;";
        TowerService now = laid(text);
        for (int n = 0; n <= 40; n++) {
            TowerService then = laidAndPassed(text, n);
            TowerService asked = laid(text);
            for (int p = 0; p < 6; p++) {
                due("behind(" + n + ", " + p + ", 0)", asked.behind(n, p, 0), then.person(p, 6));
                due("behind(" + n + ", " + p + ", 1)", asked.behind(n, p, 1), then.person(p, 3));
            }
            due("the YEAR stays", asked.count(3), 0);
        }
        due("GONE behind 1", now.behind(1, 5, 0), 1);
        due("not behind 0", now.behind(0, 5, 0), 0);
        dueBadBeyond("behind n", 0, 40, n -> new TowerService().behind(n, 0, 0));
        dueBadBeyond("behind p", 0, 5, n -> new TowerService().behind(40, n, 1));
        dueBadBeyond("behind what", 0, 1, n -> new TowerService().behind(0, 5, n));
    }

    private static void behindTheLastYear() {
        of("BEHIND: BAD, and no NO (the last YEAR is no bound of it)");
        TowerService x = laid("p0,5,12,0;p0,3,12,3;");
        passAll(x, 999);
        due("behind(40, 0, 1)", x.behind(40, 0, 1), 30);
        due("behind(1, 1, 0)", x.behind(1, 1, 0), 0);
        due("decade(0, 60, 0)", x.decade(0, 60, 0), 0);
        due("timetable(4, -1)", x.timetable(4, -1), 0);
        due("the YEAR", x.count(3), 999);
    }

    private static void lowest() {
        of("LOWEST for one that is neither FROZEN nor GONE. BAD; NO: FROZEN, GONE");
        for (int n = 0; n <= 18; n++) {
            due("plain of NERVE " + n, laid("h10;p0,9,60," + n + ";").lowest(0), 9 - n / 2);
            due("bold of NERVE " + n, laid("h10;p1,9,60," + n + ";").lowest(0), Math.max(0, 9 - n));
        }
        due("on 0, steady", laid("h10;p0,0,12,18;").lowest(0), 0);
        due("on 0, FROZEN", laid("h10;p0,0,12,17;").lowest(0), NO);
        due("FROZEN by 1", laid("h10;p0,5,12,7;").lowest(0), NO);
        due("as much FEAR as NERVE", laid("h10;p0,5,12,8;").lowest(0), 5);
        TowerService gone = laid("h10;p0,5,12,0;p0,9,12,0;");
        gone.pass(1);
        due("GONE", gone.lowest(0), NO);
        due("STEP of another stays", gone.lowest(1), 9);
        dueBadBeyond("lowest", 0, 5, n -> new TowerService().lowest(n));
    }

    private static void lowestStepByStep() {
        of("the lowest STEP to which it can be PROMOTED now, STEP by STEP, not FROZEN on any of them (all others where they are)");
        TowerService x = laid("h7;p3,5,12,2;p0,4,12,30;p0,3,12,30;p0,3,12,30;p0,1,12,30;p0,1,12,30;");
        // 4: 4 less 2; 3: 6 less 4; 2: 8, nobody is there; 1: 10 less 4.
        due("as far as somebody is there", x.lowest(0), 3);
        x.promote(2);
        due("one goes a STEP down: 3 has 4 now", x.lowest(0), 4);
        x.promote(1);
        due("nobody on 4: 4 of FEAR", x.lowest(0), 5);
        due("it stays where it is", at(x, 0), 5);
        // 1 would bear it beside three, but 2 would not.
        TowerService y = laid("h5;p3,3,12,2;p0,1,12,30;p0,1,12,30;p0,1,12,30;");
        due("not past a STEP where it is FROZEN", y.lowest(0), 3);
        TowerService z = laid("h5;p3,3,12,2;p0,2,12,30;p0,1,12,30;p0,1,12,30;p0,0,12,30;");
        due("past it, beside one there", z.lowest(0), 1);
    }

    private static void postingPlaces() {
        of("POSTING: each on a STEP that a WORK is on or where it is");
        TowerService x = laid("h5;p0,2,12,30;p0,3,12,30;w4,1;");
        due("0 stays, 1 goes up", x.posting(0) * 10 + x.posting(1), 24);
        due("how many", x.posting(-1), 1);
        TowerService y = laid("h5;p0,2,12,30;p0,3,12,30;w4,1;w4,2;");
        due("both go up", y.posting(0) * 10 + y.posting(1), 44);
        due("how many", y.posting(-1), 2);
        // No STEP but its own is one where it would not be FROZEN.
        due("its own", laid("h5;p0,3,12,2;w0,1;w1,1;w2,1;").posting(0), 3);
        // 4 would be borne, but no WORK is on it.
        due("none", laid("h5;p0,2,12,0;w0,1;w3,1;").posting(0), NONE);
        due("one that a WORK is on", laid("h5;p0,2,12,0;w0,1;w3,1;w4,4;").posting(0), 4);
        due("BAD below", laid(PERSON).posting(-2), BAD);
        dueBadBeyond("posting", -1, 5, n -> new TowerService().posting(n));
    }

    private static void postingOfTheSteady() {
        of("POSTING: so that nobody of these is FROZEN; NONE: none");
        due("as much FEAR as NERVE", laid("h5;p0,4,12,8;w0,1;").posting(0), 0);
        due("1 more FEAR", laid("h5;p0,4,12,7;w0,1;").posting(0), 4);
        due("1 more FEAR, how many", laid("h5;p0,4,12,7;w0,1;").posting(-1), 0);
        TowerService one = laid("h5;p0,0,12,7;p0,4,12,30;w0,1;");
        due("one of two cannot be", one.posting(-1), NONE);
        due("nor can the other then", one.posting(1), NONE);
        // A singer on 1 (6 of FEAR) bears it beside two, who can stay only where they are.
        TowerService song = laid("h5;p3,4,12,2;p0,1,12,6;p0,1,12,6;w1,3;");
        due("beside two", song.posting(0) * 10 + song.posting(-1), 11);
        TowerService alone = laid("h5;p3,4,12,1;p0,1,12,6;p0,1,12,6;w1,3;");
        due("beside two, 1 more FEAR", alone.posting(0) * 10 + alone.posting(-1), 40);
        // One of the two cannot come: with one beside it a singer has 4 of FEAR on 1, and 2 of NERVE.
        for (int singer = 0; singer < 3; singer++) {
            String[] people = {"p0,1,12,6;", "p0,4,12,5;"};
            String text = "h5;" + (singer == 0 ? "p3,4,12,2;" : "") + people[0] + (singer == 1 ? "p3,4,12,2;" : "")
                + people[1] + (singer == 2 ? "p3,4,12,2;" : "");
            TowerService few = laid(text + "w1,2;");
            due("beside one only, as " + singer, few.posting(singer) * 10 + few.posting(-1), 40);
            TowerService enough = laid(text.replace("12,5;", "12,6;") + "w1,2;w1,3;");
            due("beside two, as " + singer, enough.posting(singer) * 10 + enough.posting(-1), 12);
        }
        due("only the porch", laid("h5;p0,0,12,8;w0,1;").posting(0), 0);
        due("only the porch, how many", laid("h5;p0,0,12,8;w0,1;").posting(-1), 1);
        due("without a WORK", laid("h5;p0,2,12,4;").posting(-1), 0);
        due("without a WORK, FROZEN", laid("h5;p0,2,12,3;").posting(-1), NONE);
    }

    private static void postingOfMost() {
        of("POSTING: that by which most WORKS are DONE");
        TowerService x = laid("h5;p0,4,12,30;p0,4,12,30;w4,1;w4,2;w4,2;w0,1;");
        due("three on one STEP", x.posting(-1), 3);
        due("both there", x.posting(0) * 10 + x.posting(1), 44);
        TowerService y = laid("h5;" + "p0,4,12,30;".repeat(4) + "w4,4;w4,4;w4,3;w0,2;w1,2;");
        due("three of four hands", y.posting(-1), 3);
        due("all there", y.posting(0) + y.posting(1) + y.posting(2) + y.posting(3), 16);
        TowerService z = laid("h5;" + "p0,4,12,30;".repeat(6) + "w3,4;w2,1;w4,1;w1,4;w0,4;");
        due("one of four hands and two of one", z.posting(-1), 3);
        due("the four as low as can be", z.posting(0) + z.posting(1) + z.posting(2) + z.posting(3), 0);
        due("then the two", z.posting(4) * 10 + z.posting(5), 24);
        TowerService late = laid("h5;p0,0,12,30;" + "p0,4,12,30;".repeat(4) + "w2,1;w4,4;");
        due("0 leaves its own STEP", late.posting(0) * 10 + late.posting(-1), 22);
        due("the four stay", late.posting(1) + late.posting(2) + late.posting(3) + late.posting(4), 16);
        TowerService all = laid("h5;" + "p0,4,12,30;".repeat(5) + "w0,1;w1,1;w2,1;w3,1;w4,1;");
        due("all five", all.posting(-1), 5);
        for (int p = 0; p < 5; p++) {
            due("where " + p + " goes", all.posting(p), p);
        }
    }

    private static void postingOfNobody() {
        of("POSTING of all PERSONS that are not GONE: where a PERSON goes (NONE: it is GONE)");
        TowerService x = laid("h6;p0,5,12,0;p0,0,12,0;p0,5,12,0;w5,2;w5,3;");
        due("ahead: one is FROZEN, and goes to the ball", x.posting(1), 5);
        due("ahead: how many", x.posting(-1), 2);
        x.pass(1);
        due("GONE", x.posting(1), NONE);
        due("how many", x.posting(-1), 1);
        due("the one ahead of it", x.posting(0), 5);
        due("the one behind it", x.posting(2), 5);
        // The GONE one is no company: a singer of NERVE 2 does not bear 1 beside one.
        TowerService song = laid("h5;p0,0,12,0;p3,4,12,1;p0,1,12,6;w1,2;");
        song.pass(1);
        due("a singer stays on the ball", song.posting(1) * 10 + song.posting(-1), 40);
        TowerService all = laid("h6;p0,0,12,0;w5,1;");
        all.pass(1);
        due("all GONE: nobody is put, none is FROZEN", all.posting(-1), 0);
        due("all GONE: where", all.posting(0), NONE);
    }

    private static void postingFirst() {
        of("POSTING: of several the first (PERSON 0 as low as can be, then 1, ..)");
        TowerService x = laid("h4;p0,3,12,30;p0,3,12,30;p0,3,12,30;w0,1;w1,1;w3,1;");
        due("three WORKS", x.posting(-1), 3);
        due("0 lowest, then 1", x.posting(0) * 100 + x.posting(1) * 10 + x.posting(2), 13);
        TowerService idle = laid("h4;p0,3,12,30;p0,2,12,30;w1,4;");
        due("none can be done: as low as can be", idle.posting(0) * 10 + idle.posting(1), 11);
        due("how many", idle.posting(-1), 0);
        TowerService low = laid("h4;p0,0,12,30;p0,3,12,30;w3,1;w2,1;");
        due("most goes ahead of low", low.posting(0) * 10 + low.posting(1), 23);
        TowerService own = laid("h4;p0,0,12,30;p0,3,12,30;w3,1;");
        due("lowest is its own", own.posting(0) * 10 + own.posting(1), 3);
    }

    private static void timetableYears() {
        of("TIMETABLE of n (1 to 4): how many (k = -1), whom in the k-th (0 to 3; NONE: nobody, there are not so many). BAD");
        dueBadBeyond("timetable n", 1, 4, n -> new TowerService().timetable(n, -1));
        dueBadBeyond("timetable k", -1, 3, n -> new TowerService().timetable(4, n));
        dueBadBeyond("timetable k of 1", -1, 3, n -> new TowerService().timetable(1, n));
        for (int n = 1; n <= 4; n++) {
            // One bold and steady comes down n STEPS to the one WORK.
            TowerService x = laid("h9;p1,8,12,30;w" + (8 - n) + ",1;");
            due(n + " YEARS", x.timetable(n, -1), 1);
            for (int k = 0; k < 4; k++) {
                due("whom in " + k + " of " + n, x.timetable(n, k), k < n ? 0 : NONE);
            }
            if (n > 1) {
                due(n - 1 + " YEARS are too few", x.timetable(n - 1, -1), 0);
                due("nobody then", x.timetable(n - 1, 0), NONE);
            }
            if (n < 4) {
                due(n + 1 + " YEARS: nobody first", x.timetable(n + 1, 0), NONE);
                due(n + 1 + " YEARS", x.timetable(n + 1, -1), 1);
            }
        }
    }

    private static void timetableCanBe() {
        of("TIMETABLE: to PROMOTE one, as it can be, ahead of each of the next n YEARS");
        due("on 0", laid("h2;p0,0,12,30;w1,1;").timetable(4, -1), 0);
        due("FROZEN", laid("h4;p0,2,12,1;w1,1;").timetable(1, -1), 0);
        TowerService x = laid("h4;p0,2,12,2;w1,1;");
        due("as much FEAR as NERVE, but FROZEN below", x.timetable(1, -1), 0);
        // Nobody first: it has 3 then; nobody: 4, then it goes to 1 with 4 of FEAR.
        due("two YEARS on", x.timetable(3, -1), 1);
        due("in the third", x.timetable(3, 2), 0);
        due("nobody ahead of it", x.timetable(3, 0) + x.timetable(3, 1), 2 * NONE);
        due("it is a YEAR too early", x.timetable(2, -1), 0);
        TowerService gone = laid("h9;p0,1,12,0;p0,8,12,0;w0,1;w8,1;");
        gone.pass(1);
        due("GONE", gone.timetable(2, -1), 1);
        due("GONE, whom", gone.timetable(2, 0), NONE);
        // Who is FROZEN by 8 ahead of the YEAR does nothing behind it.
        TowerService falls = laid("h9;p0,0,12,8;p3,0,12,12;w0,1;");
        due("it falls, and the singer is FROZEN behind", falls.timetable(1, -1), 0);
    }

    private static void timetableFirst() {
        of("TIMETABLE: of several the first (by the first YEAR, nobody ahead of 0, 1, .., then the next one)");
        TowerService x = laid("h3;p0,2,12,30;p0,2,12,30;p0,2,12,30;w1,1;w2,1;");
        due("one YEAR: 0", x.timetable(1, 0), 0);
        due("two YEARS: nobody, then 0", x.timetable(2, 0) * 10 + x.timetable(2, 1), 10 * NONE);
        TowerService none = laid("h3;p0,2,12,30;w2,1;");
        due("DONE already: nobody", none.timetable(4, 0), NONE);
        due("DONE already: how many", none.timetable(4, -1), 1);
        TowerService last = laid("h3;" + "p0,2,12,0;".repeat(5) + "p0,2,12,30;w1,1;");
        due("only the last one is steady there", last.timetable(1, 0), 5);
        TowerService two = laid("h4;p0,3,12,30;p0,3,12,30;w2,2;");
        due("0 ahead of 1", two.timetable(2, 0) * 10 + two.timetable(2, 1), 1);
    }

    private static void swapOfNone() {
        of("SWAP: which two PERSONS not GONE, on unlike STEPS; NONE");
        for (int what = 0; what <= 1; what++) {
            due("one alone", laid("p0,5,12,0;").swap(what), NONE);
            due("two on one STEP", laid("p0,5,12,0;p0,5,12,0;").swap(what), NONE);
            due("six on one STEP", laid("p0,5,12,0;".repeat(6)).swap(what), NONE);
            due("two on unlike STEPS", laid("p0,5,12,0;p0,4,12,30;").swap(what), 1 - what);
            TowerService gone = laid("h10;p0,0,12,0;p0,9,12,0;w9,1;");
            due("one FROZEN", gone.swap(what), 1);
            gone.pass(1);
            due("one GONE", gone.swap(what), NONE);
            TowerService two = laid("h10;p0,0,12,0;p0,9,12,0;p0,8,12,2;w9,1;");
            two.pass(1);
            due("the other two", two.swap(what), what == 0 ? 12 : 1);
        }
        dueBadBeyond("swap", 0, 1, n -> new TowerService().swap(n));
    }

    private static void swapOfTwo() {
        of("SWAP: of several the lowest (10 times the lower one, and the other): which; how many");
        TowerService last = laid("h3;p0,2,12,0;p0,2,12,0;p0,2,12,0;p0,2,12,0;p0,2,12,30;p0,1,12,0;w1,1;");
        due("the last two", last.swap(0), 45);
        due("how many", last.swap(1), 1);
        TowerService same = laid("h3;p0,2,12,30;p0,2,12,30;p0,1,12,30;p0,1,12,30;w1,2;w2,2;");
        due("all are alike: 0 and 2", same.swap(0), 2);
        due("how many", same.swap(1), 2);
        TowerService frozen = laid("h3;p0,1,12,1;p0,2,12,2;w1,1;w2,1;");
        due("as much FEAR as NERVE", frozen.swap(1), 2);
        due("STEP stays", at(frozen, 0), 1);
        TowerService worse = laid("h3;p0,1,12,2;p0,2,12,1;w1,1;w2,1;");
        due("fewer than now", worse.swap(1), 1);
        TowerService idle = laid("h3;p0,1,12,2;p0,2,12,1;");
        due("no WORK", idle.swap(1) * 100 + idle.swap(0), 1);
    }

    private static void canReach() {
        of("CAN: each at most 2 STEPS from the next one");
        for (int far = 0; far <= 9; far++) {
            TowerService x = laid("h10;p0,9,12,30;p0," + (9 - far) + ",12,30;");
            int want = far == 0 ? 1 : far <= 2 ? 2 : NONE;
            due("down by " + far, x.can(9, 9 - far, 0), want);
            due("up by " + far, x.can(9 - far, 9, 0), want);
            due("down by " + far + ", the first", x.can(9, 9 - far, 1), want == NONE ? NONE : 0);
            due("up by " + far + ", the first", x.can(9 - far, 9, 1), want == NONE ? NONE : far == 0 ? 0 : 1);
        }
        TowerService all = laid("h10;p0,9,12,30;p0,7,12,30;p0,5,12,30;p0,3,12,30;p0,1,12,30;p0,0,12,30;");
        due("by all six", all.can(9, 0, 0), 6);
        due("up by all six", all.can(0, 9, 0), 6);
        due("nobody on the first", all.can(8, 0, 0), NONE);
        due("nobody on the last", all.can(9, 2, 1), NONE);
        due("nobody on either", all.can(8, 8, 0), NONE);
        dueBadBeyond("can a", 0, 5, n -> new TowerService().can(n, 0, 0));
        dueBadBeyond("can b", 0, 5, n -> new TowerService().can(0, n, 1));
        dueBadBeyond("can what", 0, 1, n -> new TowerService().can(5, 5, n));
    }

    private static void canOfTheSteady() {
        of("CAN: from PERSON to PERSON, none of them FROZEN or GONE; none");
        due("as much FEAR as NERVE", laid("h5;p0,4,12,0;p0,2,12,4;p0,0,12,8;").can(4, 0, 0), 3);
        due("the first is FROZEN", laid("h5;p0,3,12,1;p0,2,12,4;").can(3, 2, 0), NONE);
        due("one between is FROZEN", laid("h5;p0,4,12,0;p0,2,12,3;p0,0,12,8;").can(4, 0, 0), NONE);
        due("the last is FROZEN", laid("h5;p0,4,12,0;p0,2,12,4;p0,0,12,7;").can(4, 0, 0), NONE);
        due("one alone is FROZEN", laid("h5;p0,0,12,7;").can(0, 0, 0), NONE);
        TowerService gone = laid("h6;p3,0,12,0;p0,0,12,10;p0,5,12,30;");
        gone.pass(1);
        due("GONE is passed by", gone.can(0, 0, 1), 1);
        // GONE ones are often FROZEN as well; here a song would have carried the one who fell.
        TowerService carried = laid("h6;p3,0,12,0;p0,1,12,30;p0,1,12,30;p0,1,12,30;p0,1,12,30;p0,1,12,30;");
        carried.pass(1);
        for (int p = 1; p < 6; p++) {
            carried.promote(p);
        }
        due("it fell", carried.person(0, 6), 1);
        due("it has no FEAR now", carried.person(0, 4), 0);
        due("it passes nothing", carried.can(0, 0, 1), 1);
        due("nor is it there for a WORK", carried.promote(0), NO);
    }

    private static void canFewest() {
        of("CAN: the fewest PERSONS; the first one, of several the lowest");
        TowerService x = laid("h6;p0,5,12,30;p0,5,12,30;p0,4,12,30;p0,3,12,30;p0,2,12,30;p0,1,12,30;");
        due("5 to 1: by 3", x.can(5, 1, 0), 3);
        due("5 to 1: from 0", x.can(5, 1, 1), 0);
        due("5 to 2: by 3", x.can(5, 2, 0), 3);
        due("5 to 3: by 2", x.can(5, 3, 0), 2);
        due("5 to 5: by 1", x.can(5, 5, 0), 1);
        due("1 to 5: from 5", x.can(1, 5, 1), 5);
        TowerService first = laid("h6;p0,5,12,30;p0,4,12,1;p0,4,12,30;p0,4,12,30;");
        due("the lowest that is not FROZEN", first.can(4, 5, 1), 2);
    }

    // ---- 4: what was seen, chances, decades, kept

    private static void mostSeen() {
        of("SEEN (6 at most). BAD; FULL");
        TowerService x = new TowerService();
        for (int i = 1; i <= 6; i++) {
            due("seen no. " + i, x.seen(i - 1, i - 1, i % 2), i);
        }
        due("seen no. 7", x.seen(0, 0, 0), FULL);
        due("how many", x.count(7), 6);
        due("nothing of the seventh is SEEN", x.nerves(0, 1), 0);
        due("forget()", x.forget(), 6);
        due("forget() of nothing", x.forget(), 0);
        for (int i = 1; i <= 6; i++) {
            due("seen again no. " + i, x.seen(0, 0, 1), i);
        }
        due("seen again no. 7", x.seen(0, 0, 1), FULL);
        dueBadBeyond("seen p", 0, 5, n -> new TowerService().seen(n, 0, 0));
        dueBadBeyond("seen s", 0, 5, n -> new TowerService().seen(0, n, 1));
        dueBadBeyond("seen frozen", 0, 1, n -> new TowerService().seen(5, 5, n));
    }

    private static void seenByNow() {
        of("SEEN (by how all stands when that is asked, not when it was SEEN)");
        TowerService x = laid("h6;p3,5,24,4;p0,3,12,30;p2,5,24,2;");
        x.seen(0, 3, 1);
        due("4 less 2: 0 and 1", x.nerves(0, 0), 2);
        due("KINDS: shaky is not FROZEN with 4, none is", x.kinds(0), 0);
        x.hoist(1);
        due("4 of FEAR now: 0 to 3", x.nerves(0, 0), 4);
        x.seen(2, 5, 1);
        due("of 24, no FEAR", x.nerves(2, 0), 0);
        x.pass(1);
        due("of 25, 1 of FEAR: NERVE 0", x.nerves(2, 0), 1);
        x.undo();
        due("of 24 again", x.nerves(2, 0), 0);
        due("SEEN still", x.count(7), 2);
    }

    private static void nervesAll() {
        of("NERVES: NERVE (bits 0 to 30), in place of its own: how many; the least");
        for (int s = 0; s < 10; s++) {
            int fear = 18 - 2 * s;
            for (int frozen = 0; frozen <= 1; frozen++) {
                TowerService x = laid("h10;p0,9,12,7;p3,9,12,7;");
                x.seen(0, s, frozen);
                due("on " + s + ", " + frozen, x.nerves(0, 0), frozen == 1 ? fear : 31 - fear);
                due("on " + s + ", " + frozen + ", the least", x.nerves(0, 1), frozen == 0 ? fear : fear == 0 ? NONE : 0);
                due("of another", x.nerves(1, 0), 31);
                due("of another, the least", x.nerves(1, 1), 0);
            }
        }
        TowerService old = laid("h10;p2,9,60,0;");
        old.seen(0, 0, 0);
        int[] ages = {79, 80, 84, 85, 99};
        int[] many = {2, 1, 1, 0, 0};
        int year = 60;
        for (int i = 0; i < ages.length; i++) {
            old.pass(ages[i] - year);
            year = ages[i];
            due("bit 30 at " + year, old.nerves(0, 0), many[i]);
            due("the least at " + year, old.nerves(0, 1), many[i] == 0 ? NONE : 31 - many[i]);
        }
        old.forget();
        old.seen(0, 0, 1);
        due("FROZEN by each of 0 to 30", old.nerves(0, 0), 31);
        dueBadBeyond("nerves p", 0, 5, n -> new TowerService().nerves(n, 0));
        dueBadBeyond("nerves what", 0, 1, n -> new TowerService().nerves(5, n));
    }

    private static void nervesNone() {
        of("NERVES: by which all that is SEEN of it would be so: none (the least: NONE)");
        TowerService x = laid("h6;p0,5,12,8;");
        x.seen(0, 3, 1);
        x.seen(0, 2, 0);
        due("on 3 FROZEN, on 2 not", x.nerves(0, 0), 0);
        due("the least", x.nerves(0, 1), NONE);
        x.forget();
        x.seen(0, 3, 0);
        x.seen(0, 2, 1);
        due("on 3 not, on 2 FROZEN: 4 and 5", x.nerves(0, 0), 2);
        due("the least", x.nerves(0, 1), 4);
        // The last of six counts as well.
        x.forget();
        for (int i = 0; i < 5; i++) {
            x.seen(0, 3, 0);
        }
        x.seen(0, 3, 1);
        due("the sixth against five", x.nerves(0, 0), 0);
    }

    private static void kindsAll() {
        of("KINDS of one (bits of 0 to 3) likewise");
        // On 2 of 7, of 30: plain 8, bold 4, shaky 10, singing beside one 6.
        int[] fears = {8, 4, 10, 6};
        for (int own = 0; own < 4; own++) {
            for (int n = 0; n <= 12; n++) {
                TowerService x = laid("h7;p" + own + ",6,30," + n + ";p0,2,12,30;");
                due("nothing SEEN", x.kinds(0), 15);
                x.seen(0, 2, 1);
                int frozen = 0;
                for (int kind = 0; kind < 4; kind++) {
                    frozen |= fears[kind] > n ? 1 << kind : 0;
                }
                due("FROZEN with " + n, x.kinds(0), frozen);
                due("of another", x.kinds(1), 15);
                x.forget();
                x.seen(0, 2, 0);
                due("not FROZEN with " + n, x.kinds(0), 15 - frozen);
                x.seen(0, 2, 1);
                due("against itself", x.kinds(0), 0);
            }
        }
        dueBadBeyond("kinds", 0, 5, n -> new TowerService().kinds(n));
    }

    private static void likelyBounds() {
        of("LIKELY for m (0 to 5): x (0 to 10) of ten. BAD");
        dueBadBeyond("likely m", 0, 5, n -> new TowerService().likely(n, 10, 1));
        dueBadBeyond("likely x", 0, 10, n -> new TowerService().likely(5, n, 0));
        dueBadBeyond("likely part", 0, 1, n -> new TowerService().likely(0, 0, n));
        TowerService x = laid("h2;" + "p0,1,12,0;".repeat(4) + "w1,1;w1,2;w1,3;w1,4;w1,4;");
        for (int m = 0; m <= 5; m++) {
            due("all five are DONE, " + m + " or more", x.likely(m, 5, 0) * 10 + x.likely(m, 5, 1), 11);
        }
        TowerService four = laid("h2;" + "p0,1,12,0;".repeat(4) + "w1,1;w1,2;w1,3;w1,4;w0,1;");
        due("four of five", four.likely(4, 5, 0) * 10 + four.likely(4, 5, 1), 11);
        due("five are not", four.likely(5, 5, 0) * 10 + four.likely(5, 5, 1), 1);
        TowerService none = laid("p0,0,12,0;");
        due("no WORK, 0 or more", none.likely(0, 5, 0) * 10 + none.likely(0, 5, 1), 11);
        due("no WORK, 1 or more", none.likely(1, 5, 0) * 10 + none.likely(1, 5, 1), 1);
    }

    private static void likelyOfTen() {
        of("each PERSON that is FROZEN now FALLS by x (0 to 10) of ten, for itself");
        // The singer (4 of FEAR, 2 of NERVE) needs one of the FROZEN ones beside it.
        for (int frozen = 1; frozen <= 5; frozen++) {
            String crowd = "p0,0,12,0;".repeat(frozen);
            for (int x = 0; x <= 10; x++) {
                int all = power(10, frozen);
                int above = all - power(x, frozen);
                int shared = divisor(above, all);
                TowerService last = laid("h3;" + crowd + "p3,0,12,2;w0,1;");
                due(frozen + " FROZEN ahead of it, x " + x, last.likely(1, x, 0), above / shared);
                TowerService t = laid("h3;p3,0,12,2;" + crowd + "w0,1;");
                due(frozen + " FROZEN, x " + x + ", above", t.likely(1, x, 0), above / shared);
                due(frozen + " FROZEN, x " + x + ", below", t.likely(1, x, 1), all / shared);
                due("nobody fell", t.count(4), 0);
            }
        }
        // Who is FROZEN by 1 falls as well as who is FROZEN by 8; as much FEAR as NERVE is not FROZEN.
        TowerService by = laid("h3;p3,0,12,2;p0,0,12,3;w0,1;");
        due("FROZEN by 1", by.likely(1, 3, 0) * 100 + by.likely(1, 3, 1), 710);
        TowerService not = laid("h3;p3,0,12,2;p0,0,12,4;w0,1;");
        due("not FROZEN", not.likely(1, 3, 0) * 100 + not.likely(1, 3, 1), 101);
        TowerService gone = laid("h9;p0,0,12,8;p0,8,12,0;w8,1;");
        gone.pass(1);
        due("GONE", gone.likely(1, 3, 0) * 100 + gone.likely(1, 3, 1), 101);
    }

    private static int power(int base, int times) {
        int product = 1;
        for (int i = 0; i < times; i++) {
            product *= base;
        }
        return product;
    }

    private static int divisor(int a, int b) {
        return b == 0 ? a : divisor(b, a % b);
    }

    private static void lowestTerms() {
        of("how likely, in lowest terms: above (part = 0), below (1)");
        TowerService x = laid("h3;p3,0,12,2;p0,0,12,0;w0,1;");
        int[][] want = {{1, 1}, {9, 10}, {4, 5}, {7, 10}, {3, 5}, {1, 2}, {2, 5}, {3, 10}, {1, 5}, {1, 10}, {0, 1}};
        for (int n = 0; n <= 10; n++) {
            due("x " + n + ", above", x.likely(1, n, 0), want[n][0]);
            due("x " + n + ", below", x.likely(1, n, 1), want[n][1]);
        }
    }

    private static void decadeBounds() {
        of("A DECADE by z (0 to 9999) of n (1 to 60) YEARS. BAD");
        dueBadBeyond("decade z", 0, 9999, n -> new TowerService().decade(n, 60, 0));
        dueBadBeyond("decade n", 1, 60, n -> new TowerService().decade(9999, n, 1));
        dueBadBeyond("decade what", 0, 2, n -> new TowerService().decade(0, 1, n));
    }

    /** The same acts by calls of another object. */
    private static TowerService afterDecade(String text, int z, int n) {
        TowerService x = laid(text);
        long persons = x.count(1);
        for (int i = 0; i < n; i++) {
            long number = 7919L * z + 6151L * i + 1;
            long draw = number * number % 65521 / 2;
            int p = (int) (draw % persons);
            switch ((int) (draw / 8 % 6)) {
                case 0, 1 -> x.promote(p);
                case 2 -> x.hoist(p);
                case 3 -> x.call(p);
                default -> { }
            }
            x.pass(1);
        }
        return x;
    }

    private static void decadeAsCalls() {
        of("DECADE: ahead of each .. is PROMOTED .. HOISTED .. CALLED to, each if it can be (nothing changes by it)");
        String[] texts = {
            "h6;p0,5,12,8;p1,3,30,5;p2,4,25,6;p3,5,14,2;p3,5,13,3;p0,1,60,9;w5,2;w4,1;w3,1;w1,1;w0,1;",
            "h10;p2,0,24,11;p2,4,24,8;p3,4,12,3;p3,0,12,9;p0,5,12,1;w4,1;w0,2;",
            "h2;p0,1,12,0;w1,1;w0,1;",
            "h10;p1,0,60,0;p1,9,60,1;p3,9,60,0;w9,3;"};
        for (String text : texts) {
            for (int z : new int[] {0, 1, 2, 17, 4999, 9998, 9999}) {
                for (int n : new int[] {1, 2, 10, 59, 60}) {
                    TowerService then = afterDecade(text, z, n);
                    TowerService asked = laid(text);
                    int steps = 0;
                    for (int p = 0; p < then.count(1); p++) {
                        steps += then.person(p, 6) == 1 ? 0 : at(then, p);
                    }
                    due("decade(" + z + ", " + n + ", 0) of " + text, asked.decade(z, n, 0), then.count(4));
                    due("decade(" + z + ", " + n + ", 1) of " + text, asked.decade(z, n, 1), then.count(6));
                    due("decade(" + z + ", " + n + ", 2) of " + text, asked.decade(z, n, 2), steps);
                    due("the YEAR", asked.count(3), 0);
                    due("UNDONE", asked.count(8), 0);
                }
            }
        }
    }

    private static void decadeOfAYear() {
        of("DECADE: (DRAW by 8, cut) modulo 6 is 0 or 1, is PROMOTED, if 2, HOISTED, if 3, CALLED to");
        // Frozen by 8 it falls, unless it is hoisted (6 of FEAR) or called to by the one above (7 more FEAR).
        String text = "h5;p0,0,12,0;p0,4,12,0;";
        int[] met = new int[12];
        for (int z = 0; z < 100; z++) {
            long number = 7919L * z + 1;
            long draw = number * number % 65521 / 2;
            int p = (int) (draw % 2);
            int act = (int) (draw / 8 % 6);
            met[2 * act + p]++;
            TowerService x = laid(text);
            boolean isSaved = p == 0 && (act == 2 || act == 3);
            due("decade(" + z + ", 1, 0)", x.decade(z, 1, 0), isSaved ? 0 : 1);
            int steps = p == 1 && act < 2 ? 3 : p == 0 && act == 2 ? 5 : 4;
            due("decade(" + z + ", 1, 2)", x.decade(z, 1, 2), steps);
        }
        for (int i = 0; i < met.length; i++) {
            due("act " + i / 2 + " of " + i % 2 + " was met", met[i] > 0 ? 1 : 0, 1);
        }
    }

    private static void mostKept() {
        of("KEPT: 2 at most: how many. FULL; back: how many are left. NO");
        TowerService x = new TowerService();
        due("back() to nothing", x.back(), NO);
        due("the first", x.keep(), 1);
        due("the second", x.keep(), 2);
        due("the third", x.keep(), FULL);
        due("how many", x.count(9), 2);
        due("back()", x.back(), 1);
        due("how many", x.count(9), 1);
        due("again", x.keep(), 2);
        due("and not again", x.keep(), FULL);
        due("back()", x.back(), 1);
        due("back()", x.back(), 0);
        due("no more", x.back(), NO);
        due("how many", x.count(9), 0);
    }

    private static void keptAll() {
        of("KEPT is all as it stands, but THE TEXT and what is SEEN");
        String text = "p0,0,12,2;p0,4,30,2;p0,5,12,0;";
        TowerService x = laid(text);
        x.keep();
        x.call(1);
        x.promote(1);
        x.pass(1);
        x.call(2);
        x.keep();
        x.hoist(1);
        x.hoist(1);
        x.pass(30);
        x.call(1);
        x.wipe();
        x.seen(1, 3, 1);
        due("back()", x.back(), 1);
        int[][] last = {{0, 0, 13, 2, 10, 0, 1, 0}, {0, 3, 31, 2, 4, 1, 0, 1}, {0, 5, 13, 1, 0, 0, 0, 0}};
        int[][] first = {{0, 0, 12, 2, 10, 1, 0, 1}, {0, 4, 30, 2, 2, 0, 0, 1}, {0, 5, 12, 0, 0, 0, 0, 1}};
        for (int p = 0; p < 3; p++) {
            for (int what = 0; what < 8; what++) {
                due("last, person(" + p + ", " + what + ")", x.person(p, what), last[p][what]);
            }
        }
        due("the YEAR", x.count(3), 1);
        due("letters, as they are now", x.count(10), 0);
        due("SEEN, as it is now", x.count(7), 1);
        add(x, "w");
        x.forget();
        due("back() again", x.back(), 0);
        for (int p = 0; p < 3; p++) {
            for (int what = 0; what < 8; what++) {
                due("first, person(" + p + ", " + what + ")", x.person(p, what), first[p][what]);
            }
        }
        due("the YEAR", x.count(3), 0);
        due("letters, as they are now", x.count(10), 1);
        due("SEEN, as it is now", x.count(7), 0);
    }

    private static void backUndoesNothing() {
        of("As KEPT last (it is KEPT no more then); nothing is UNDONE then");
        TowerService x = new TowerService();
        x.promote(0);
        x.pass(1);
        x.keep();
        for (int i = 0; i < 9; i++) {
            x.pass(1);
        }
        due("what can be UNDONE", x.count(8), 8);
        x.back();
        due("nothing", x.count(8), 0);
        due("undo()", x.undo(), NO);
        due("the YEAR", x.count(3), 1);
        due("STEP", at(x, 0), 4);
        for (int i = 1; i <= 9; i++) {
            x.pass(1);
            due("from then on", x.count(8), Math.min(i, 8));
        }
        for (int left = 7; left >= 0; left--) {
            due("undo()", x.undo(), left);
        }
        due("the YEAR", x.count(3), 2);
        due("no more", x.undo(), NO);
        due("KEPT no more", x.back(), NO);
    }

    private static void counts() {
        of("count: 0 to 10. BAD");
        dueBadBeyond("count", 0, 10, n -> new TowerService().count(n));
        dueBadBeyond("person what", 0, 7, n -> new TowerService().person(5, n));
        dueBadBeyond("work what", 0, 2, n -> new TowerService().work(4, n));
        TowerService x = laid("h10;" + "p0,0,12,0;".repeat(5) + "p0,9,12,0;" + "w9,1;".repeat(5));
        due("FROZEN", x.count(5), 5);
        due("WORKS DONE", x.count(6), 5);
        x.pass(1);
        due("GONE", x.count(4), 5);
        due("FROZEN", x.count(5), 0);
        due("PERSONS, as told", x.count(1), 6);
        due("WORKS DONE", x.count(6), 5);
    }

    private static void badFirst() {
        of("BAD, NO, NONE, FULL: Of several the first in this order");
        TowerService full = new TowerService();
        for (int i = 0; i < 200; i++) {
            full.write('p');
        }
        due("write(31), full", full.write(31), BAD);
        due("write(127), full", full.write(127), BAD);
        for (int i = 0; i < 6; i++) {
            full.seen(0, 0, 0);
        }
        due("seen(6, 0, 0), full", full.seen(6, 0, 0), BAD);
        due("seen(0, 6, 0), full", full.seen(0, 6, 0), BAD);
        due("seen(0, 0, 2), full", full.seen(0, 0, 2), BAD);
        TowerService last = new TowerService();
        passAll(last, 999);
        for (int n : new int[] {0, 41, -1, LOW, HIGH}) {
            due("pass(" + n + ") in 999", last.pass(n), BAD);
        }
        TowerService gone = laid("h9;p0,0,12,0;");
        gone.pass(1);
        for (int p : new int[] {-1, 1, LOW, HIGH}) {
            due("promote(" + p + "), all GONE", gone.promote(p), BAD);
            due("hoist(" + p + "), all GONE", gone.hoist(p), BAD);
            due("call(" + p + "), all GONE", gone.call(p), BAD);
            due("lowest(" + p + "), all GONE", gone.lowest(p), BAD);
        }
        due("posting(1), all GONE", gone.posting(1), BAD);
        due("swap(2), none", gone.swap(2), BAD);
        due("can(0, 0, 2), none", gone.can(0, 0, 2), BAD);
        due("can(0, 9, 0), none", gone.can(0, 9, 0), BAD);
        TowerService none = laid("h4;p0,0,12,0;");
        due("posting(1), none", none.posting(1), BAD);
        due("posting(-2), none", none.posting(-2), BAD);
        none.seen(0, 3, 1);
        due("nerves(0, 1), none", none.nerves(0, 1), NONE);
        due("nerves(0, 2), none", none.nerves(0, 2), BAD);
        due("nerves(1, 1), none", none.nerves(1, 1), BAD);
        due("timetable(5, 3)", none.timetable(5, 3), BAD);
        due("timetable(1, 4)", none.timetable(1, 4), BAD);
    }

    private static void suchAsThereAre() {
        of("BAD: a number is none that is told (PERSONS, WORKS, STEPS: such as there are)");
        for (int persons = 1; persons <= 6; persons++) {
            TowerService x = laid(PERSON.repeat(persons));
            duePersons(x, persons);
        }
        for (int works = 1; works <= 5; works++) {
            TowerService x = laid(PERSON + WORK.repeat(works));
            dueBadBeyond("work of " + works, 0, works - 1, n -> x.work(n, 0));
        }
        TowerService idle = laid(PERSON);
        for (int n : new int[] {-1, 0, 1, 4, 5, LOW, HIGH}) {
            due("work(" + n + ", 0) of none", idle.work(n, 0), BAD);
        }
        for (int h = 2; h <= 10; h++) {
            TowerService x = laid("h" + h + ";" + PERSON);
            dueBadBeyond("fear on " + h, 0, h - 1, n -> x.fear(0, n));
            dueBadBeyond("can from " + h, 0, h - 1, n -> x.can(n, 0, 0));
            dueBadBeyond("can to " + h, 0, h - 1, n -> x.can(0, n, 0));
            dueBadBeyond("seen on " + h, 0, h - 1, n -> x.seen(0, n, 0));
        }
        TowerService x = laid("h10;" + PERSON.repeat(6) + WORK.repeat(5));
        x.wipe();
        add(x, "h2;" + PERSON);
        x.lay();
        duePersons(x, 1);
        due("a WORK there was", x.work(0, 0), BAD);
        due("a STEP there was", x.fear(0, 2), BAD);
        TowerService gone = laid("h10;" + PERSON.repeat(6));
        gone.pass(1);
        duePersons(gone, 6);
    }

    private static void duePersons(TowerService x, int persons) {
        int last = persons - 1;
        dueBadBeyond("person of " + persons, 0, last, n -> x.person(n, 0));
        dueBadBeyond("fear of " + persons, 0, last, n -> x.fear(n, 0));
        dueBadBeyond("promote of " + persons, 0, last, n -> x.promote(n));
        dueBadBeyond("hoist of " + persons, 0, last, n -> x.hoist(n));
        dueBadBeyond("call of " + persons, 0, last, n -> x.call(n));
        dueBadBeyond("behind of " + persons, 0, last, n -> x.behind(0, n, 0));
        dueBadBeyond("lowest of " + persons, 0, last, n -> x.lowest(n));
        dueBadBeyond("posting of " + persons, -1, last, n -> x.posting(n));
        dueBadBeyond("seen of " + persons, 0, last, n -> x.seen(n, 0, 0));
        dueBadBeyond("nerves of " + persons, 0, last, n -> x.nerves(n, 0));
        dueBadBeyond("kinds of " + persons, 0, last, n -> x.kinds(n));
    }

    private static void theLastCall() {
        of("An object is used for at most 512 calls after it has been made");
        TowerService x = new TowerService();
        for (int i = 1; i <= 511; i++) {
            due("call no. " + i, i % 2 == 1 ? x.promote(0) : x.hoist(0), i % 2 == 1 ? 4 : 5);
        }
        due("call no. 512", x.count(8), 8);
    }
}

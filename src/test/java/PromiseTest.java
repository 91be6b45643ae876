/** For each promise of the document: ordinary calls, the edges that it names, and wrong calls. */
public final class PromiseTest {
    private static final int NONE = WordRation.NONE;
    private static final int UNKNOWN = WordRation.UNKNOWN;
    private static final int OUTSIDE = WordRation.OUTSIDE;
    private static final int NOT = WordRation.NOT;
    private static final int FULL = WordRation.FULL;
    private static final int[] FAR_OFF = {Integer.MIN_VALUE, -1000000005, -3, 100000, Integer.MAX_VALUE};

    /** Four words, three ways round, an honest person and a liar, five needs. */
    private static final String VILLAGE = "y5;w2 5 1;w1 9 2;w0 3 1;w3 1 2;a0 6;a0 8;a2 9;o1;p1;p0;"
            + "n0 0 0 20;n1 0 0 10;n0 2 1 30;n1 1 1 5;n0 0 4 7;";

    private static final Check CHECK = new Check();

    private PromiseTest() { }

    public static void main(String[] args) {
        constants();
        newObject();
        feed();
        town();
        townForgets();
        faultOfOneClause();
        faultOfManyClauses();
        told();
        word();
        hoarded();
        need();
        day();
        dayCounts();
        say();
        around();
        point();
        hoard();
        sell();
        raise();
        drift();
        undo();
        undoIsWhole();
        cheapest();
        cheapestInCircles();
        runsOut();
        willBe();
        plan();
        planOfLikeOnes();
        price();
        sells();
        share();
        more();
        fire();
        rhymes();
        silent();
        knot();
        who();
        ask();
        write();
        tear();
        judge();
        seed();
        keep();
        goBack();
        fullTown();
        lesserTownBehindAFullOne();
        wrongNumbersEverywhere();
        CHECK.end("PromiseTest");
    }

    private static void due(String call, long answered, long due) {
        CHECK.due(call, answered, due);
    }

    private static WordRation fed(String text) {
        return feed(new WordRation(), text);
    }

    private static WordRation feed(WordRation x, String text) {
        for (int i = 0; i < text.length(); i++) {
            due("feed of letter " + i + " of " + text, x.feed(text.charAt(i)), i + 1);
        }
        return x;
    }

    private static WordRation townOf(String text) {
        WordRation x = fed(text);
        due("town of " + text, Math.min(-1, x.town()), -1);
        due("fault of " + text, x.fault(), NONE);
        return x;
    }

    // Promise 1
    private static void newObject() {
        WordRation x = new WordRation();
        for (int what = 0; what <= 15; what++) {
            due("new: told(" + what + ")", x.told(what), 0);
        }
        due("new: fault", x.fault(), NONE);
        due("new: word", x.word(0, 0), UNKNOWN);
        due("new: hoarded", x.hoarded(0, 0), UNKNOWN);
        due("new: need", x.need(0, 0), UNKNOWN);
        due("new: day", x.day(1), NOT);
        due("new: drift", x.drift(1), NOT);
        due("new: undo", x.undo(), NOT);
        due("new: willBe", x.willBe(1), NOT);
        due("new: plan", x.plan(NONE), 0);
        due("new: plan of words", x.plan(-2), 0);
        due("new: plan of a need", x.plan(0), UNKNOWN);
        due("new: rhymes", x.rhymes(NONE), 0);
        due("new: who", x.who(), 0);
        due("new: ask", x.ask(), NONE);
        due("new: judge", x.judge(), NONE);
        due("new: goBack", x.goBack(0), NOT);
        due("new: seed", x.seed(0), 0);
    }

    private static void constants() {
        due("NONE", WordRation.NONE, -1);
        due("UNKNOWN", WordRation.UNKNOWN, -1000000001);
        due("OUTSIDE", WordRation.OUTSIDE, -1000000002);
        due("NOT", WordRation.NOT, -1000000003);
        due("FULL", WordRation.FULL, -1000000004);
    }

    // Promise 2
    private static void feed() {
        WordRation x = new WordRation();
        due("feed(-1)", x.feed(-1), OUTSIDE);
        due("feed(256)", x.feed(256), OUTSIDE);
        due("feed(0)", x.feed(0), 1);
        due("feed(255)", x.feed(255), 2);
        for (int i = 3; i <= 240; i++) {
            due("feed " + i, x.feed(' '), i);
        }
        due("feed of a full text", x.feed(' '), FULL);
        due("feed(256) of a full text", x.feed(256), OUTSIDE);
        due("letters of a full text", x.told(5), 240);
        due("town of it", x.town(), -11);
        due("feed goes on", x.feed('y'), 1);
    }

    // Promise 3
    private static void town() {
        due("town of nothing", new WordRation().town(), 0);
        due("town of blanks", fed("   ").town(), 0);
        due("town of a year alone", fed("y5;").town(), 0);
        due("town of one word", fed("y5;w1 1 1;").town(), 1);
        due("town of eight", fed("y5;" + "w1 1 1;".repeat(8)).town(), 8);
        WordRation x = townOf(VILLAGE);
        due("the text is empty then", x.told(5), 0);
        x.knot(0, 0, true);
        x.write(0, 1);
        x.say(0, 0);
        x.keep(1);
        x.say(0, 0);
        feed(x, "y5;w1 x");
        due("town with a fault", x.town(), -11);
        due("the text is empty then, too", x.told(5), 0);
        due("its words are as they were", x.told(1), 4);
        due("what was said is as it was", x.word(0, 5), 2);
        due("knots are as they were", x.told(13), 1);
        due("the book is as it was", x.told(14), 1);
        due("undone can be what could be", x.undo(), 0);
        due("the image is as it was", x.goBack(1), 1);
    }

    private static void townForgets() {
        WordRation x = townOf(VILLAGE);
        x.seed(77);
        x.day(7);
        x.point(1);
        x.raise(0, 5);
        x.hoard(0, 0, 2);
        x.hoard(1, 3, 1);
        x.knot(0, 0, true);
        x.write(0, 1);
        x.keep(0);
        x.say(0, 0);
        feed(x, VILLAGE);
        due("town again", x.town(), 4);
        int[] told = {5, 4, 3, 2, 5, 0, 0, 0, 0, 0, 0, 0, 15, 0, 0, 0};
        for (int what = 0; what < told.length; what++) {
            due("town again: told(" + what + ")", x.told(what), told[what]);
        }
        due("limit again", x.word(0, 0), 2);
        due("left again", x.word(0, 3), 2);
        due("hoarded again", x.hoarded(0, 0) + x.hoarded(1, 3), 0);
        due("image gone", x.goBack(0), NOT);
        due("undo gone", x.undo(), NOT);
        due("the seed stays", x.seed(1), 77);
        feed(x, VILLAGE);
        due("town for the third time", x.town(), 4);
        due("its ways", x.told(2), 3);
        due("its needs", x.told(4), 5);
        x.say(0, 0);
        due("town of nothing", x.town(), 0);
        due("no town: days of a year", x.told(0), 0);
        due("no town: never", x.told(12), 0);
        due("no town: word", x.word(0, 0), UNKNOWN);
        due("no town: person", x.hoarded(0, 0), UNKNOWN);
        due("no town: undo", x.undo(), NOT);
        due("no town: day", x.day(1), NOT);
    }

    // Promise 4
    private static void fault(String text, int fault, int place) {
        WordRation x = fed(text);
        int answer = x.town();
        due("town of '" + text + "'", Math.min(0, answer), fault == 0 ? 0 : -10 - fault);
        due("fault of '" + text + "'", x.fault(), place);
    }

    private static void faultOfOneClause() {
        fault("", 0, NONE);
        fault("  ", 0, NONE);
        fault(" y 5 ; w 1  1 1 ; ", 0, NONE);
        fault("y005;w000 001 009;", 0, NONE);
        fault("y99;w99 99 9;w0 1 0;a0 2;p1;n0 0 98 99;", 0, NONE);
        fault("x", 1, 0);
        fault("Y5;", 1, 0);
        fault(";", 1, 0);
        fault("5", 1, 0);
        fault(" " + (char) 0, 1, 1);
        fault(" " + (char) 255, 1, 1);
        for (char first : "waopn".toCharArray()) {
            fault(first + "1 1 1;", 1, 0);
        }
        fault("y", 1, 1);
        fault("y ", 1, 2);
        fault("y5", 1, 2);
        fault("y5  ", 1, 4);
        fault("y5;" + " ".repeat(237), 0, NONE);
        fault("y5" + " ".repeat(238), 1, 240);
        fault(" ".repeat(238) + "y5", 1, 240);
        fault(" ".repeat(239) + "y", 1, 240);
        fault("yy", 1, 1);
        fault("y5 5;", 1, 3);
        fault("y5;;", 1, 3);
        fault("y5;5", 1, 3);
        fault("y5x", 1, 2);
        fault("y-5;", 1, 1);
        fault("y0;", 2, 1);
        fault("y 100;", 2, 2);
        fault("y0005;", 2, 1);
        fault("y4294967297;", 2, 1);
        fault("y1000", 2, 1);
        fault("y5;w100 1 1;", 2, 4);
        fault("y5;w1 0 1;", 2, 6);
        fault("y5;w1 100 1;", 2, 6);
        fault("y5;w1 1 10;", 2, 8);
        fault("y5;w1 1;", 1, 7);
        fault("y5;w1 1 1", 1, 9);
        fault("y5;w1 1 1 1;", 1, 10);
        fault("y5;w111;", 2, 4);
        fault("y5;w11;", 1, 6);
        fault("y5;p2;", 2, 4);
        fault("y5;p;", 1, 4);
    }

    private static void faultOfManyClauses() {
        String two = "y5;w0 1 0;w0 1 0;";
        fault("y5;y5;", 3, 3);
        fault("y5;  y", 3, 5);
        fault("y5;" + "w0 1 0;".repeat(8) + "w", 3, 59);
        fault("y5;w0 1 0;a1 1;", 2, 11);
        fault("y5;a0 1;", 2, 4);
        fault(two + "a0 0;", 2, 20);
        fault(two + "a0 1;", 2, 20);
        fault(two + "a0 3;", 2, 20);
        fault(two + "a0 4;", 2, 20);
        fault(two + "a0 256;", 2, 20);
        fault(two + "a1 2;", 2, 20);
        fault(two + "a0 2;a0 2;a1 1;a1 1;", 0, NONE);
        fault(two + "a0 2;a0 2;a0 9;", 4, 28);
        fault(two + "a0 2;a0 2;a 0", 4, 29);
        fault(two + "a0 2;a1 1;a0;", 1, 29);
        String ways = "y5;" + "w0 1 0;".repeat(6) + "a0 2;a0 2;a1 1;a1 1;a2 1;a2 1;a3 1;a3 1;a4 1;a4 1;";
        fault(ways, 0, NONE);
        fault(ways + "a", 3, 95);
        fault(ways + "a0 2;", 3, 95);
        fault(two + "o0;o1;", 0, NONE);
        fault(two + "o0;o0;", 4, 21);
        fault(two + "o2;", 2, 18);
        fault("y5;p1;p0;p1;p0;p1;", 0, NONE);
        fault("y5;p1;p0;p1;p0;p1;p", 3, 18);
        String one = "y5;w0 1 0;p1;";
        fault("y5;w0 1 0;n0 0 0 0;", 2, 11);
        fault(one + "n1 0 0 0;", 2, 14);
        fault(one + "n0 1 0 0;", 2, 16);
        fault(one + "n0 0 5 0;", 2, 18);
        fault(one + "n0 0 4 100;", 2, 20);
        fault(one + "n0 0 4 0;".repeat(8), 0, NONE);
        fault(one + "n0 0 4 0;".repeat(8) + "n", 3, 85);
        WordRation x = fed("y0;");
        due("a fault", x.town(), -12);
        due("its place", x.fault(), 1);
        feed(x, "y1;");
        due("its place still", x.fault(), 1);
        due("no fault", x.town(), 0);
        due("no place", x.fault(), NONE);
        // what a faulty text told must not show in the next town
        feed(x, "y5;w0 1 0;w0 1 0;o0;a0 2;p1;n0 0 0 0;x");
        due("fault at the end", x.town(), -11);
        feed(x, "y5;w0 1 0;w0 1 0;p0;");
        due("a lesser town", x.town(), 2);
        due("no way from the faulty text", x.word(0, 6), 0);
        due("no pointing from the faulty text", x.word(0, 8), 0);
        due("no need from the faulty text", x.told(4), 0);
        due("no honest one from the faulty text", x.who(), 1);
        due("not honest", x.knot(0, 0, true), 1);
        due("a liar said what it had no need of", x.who(), 1);
    }

    // Promise 5
    private static void told() {
        WordRation x = townOf(VILLAGE);
        x.feed('y');
        x.say(0, 1);
        x.day(5);
        x.day(2);
        x.knot(0, 0, true);
        x.write(0, 0);
        x.write(0, 1);
        // the first year: its day 1 has w1 by pointing; word 2 is lost; then two days of the second
        int[] told = {5, 4, 3, 2, 5, 1, 7, 2, 7, 2, 60, 1, 4, 1, 2, 3};
        for (int what = 0; what < told.length; what++) {
            due("told(" + what + ")", x.told(what), told[what]);
        }
        due("told(-1)", x.told(-1), OUTSIDE);
        due("told(16)", x.told(16), OUTSIDE);
    }

    // Promise 6
    private static void word() {
        WordRation x = townOf(VILLAGE);
        x.raise(0, 3);
        x.hoard(0, 0, 2);
        x.hoard(1, 0, 1);
        x.say(0, 0);
        int[] of0 = {5, 5, 1, 2, 2, 1, 6, 8, 0};
        int[] of1 = {1, 9, 2, 1, 0, 0, 0, 0, 1};
        int[] of2 = {0, 3, 1, 0, 0, 0, 9, 0, 0};
        for (int what = 0; what <= 8; what++) {
            due("word(0, " + what + ")", x.word(0, what), of0[what]);
            due("word(1, " + what + ")", x.word(1, what), of1[what]);
            due("word(2, " + what + ")", x.word(2, what), of2[what]);
        }
        due("word(4, 0)", x.word(4, 0), UNKNOWN);
        due("word(-1, 9)", x.word(-1, 9), UNKNOWN);
        due("word(0, -1)", x.word(0, -1), OUTSIDE);
        due("word(0, 9)", x.word(0, 9), OUTSIDE);
    }

    // Promise 7
    private static void hoarded() {
        WordRation x = townOf(VILLAGE);
        x.hoard(1, 3, 2);
        due("hoarded(1, 3)", x.hoarded(1, 3), 2);
        due("hoarded(0, 3)", x.hoarded(0, 3), 0);
        due("hoarded(1, 0)", x.hoarded(1, 0), 0);
        due("hoarded(2, 0)", x.hoarded(2, 0), UNKNOWN);
        due("hoarded(-1, 0)", x.hoarded(-1, 0), UNKNOWN);
        due("hoarded(0, 4)", x.hoarded(0, 4), UNKNOWN);
        due("hoarded(0, -1)", x.hoarded(0, -1), UNKNOWN);
    }

    // Promise 8
    private static void need() {
        WordRation x = townOf(VILLAGE);
        int[] of2 = {0, 2, 1, 30, 1};
        for (int what = 0; what <= 4; what++) {
            due("need(2, " + what + ")", x.need(2, what), of2[what]);
        }
        due("need(1, 0)", x.need(1, 0), 1);
        x.day(1);
        due("a need of the day that is over", x.need(0, 4), 0);
        due("a need of this day", x.need(2, 4), 1);
        x.day(1);
        due("that is over, too", x.need(2, 4), 0);
        x.day(3);
        due("it is to come in the next year again", x.need(2, 4), 1);
        due("need(5, 0)", x.need(5, 0), UNKNOWN);
        due("need(-1, 9)", x.need(-1, 9), UNKNOWN);
        due("need(0, -1)", x.need(0, -1), OUTSIDE);
        due("need(0, 5)", x.need(0, 5), OUTSIDE);
    }

    // Promise 9
    private static void day() {
        WordRation x = townOf(VILLAGE);
        due("day(1)", x.day(1), 1);
        due("met by its word", x.told(8), 2);
        due("said", x.word(0, 5), 2);
        due("left", x.word(0, 3), 0);
        due("day(1)", x.day(1), 2);
        due("lost: its way has a word that is gone", x.told(9), 1);
        due("lost by worth", x.told(10), 30);
        due("met", x.told(8), 3);
        x.hoard(0, 3, 1);
        due("day(2)", x.day(2), 4);
        due("day(1), the last", x.day(1), 5);
        due("met by its second way", x.told(8), 4);
        due("the way's word was said", x.word(3, 5), 1);
        due("limits are left again", x.word(0, 3), 2);
        due("limits are left again", x.word(3, 3), 3);
        x.hoard(0, 0, 2);
        x.hoard(1, 3, 3);
        x.day(4);
        due("one is still hoarded", x.hoarded(0, 0), 1);
        due("one of the way to the other's word is not", x.hoarded(1, 3), 2);
        x.day(1);
        due("nobody has hoarded any", x.hoarded(0, 0), 0);
        due("nobody has hoarded any", x.hoarded(1, 3), 0);
        due("limits are left again", x.word(0, 3), 2);
        due("day(60)", x.day(60), 70);
        due("day(0)", x.day(0), OUTSIDE);
        due("day(61)", x.day(61), OUTSIDE);
        due("day(61) of no town", new WordRation().day(61), OUTSIDE);
        due("day(60) of no town", new WordRation().day(60), NOT);
        // a hoarded one goes first; the word before its way, the first way before the second
        WordRation y = townOf("y3;w1 1 0;w1 1 0;w1 1 0;a0 2;a0 4;o0;p1;" + "n0 0 0 1;".repeat(4));
        y.hoard(0, 1, 1);
        y.day(1);
        due("all are met", y.told(8), 4);
        due("none is left", y.word(0, 3) + y.word(1, 3) + y.word(2, 3), 0);
        due("the hoarded one went", y.hoarded(0, 1), 0);
        due("one pointed only then", y.told(11), 1);
        WordRation z = townOf("y3;w0 1 0;w0 1 0;w5 1 0;a1 4;a1 4;p1;n0 0 0 9;n0 1 0 1;");
        z.day(1);
        due("the next word's way is no way round this one", z.told(10), 9);
        due("it is one round the next", z.told(8), 1);
    }

    private static void dayCounts() {
        WordRation x = townOf("y1;w0 1 0;p1;" + "n0 0 0 99;".repeat(8));
        for (int i = 1; i <= 21; i++) {
            due("day(60)", x.day(60), 60 * i);
        }
        due("lost by worth", x.told(10), 997920);
        x.day(2);
        due("lost by worth", x.told(10), 999504);
        x.day(1);
        due("lost by worth, at most", x.told(10), 999999);
        due("lost", x.told(9), 8 * 1263);
        due("the day of the year", x.told(7), 0);
        x.day(57);
        for (int i = 23; i <= 150; i++) {
            x.day(60);
        }
        due("days", x.told(6), 9000);
        due("9000 are not above", x.day(60), 9060);
        due("9060 are", x.day(1), FULL);
        due("9060 are", x.drift(1), FULL);
        due("day(0) then", x.day(0), OUTSIDE);
        due("undo", x.undo(), 15);
        due("9000 are not above", x.drift(1), 9001 * 8);
        due("9001 are", x.day(1), FULL);
    }

    // Promise 10
    private static void say() {
        WordRation x = townOf(VILLAGE);
        due("say(0, 3)", x.say(0, 3), 2);
        x.hoard(0, 3, 1);
        due("hoarded first", x.say(0, 3), 1);
        due("none hoarded", x.hoarded(0, 3), 0);
        due("one left", x.word(3, 3), 1);
        due("said", x.word(3, 5), 2);
        x.hoard(0, 3, 1);
        due("what another hoarded one cannot say", x.say(1, 3), NOT);
        due("it itself can", x.say(0, 3), 0);
        due("no more", x.say(0, 3), NOT);
        due("say(0, 2)", x.say(0, 2), NOT);
        due("never said", x.told(12), 7);
        due("refused ones cannot be undone", x.told(15), 5);
        due("say(2, 0)", x.say(2, 0), UNKNOWN);
        due("say(-1, 0)", x.say(-1, 0), UNKNOWN);
        due("say(0, 4)", x.say(0, 4), UNKNOWN);
        due("say(0, -1)", x.say(0, -1), UNKNOWN);
    }

    // Promise 11
    private static void around() {
        WordRation x = townOf(VILLAGE);
        due("a word of it is not left", x.around(0, 0, 0), NOT);
        due("around(0, 0, 1)", x.around(0, 0, 1), 8);
        due("its word was said", x.word(3, 5), 1);
        due("the word itself was not", x.word(0, 5), 0);
        due("around(1, 2, 0)", x.around(1, 2, 0), 9);
        due("both were said", x.told(12), 6);
        due("around(1, 2, 0)", x.around(1, 2, 0), 9);
        due("not any more", x.around(1, 2, 0), NOT);
        due("no second way", x.around(0, 2, 1), NOT);
        due("no way", x.around(0, 1, 0), NOT);
        due("around(0, 0, 2)", x.around(0, 0, 2), OUTSIDE);
        due("around(0, 0, -1)", x.around(0, 0, -1), OUTSIDE);
        due("around(2, 0, 2)", x.around(2, 0, 2), UNKNOWN);
        due("around(0, 4, 2)", x.around(0, 4, 2), UNKNOWN);
        due("around(-1, 0, 0)", x.around(-1, 0, 0), UNKNOWN);
        due("around(0, -1, 0)", x.around(0, -1, 0), UNKNOWN);
        // one word hoarded by who goes, one left; another cannot go
        WordRation y = townOf("y5;w0 1 0;w1 1 0;w1 1 0;a0 6;p1;p1;");
        y.hoard(0, 1, 1);
        due("another hoarded it", y.around(1, 0, 0), NOT);
        due("nothing was said", y.told(12), 7);
        due("hoarded and left", y.around(0, 0, 0), 6);
        due("the hoarded one went", y.hoarded(0, 1), 0);
        due("the left one went", y.word(2, 3), 0);
    }

    // Promise 12
    private static void point() {
        WordRation x = townOf(VILLAGE + "o3;");
        due("point(1)", x.point(1), 1);
        due("point(3)", x.point(3), 2);
        due("nothing goes", x.word(1, 3), 1);
        due("nothing is said", x.told(12), 15);
        due("told", x.told(11), 2);
        due("point(0)", x.point(0), NOT);
        due("point(4)", x.point(4), UNKNOWN);
        due("point(-1)", x.point(-1), UNKNOWN);
        due("undo", x.undo(), 1);
        due("told", x.told(11), 1);
    }

    // Promise 13
    private static void hoard() {
        WordRation x = townOf(VILLAGE);
        due("hoard(0, 3, 1)", x.hoard(0, 3, 1), 1);
        due("hoard(0, 3, 1)", x.hoard(0, 3, 1), 2);
        due("left", x.word(3, 3), 1);
        due("limit", x.word(3, 0), 3);
        due("hoard(0, 3, 2)", x.hoard(0, 3, 2), NOT);
        due("hoard(1, 3, 1)", x.hoard(1, 3, 1), 1);
        due("by all", x.word(3, 4), 3);
        due("hoard(0, 3, 0)", x.hoard(0, 3, 0), OUTSIDE);
        due("hoard(0, 3, 100)", x.hoard(0, 3, 100), OUTSIDE);
        due("hoard(0, 3, 99)", x.hoard(0, 3, 99), NOT);
        due("hoard(0, 3, -1)", x.hoard(0, 3, -1), OUTSIDE);
        due("hoard(2, 3, 0)", x.hoard(2, 3, 0), UNKNOWN);
        due("hoard(0, 4, 0)", x.hoard(0, 4, 0), UNKNOWN);
        due("hoard(-1, 3, 1)", x.hoard(-1, 3, 1), UNKNOWN);
        due("hoard(0, -1, 1)", x.hoard(0, -1, 1), UNKNOWN);
        due("all 99", townOf("y1;w99 1 0;p1;").hoard(0, 0, 99), 99);
    }

    // Promise 14
    private static void sell() {
        WordRation x = townOf(VILLAGE);
        x.hoard(0, 3, 3);
        due("sell(0, 1, 3, 2)", x.sell(0, 1, 3, 2), 2);
        due("what is still the seller's", x.hoarded(0, 3), 1);
        due("sell(0, 1, 3, 2)", x.sell(0, 1, 3, 2), NOT);
        due("sell(0, 1, 3, 1)", x.sell(0, 1, 3, 1), 3);
        due("sell(1, 0, 3, 3)", x.sell(1, 0, 3, 3), 3);
        due("left ones are not sold", x.sell(0, 1, 0, 1), NOT);
        due("sell(0, 0, 3, 1)", x.sell(0, 0, 3, 1), UNKNOWN);
        due("sell(0, 0, 3, 0)", x.sell(0, 0, 3, 0), UNKNOWN);
        due("sell(0, 2, 3, 1)", x.sell(0, 2, 3, 1), UNKNOWN);
        due("sell(2, 0, 3, 1)", x.sell(2, 0, 3, 1), UNKNOWN);
        due("sell(-1, 0, 3, 1)", x.sell(-1, 0, 3, 1), UNKNOWN);
        due("sell(0, -1, 3, 1)", x.sell(0, -1, 3, 1), UNKNOWN);
        due("sell(0, 1, 4, 1)", x.sell(0, 1, 4, 1), UNKNOWN);
        due("sell(0, 1, -1, 0)", x.sell(0, 1, -1, 0), UNKNOWN);
        due("sell(0, 1, 3, 0)", x.sell(0, 1, 3, 0), OUTSIDE);
        due("sell(0, 1, 3, -1)", x.sell(0, 1, 3, -1), OUTSIDE);
        due("sell(0, 1, 3, 100)", x.sell(0, 1, 3, 100), OUTSIDE);
        due("sell(0, 1, 3, 99)", x.sell(0, 1, 3, 99), NOT);
        due("all sold ones are there", x.word(3, 4), 3);
    }

    // Promise 15
    private static void raise() {
        WordRation x = townOf(VILLAGE);
        x.say(0, 0);
        due("raise(0, 3)", x.raise(0, 3), 5);
        due("left", x.word(0, 3), 4);
        due("raise(0, 95)", x.raise(0, 95), NOT);
        due("raise(0, 94)", x.raise(0, 94), 99);
        due("raise(0, 1)", x.raise(0, 1), NOT);
        due("raise(0, 0)", x.raise(0, 0), OUTSIDE);
        due("raise(0, 100)", x.raise(0, 100), OUTSIDE);
        due("raise(4, 1)", x.raise(4, 1), UNKNOWN);
        due("raise(-1, 0)", x.raise(-1, 0), UNKNOWN);
        due("raise(2, 99)", x.raise(2, 99), 99);
        x.day(5);
        due("the limit stays in the next year", x.word(0, 3), 99);
        due("undo", x.undo(), 4);
        due("undo", x.undo(), 3);
        due("the limit is undone, too", x.word(2, 0), 0);
        due("and what is left", x.word(2, 3), 0);
    }

    // Promise 16: from the seed 1 the draws are 16838, 5758, 10113, 17515, 31051, 5627, 23010, 7419, 16212, ..
    private static void drift() {
        WordRation x = townOf("y50;w5 1 0;w5 1 0;a0 2;o1;p1;p1;n0 0 49 9;");
        x.seed(1);
        due("drift(1)", x.drift(1), 0);
        due("hoarded by draws", x.hoarded(0, 0), 1);
        due("left", x.word(0, 3), 4);
        x.drift(1);
        due("pointed by draws", x.told(11), 1);
        x.drift(1);
        due("said by draws", x.word(1, 5), 1);
        due("drift(4)", x.drift(4), 0);
        due("pointed by draws", x.told(11), 3);
        due("hoarded by draws", x.hoarded(0, 0), 2);
        due("gone round by draws", x.word(1, 5), 2);
        due("days", x.told(6), 7);
        due("undo", x.undo(), 3);
        due("days", x.told(6), 3);
        due("the word is not said any more", x.word(1, 5), 1);
        WordRation y = townOf("y50;w5 1 0;w5 1 0;a0 2;p1;p1;");
        y.seed(1);
        y.drift(7);
        due("nobody points where one cannot", y.told(11), 0);
        due("the other draws are the same", y.word(1, 5), 2);
        WordRation z = townOf("y2;w0 1 0;w0 1 0;a0 2;p1;p1;n0 0 0 7;n0 0 1 7;n0 0 1 7;");
        z.seed(1);
        due("what cannot be is not done; lost ones are told in all", z.drift(7), 10);
        due("and again", z.drift(1), 12);
        due("nothing was said", z.told(12), 3);
        WordRation single = townOf("y9;w1 1 0;p1;");
        // 10113 left over by 4 is 1: the only one that is left is hoarded, and then none
        single.seed(1);
        single.drift(1);
        due("the last one is hoarded by draws", single.hoarded(0, 0), 1);
        single.seed(1);
        single.drift(1);
        due("what is not left is not hoarded", single.hoarded(0, 0), 1);
        due("and none is left", single.word(0, 3), 0);
        WordRation empty = townOf("y2;w5 1 0;");
        due("nobody: no draws", empty.drift(60), 0);
        due("so the seed is as it was", empty.seed(5), 0);
        WordRation mute = townOf("y2;p1;");
        due("no words: no draws", mute.drift(60), 0);
        due("so the seed is as it was", mute.seed(5), 0);
        due("drift(0)", empty.drift(0), OUTSIDE);
        due("drift(61)", empty.drift(61), OUTSIDE);
        due("drift(61) of no town", new WordRation().drift(61), OUTSIDE);
        due("drift(60) of no town", new WordRation().drift(60), NOT);
        z.seed(0);
        z.drift(1);
        // 12345, then two draws more
        long seed = 0;
        for (int i = 0; i < 3; i++) {
            seed = (seed * 1103515245L + 12345L) % 2147483648L;
        }
        due("the seed after three draws", z.seed(0), seed);
    }

    // Promise 17
    private static void undo() {
        WordRation x = townOf("y9;w99 1 0;w0 1 0;a1 1;o0;p1;p1;n0 0 0 1;");
        due("nothing yet", x.undo(), NOT);
        for (int i = 1; i <= 20; i++) {
            due("say", x.say(0, 0), 99 - i);
            due("can be undone", x.told(15), Math.min(16, i));
        }
        x.say(0, 1);
        due("refused ones are not kept", x.told(15), 16);
        for (int i = 15; i >= 0; i--) {
            due("undo", x.undo(), i);
            due("left", x.word(0, 3), 99 - 4 - i);
        }
        due("the oldest are lost", x.undo(), NOT);
        due("left", x.word(0, 3), 95);
        x.seed(9);
        x.knot(0, 0, true);
        x.write(0, 1);
        x.keep(0);
        x.tear();
        x.cheapest(0, 0, 0);
        x.willBe(99);
        x.plan(NONE);
        due("none of these can be undone", x.undo(), NOT);
    }

    private static void undoIsWhole() {
        WordRation x = townOf("y3;w9 1 0;w0 1 0;w0 1 0;a1 1;o0;p1;p1;n0 0 0 1;n0 1 2 5;n0 2 0 6;n1 2 1 7;");
        x.hoard(0, 0, 4);
        String before = whole(x);
        x.seed(3);
        x.day(3);
        x.undo();
        CHECK.due("day undone: " + before + " / " + whole(x), before.equals(whole(x)) ? 1 : 0, 1);
        x.drift(2);
        x.undo();
        CHECK.due("drift undone: " + before + " / " + whole(x), before.equals(whole(x)) ? 1 : 0, 1);
        due("the seed stays", x.seed(0) == 3 ? 1 : 0, 0);
        x.say(0, 0);
        x.around(1, 1, 0);
        x.point(0);
        x.hoard(1, 0, 2);
        x.sell(0, 1, 0, 1);
        x.raise(1, 2);
        for (int i = 6; i >= 1; i--) {
            due("undo", x.undo(), i);
        }
        CHECK.due("all undone: " + before + " / " + whole(x), before.equals(whole(x)) ? 1 : 0, 1);
        x.say(0, 0);
        due("knots stay", x.knot(0, 0, true), 1);
        due("undo", x.undo(), 1);
        due("knots stay", x.told(13), 1);
    }

    /** All of section 2 that can be told. */
    private static String whole(WordRation x) {
        StringBuilder all = new StringBuilder();
        for (int what : new int[] {6, 7, 8, 9, 10, 11, 12}) {
            all.append(x.told(what)).append(' ');
        }
        for (int w = 0; w < 2; w++) {
            for (int what : new int[] {0, 3, 4, 5}) {
                all.append(x.word(w, what)).append(' ');
            }
            all.append(x.hoarded(0, w)).append(' ').append(x.hoarded(1, w)).append(' ');
        }
        return all.toString();
    }

    // Promise 18
    private static void cheapest() {
        WordRation x = townOf("y9;w1 9 0;w1 4 0;w1 5 0;w0 1 0;w0 1 0;w1 7 0;a0 6;a0 2;a3 5;a4 8;o2;p1;p1;");
        due("by its second way", x.cheapest(0, 0, 0), 4);
        due("by its first way, of like ones", x.cheapest(0, 0, 1), 2);
        due("by itself", x.cheapest(0, 1, 0), 4);
        due("by itself", x.cheapest(0, 1, 1), 0);
        due("by pointing", x.cheapest(0, 2, 0), 0);
        due("by pointing", x.cheapest(0, 2, 1), 1);
        due("by ways of ways", x.cheapest(0, 3, 0), 4);
        due("by ways of ways of ways", x.cheapest(0, 4, 0), 4);
        due("by its way", x.cheapest(0, 4, 1), 2);
        x.say(0, 1);
        due("its ways are gone", x.cheapest(0, 0, 0), 9);
        due("by itself", x.cheapest(0, 0, 1), 0);
        due("ways of ways", x.cheapest(0, 4, 0), 9);
        x.hoard(1, 0, 1);
        due("not if another one hoarded it", x.cheapest(0, 0, 0), NONE);
        due("by none", x.cheapest(0, 0, 1), NONE);
        due("a way that cannot be gone", x.cheapest(0, 4, 0), NONE);
        due("who hoarded it can", x.cheapest(1, 4, 0), 9);
        due("what = -1", x.cheapest(0, 0, -1), OUTSIDE);
        due("what = 2", x.cheapest(0, 0, 2), OUTSIDE);
        due("no person", x.cheapest(2, 0, 2), UNKNOWN);
        due("no person", x.cheapest(-1, 0, 0), UNKNOWN);
        due("no word", x.cheapest(0, 6, 2), UNKNOWN);
        due("no word", x.cheapest(0, -1, 0), UNKNOWN);
        WordRation like = townOf("y9;w1 6 0;w1 6 0;w1 2 0;w1 4 0;a0 2;a1 12;p1;");
        due("itself ahead of a way as cheap", like.cheapest(0, 0, 1), 0);
        due("itself ahead of a way of two", like.cheapest(0, 1, 1), 0);
        WordRation once = townOf("y9;w0 9 0;w0 9 0;w1 3 0;a0 6;a1 4;p1;");
        due("as if nothing were used up", once.cheapest(0, 0, 0), 6);
        WordRation second = townOf("y9;w9 9 0;w9 5 0;w9 4 0;a0 2;a0 4;p1;");
        due("by the second way", second.cheapest(0, 0, 1), 3);
    }

    private static void cheapestInCircles() {
        WordRation x = townOf("y9;w0 1 0;w0 1 0;w1 5 0;a0 2;a1 1;p1;");
        due("a circle alone", x.cheapest(0, 0, 0), NONE);
        due("a circle alone", x.cheapest(0, 1, 1), NONE);
        WordRation y = townOf("y9;w0 1 0;w0 1 0;w1 5 0;a0 2;a1 1;a1 4;p1;");
        due("a circle with a way out", y.cheapest(0, 0, 0), 5);
        due("its first", y.cheapest(0, 0, 1), 2);
        due("the way out", y.cheapest(0, 1, 0), 5);
        // each word by the one told behind it, so that costs must come down all along the row
        String row = "y9;" + "w0 1 0;".repeat(7) + "w1 99 0;a0 2;a1 4;a2 8;a3 16;a4 32;a5 64;a6 128;p1;";
        due("a long row", townOf(row).cheapest(0, 0, 0), 99);
        String heap = "y9;w1 99 0;" + "w0 1 0;".repeat(7) + "a1 1;a2 3;a3 7;a4 15;a5 31;a6 63;a7 127;p1;";
        due("each by all ahead of it", townOf(heap).cheapest(0, 7, 0), 99 * 64);
        WordRation pointed = townOf("y9;w0 1 0;w1 1 0;w0 1 0;o2;a1 4;a0 6;p1;");
        due("nothing by pointing", pointed.cheapest(0, 0, 0), 0);
        due("by its way", pointed.cheapest(0, 0, 1), 2);
        due("a way for nothing ahead of its own cost", pointed.cheapest(0, 1, 1), 2);
    }

    // Promise 19
    private static void runsOut() {
        WordRation x = townOf(VILLAGE);
        due("runsOut(0)", x.runsOut(0), 1);
        due("runsOut(1)", x.runsOut(1), 2);
        due("runsOut(2)", x.runsOut(2), 0);
        due("runsOut(3)", x.runsOut(3), NONE);
        x.day(1);
        due("it is out", x.runsOut(0), 0);
        due("tomorrow", x.runsOut(1), 1);
        due("runsOut(4)", x.runsOut(4), UNKNOWN);
        due("runsOut(-1)", x.runsOut(-1), UNKNOWN);
        due("nothing changed", x.told(6), 1);
        WordRation y = townOf("y3;w1 1 0;w2 1 0;p1;n0 0 2 1;n0 1 0 1;n0 1 1 1;");
        due("the last day is the year's end", y.runsOut(0), NONE);
        due("the last but one is not", y.runsOut(1), 2);
        WordRation z = townOf("y99;w1 1 0;p1;n0 0 97 1;");
        due("a long year", z.runsOut(0), 98);
        WordRation h = townOf("y3;w1 1 0;p1;n0 0 1 1;");
        h.hoard(0, 0, 1);
        due("hoarded ones are not left", h.runsOut(0), 0);
        WordRation later = townOf("y3;w1 1 0;p1;n0 0 0 1;n0 0 0 1;n0 0 0 1;");
        later.day(1);
        later.raise(0, 1);
        due("only in the next year", later.runsOut(0), NONE);
        WordRation one = townOf("y1;w1 1 0;w0 1 0;p1;n0 0 0 1;");
        due("a year of one day", one.runsOut(0), NONE);
        due("no limit", one.runsOut(1), 0);
    }

    // Promise 20
    private static void willBe() {
        WordRation x = townOf(VILLAGE);
        due("willBe(1)", x.willBe(1), 2);
        due("willBe(2)", x.willBe(2), 3);
        due("willBe(5)", x.willBe(5), 4);
        due("willBe(6)", x.willBe(6), 6);
        due("willBe(99)", x.willBe(99), 79);
        x.day(1);
        due("only those of the next days", x.willBe(1), 1);
        due("nothing changed", x.told(8), 2);
        due("nothing to undo but the day", x.told(15), 1);
        due("willBe(0)", x.willBe(0), OUTSIDE);
        due("willBe(100)", x.willBe(100), OUTSIDE);
        due("willBe(0) of no town", new WordRation().willBe(0), OUTSIDE);
        due("willBe(99) of no town", new WordRation().willBe(99), NOT);
    }

    // Promise 21
    private static void plan() {
        WordRation x = townOf(VILLAGE);
        due("worth", x.plan(NONE), 72);
        due("words", x.plan(-2), 5);
        int[] how = {1, 3, 2, 4, 3};
        for (int n = 0; n < 5; n++) {
            due("plan(" + n + ")", x.plan(n), how[n]);
        }
        x.day(2);
        due("what is over", x.plan(0), NONE);
        due("what is over", x.plan(3), NONE);
        due("to come", x.plan(4), 3);
        due("worth to come", x.plan(NONE), 7);
        due("words to come", x.plan(-2), 1);
        due("plan(-3)", x.plan(-3), UNKNOWN);
        due("plan(5)", x.plan(5), UNKNOWN);
        x.raise(0, 1);
        x.hoard(1, 0, 1);
        due("hoarded by another counts, too", x.plan(4), 1);
        // all can be met only if the first one goes round
        WordRation y = townOf("y9;w1 1 0;w1 1 0;w1 1 0;a0 6;p1;n0 0 0 5;n0 0 0 9;");
        due("both", y.plan(NONE), 14);
        due("three words", y.plan(-2), 3);
        due("the first by its word: the lesser number", y.plan(0), 1);
        due("the second goes round", y.plan(1), 2);
        WordRation z = townOf("y9;w1 1 0;w1 1 0;a0 2;p1;n0 0 0 5;n0 0 0 5;n0 1 0 9;");
        due("what is worth most, by all of it", z.plan(NONE), 14);
        due("the first of like ones is not met", z.plan(0), 0);
        due("the second is", z.plan(1), 1);
        due("the third is", z.plan(2), 1);
    }

    private static void planOfLikeOnes() {
        WordRation x = townOf("y9;w5 1 0;w5 1 0;o1;p1;n0 0 0 0;n0 1 0 0;n0 1 0 3;");
        due("of no worth", x.plan(0), 0);
        due("of no worth, pointed at", x.plan(1), 0);
        due("pointing saves words", x.plan(2), 4);
        due("no words", x.plan(-2), 0);
        WordRation y = townOf("y9;w0 1 0;w5 1 0;w5 1 0;w5 1 0;a0 6;a0 8;p1;n0 0 0 3;");
        due("the way of fewer words", y.plan(0), 3);
        due("one word", y.plan(-2), 1);
        WordRation z = townOf("y9;w0 1 0;w5 1 0;w5 1 0;a0 2;a0 4;p1;n0 0 0 3;");
        due("the first of like ways", z.plan(0), 2);
        WordRation big = townOf("y9;w1 1 0;w1 1 0;w1 1 0;w1 1 0;a0 2;a0 4;a1 4;a1 8;a2 1;a2 8;a3 1;a3 2;p1;"
                + "n0 0 0 9;n0 0 0 9;n0 1 0 9;n0 1 0 9;n0 2 0 9;n0 2 0 9;n0 3 0 9;n0 3 0 9;");
        due("four of eight", big.plan(NONE), 36);
        due("four words", big.plan(-2), 4);
        // the last four: word 2 by itself and for word 0, word 3 by itself and for word 1
        int[] how = {0, 0, 0, 0, 1, 2, 1, 3};
        for (int n = 0; n < 8; n++) {
            due("the last four: need " + n, big.plan(n), how[n]);
        }
    }

    // Promise 22
    private static void price() {
        WordRation x = townOf(VILLAGE);
        due("price(0)", x.price(0), 7);
        due("price(1)", x.price(1), 0);
        due("price(2)", x.price(2), 30);
        due("price(3)", x.price(3), 0);
        x.say(0, 0);
        due("one less", x.price(0), 10);
        x.hoard(1, 0, 1);
        due("a hoarded one counts", x.price(0), 10);
        x.say(1, 0);
        due("none", x.price(0), 20);
        x.day(1);
        due("only those to come", x.price(0), 7);
        x.day(1);
        due("none to come", x.price(2), 0);
        due("price(4)", x.price(4), UNKNOWN);
        due("price(-1)", x.price(-1), UNKNOWN);
        WordRation y = townOf("y9;w1 1 0;p1;n0 0 0 4;n0 0 0 9;n0 0 0 9;n0 0 0 2;");
        due("like ones", y.price(0), 9);
        y.raise(0, 1);
        due("the third", y.price(0), 4);
        y.raise(0, 1);
        due("the fourth", y.price(0), 2);
        y.raise(0, 1);
        due("no more", y.price(0), 0);
        WordRation rising = townOf("y9;w1 1 0;p1;n0 0 0 2;n0 0 0 4;n0 0 0 9;");
        due("the greatest is met first", rising.price(0), 4);
        rising.say(0, 0);
        due("the greatest is not met", rising.price(0), 9);
    }

    // Promise 23
    private static void sells() {
        WordRation x = townOf("y9;w4 1 0;w1 1 0;p1;p1;p1;p1;p1;n3 0 1 1;n1 0 1 1;n4 0 0 1;n1 0 1 1;");
        x.hoard(0, 0, 1);
        x.hoard(2, 0, 1);
        x.hoard(4, 0, 1);
        due("while one is left", x.sells(0, NONE), 0);
        due("while one is left", x.sells(0, 0), NONE);
        x.say(0, 0);
        x.hoard(2, 0, 1);
        due("none is left: who has a need hoarded it", x.sells(0, NONE), 2);
        due("the first", x.sells(0, 0), 21);
        due("the second", x.sells(0, 1), 23);
        due("no third", x.sells(0, 2), NONE);
        x.day(1);
        due("who needed its own has none to sell", x.sells(0, NONE), 2);
        due("i below NONE", x.sells(0, -2), NONE);
        due("i below NONE", x.sells(0, Integer.MIN_VALUE), NONE);
        due("no word", x.sells(2, NONE), UNKNOWN);
        due("no word", x.sells(-1, -9), UNKNOWN);
        due("nobody needs it", x.sells(1, NONE), 0);
        WordRation y = townOf("y9;w2 1 0;p1;p1;p1;n0 0 1 1;n1 0 0 1;");
        y.hoard(1, 0, 1);
        y.hoard(2, 0, 1);
        due("who has a need of its own does not sell", y.sells(0, NONE), 1);
        due("the other does", y.sells(0, 0), 20);
        y.sell(2, 0, 0, 1);
        due("who hoarded one does not buy", y.sells(0, NONE), 0);
        y.undo();
        y.day(1);
        due("it said its own", y.hoarded(1, 0), 0);
        due("so it has none to sell", y.sells(0, NONE), 1);
        y.day(1);
        due("nobody has a need to come", y.sells(0, NONE), 0);
        WordRation z = townOf("y9;w2 1 0;p1;p1;n0 0 0 1;n1 0 1 1;");
        z.hoard(0, 0, 2);
        due("it has a need today", z.sells(0, NONE), 0);
        z.day(1);
        due("tomorrow it has none", z.sells(0, 0), 1);
    }

    // Promise 24
    private static void share() {
        WordRation x = townOf("y9;w11 1 0;w3 1 0;w2 1 0;p1;p1;p1;p1;n2 0 1 1;n2 0 0 1;n3 0 1 1;n1 1 0 1;");
        // eleven: two each, and one each to 2 (two needs), 3 (one), 0 (the lesser of none)
        int[] of0 = {3, 2, 3, 3};
        int[] of1 = {1, 1, 1, 0};
        int[] of2 = {1, 1, 0, 0};
        for (int p = 0; p < 4; p++) {
            due("share(" + p + ", 0)", x.share(p, 0), of0[p]);
            due("share(" + p + ", 1)", x.share(p, 1), of1[p]);
            due("share(" + p + ", 2)", x.share(p, 2), of2[p]);
        }
        x.say(0, 0);
        x.hoard(0, 0, 1);
        due("only left ones: nine", x.share(2, 0), 3);
        due("only one over", x.share(3, 0), 2);
        x.day(2);
        due("three needs took three", x.word(0, 3), 6);
        due("no needs to come: the lesser", x.share(0, 0), 2);
        due("no needs to come: the lesser", x.share(1, 0), 2);
        due("no needs to come: the greater", x.share(2, 0), 1);
        due("no person", x.share(4, 0), UNKNOWN);
        due("no person", x.share(-1, 0), UNKNOWN);
        due("no word", x.share(0, 3), UNKNOWN);
        due("no word", x.share(0, -1), UNKNOWN);
        due("nobody", townOf("y9;w1 1 0;").share(0, 0), UNKNOWN);
        due("one alone gets all", townOf("y9;w7 1 0;p1;").share(0, 0), 7);
    }

    // Promise 25
    private static void more() {
        WordRation x = townOf("y9;w3 1 0;w9 1 0;p1;p1;n0 0 0 1;n0 0 1 1;n0 0 1 1;n1 0 2 1;n1 0 2 1;");
        due("five needs, three left", x.more(0), 2);
        x.hoard(0, 0, 1);
        due("one hoarded by who needs it", x.more(0), 2);
        x.sell(0, 1, 0, 1);
        x.hoard(1, 0, 2);
        due("one hoarded by who needs it no more", x.more(0), 3);
        due("nobody needs it", x.more(1), 0);
        x.raise(0, 4);
        due("more than enough", x.more(0), 0);
        x.undo();
        x.day(2);
        due("only those to come", x.more(0), 0);
        due("no word", x.more(2), UNKNOWN);
        due("no word", x.more(-1), UNKNOWN);
    }

    // Promise 26
    private static void fire() {
        WordRation x = new WordRation();
        due("no words", x.fire(0, 20), 0);
        due("no nights", x.fire(9, 0), 0);
        due("one of each", x.fire(1, 1), 3500);
        due("two nights", x.fire(1, 2), 4250);
        due("three nights", x.fire(1, 3), 4666);
        due("four nights", x.fire(1, 4), (4666 * 4 + 5000 + 6000) / 6);
        due("eight nights, cut", x.fire(1, 8), 5495);
        due("two for two", x.fire(2, 2), 7000);
        due("two for three", x.fire(2, 3), 8166);
        due("nine for twenty", x.fire(9, 20), 44210);
        due("no greater need of it", x.fire(9, 3), 10500);
        due("fire(10, 1)", x.fire(10, 1), OUTSIDE);
        due("fire(-1, 1)", x.fire(-1, 1), OUTSIDE);
        due("fire(1, 21)", x.fire(1, 21), OUTSIDE);
        due("fire(1, -1)", x.fire(1, -1), OUTSIDE);
    }

    // Promise 27
    private static void rhymes() {
        WordRation x = townOf("y9;w1 1 7;w2 1 0;w1 1 7;w0 1 7;w1 1 0;w1 1 7;p1;");
        due("how many", x.rhymes(NONE), 4);
        int[] pairs = {2, 5, 14, 25};
        for (int i = 0; i < 4; i++) {
            due("rhymes(" + i + ")", x.rhymes(i), pairs[i]);
        }
        due("no fifth", x.rhymes(4), NONE);
        due("below NONE", x.rhymes(-2), NONE);
        due("below NONE", x.rhymes(Integer.MIN_VALUE), NONE);
        x.hoard(0, 2, 1);
        due("a hoarded one is not left", x.rhymes(NONE), 2);
        due("the first now", x.rhymes(0), 5);
        x.raise(3, 1);
        due("a word more", x.rhymes(0), 3);
        due("of", x.rhymes(NONE), 4);
        WordRation y = townOf("y9;w1 1 0;w1 1 0;w1 1 1;w1 1 1;");
        due("words side by side", y.rhymes(0), 1);
        due("words side by side", y.rhymes(1), 23);
        due("two pairs", y.rhymes(NONE), 2);
    }

    // Promise 28
    private static void silent() {
        WordRation x = new WordRation();
        due("no days", x.silent(0, 0), 1000000000);
        due("silent(1, 0)", x.silent(1, 0), 0);
        due("silent(3, 90)", x.silent(3, 90), 729000000);
        due("silent(60, 100)", x.silent(60, 100), 1000000000);
        due("cut each day", x.silent(6, 3), 0);
        due("cut each day", x.silent(5, 3), 24);
        due("cut each day", x.silent(11, 33), 5053);
        due("silent(61, 1)", x.silent(61, 1), OUTSIDE);
        due("silent(-1, 1)", x.silent(-1, 1), OUTSIDE);
        due("silent(1, 101)", x.silent(1, 101), OUTSIDE);
        due("silent(1, -1)", x.silent(1, -1), OUTSIDE);
    }

    // Promise 29
    private static void knot() {
        WordRation x = townOf(VILLAGE);
        due("knot", x.knot(0, 0, true), 1);
        due("a day beyond the year", x.knot(3, 98, false), 2);
        due("no such day", x.knot(0, 99, true), OUTSIDE);
        due("no such day", x.knot(0, -1, true), OUTSIDE);
        due("no such word", x.knot(4, 99, true), UNKNOWN);
        due("no such word", x.knot(-1, 0, true), UNKNOWN);
        for (int i = 3; i <= 6; i++) {
            due("knot", x.knot(1, i, true), i);
        }
        due("a seventh", x.knot(0, 0, true), FULL);
        due("a seventh of no such day", x.knot(0, 99, true), OUTSIDE);
        due("a seventh of no such word", x.knot(4, 0, true), UNKNOWN);
        due("told", x.told(13), 6);
        due("no knots without words", new WordRation().knot(0, 0, true), UNKNOWN);
    }

    // Promise 30
    private static void who() {
        String text = "y5;w1 1 0;w1 1 0;p1;p0;p1;n0 0 2 1;n1 0 2 1;n2 1 3 1;";
        WordRation x = townOf(text);
        due("all, with no knots", x.who(), 7);
        x.knot(0, 2, true);
        due("honest with a need; a liar with one did not", x.who(), 1);
        x.tear();
        x.knot(0, 2, false);
        due("not said: the liar with it, the honest without", x.who(), 6);
        x.knot(1, 3, true);
        due("said: the honest one with it, the liar without", x.who(), 6);
        x.knot(0, 98, true);
        due("on a day of no year only a liar", x.who(), 2);
        x.knot(0, 98, false);
        due("nobody", x.who(), 0);
        x.tear();
        x.day(4);
        x.knot(0, 2, true);
        due("days that are over count alike", x.who(), 1);
    }

    // Promise 31
    private static void ask() {
        WordRation x = townOf("y5;w1 1 0;w1 1 0;p1;p1;p1;p1;n0 0 1 1;n0 1 3 1;n1 1 3 1;n2 1 4 1;n3 1 4 1;");
        due("two and two is best", x.ask(), 103);
        x.knot(1, 3, true);
        due("of those two the first question", x.ask(), 1);
        x.knot(0, 1, true);
        due("one is left", x.ask(), NONE);
        x.knot(0, 1, false);
        due("nobody is left", x.ask(), NONE);
        WordRation y = townOf("y5;w1 1 0;p1;p1;p1;n0 0 4 1;");
        due("one from two", y.ask(), 4);
        WordRation z = townOf("y5;w1 1 0;p1;p1;n0 0 1 1;n1 0 1 1;");
        due("none parts them", z.ask(), NONE);
        WordRation liar = townOf("y5;w1 1 0;p1;p0;n0 0 0 1;");
        due("on day 0 both say it: the liar has no need of it", liar.ask(), 1);
        WordRation both = townOf("y5;w1 1 0;p1;p0;n0 0 0 1;n1 0 0 1;");
        due("on day 0 only the honest one", both.ask(), 0);
        due("no persons", townOf("y5;w1 1 0;").ask(), NONE);
        due("days beyond the year are not asked", townOf("y1;w1 1 0;p1;p0;n0 0 0 1;").ask(), NONE);
    }

    // Promise 32
    private static void write() {
        WordRation x = townOf(VILLAGE);
        for (int i = 1; i <= 15; i++) {
            due("write", x.write(i % 4, i == 1 ? 99 : 0), i);
        }
        due("a sixteenth", x.write(0, 0), FULL);
        due("a sixteenth of too many", x.write(0, 100), OUTSIDE);
        due("too few", x.write(0, -1), OUTSIDE);
        due("a sixteenth of no such word", x.write(4, 100), UNKNOWN);
        due("no such word", x.write(-1, 0), UNKNOWN);
        due("told", x.told(14), 15);
    }

    // Promise 33
    private static void tear() {
        WordRation x = townOf(VILLAGE);
        due("nothing", x.tear(), 0);
        x.knot(0, 0, true);
        x.write(0, 0);
        x.write(0, 0);
        due("three", x.tear(), 3);
        due("no knots", x.told(13), 0);
        due("no book", x.told(14), 0);
        due("nothing", x.tear(), 0);
        due("judge", x.judge(), NONE);
        due("who", x.who(), 3);
    }

    // Promise 34
    private static void judge() {
        WordRation x = townOf(VILLAGE);
        due("an empty book", x.judge(), NONE);
        x.write(0, 2);
        x.write(3, 3);
        x.write(0, 1);
        due("the third is wrong", x.judge(), 2);
        x.hoard(0, 3, 1);
        due("the second is now", x.judge(), 1);
        x.say(0, 0);
        due("the first is now", x.judge(), 0);
        x.undo();
        x.undo();
        due("the third again", x.judge(), 2);
        x.tear();
        x.write(0, 1);
        x.say(0, 0);
        due("none", x.judge(), NONE);
    }

    // Promise 35
    private static void seed() {
        WordRation x = townOf(VILLAGE);
        due("0 at first", x.seed(5), 0);
        due("what it was", x.seed(2147483647), 5);
        due("what it was", x.seed(0), 2147483647);
        due("below 0", x.seed(-1), OUTSIDE);
        due("far below 0", x.seed(Integer.MIN_VALUE), OUTSIDE);
        due("as it was", x.seed(0), 0);
        x.drift(1);
        due("after three draws", x.seed(1) == 0 ? 1 : 0, 0);
    }

    // Promise 36
    private static void keep() {
        WordRation x = townOf(VILLAGE);
        x.say(0, 0);
        due("keep(0)", x.keep(0), 1);
        due("nothing can be undone", x.undo(), NOT);
        due("keep(1)", x.keep(1), 1);
        due("keep(2)", x.keep(2), UNKNOWN);
        due("keep(-1)", x.keep(-1), UNKNOWN);
        x.say(0, 0);
        due("keep(2)", x.keep(2), UNKNOWN);
        due("what was refused leaves what can be undone", x.undo(), 0);
        x.say(0, 0);
        x.keep(0);
        x.goBack(1);
        due("each by itself", x.word(0, 3), 1);
        x.goBack(0);
        due("the later one of the same number", x.word(0, 3), 0);
        WordRation none = new WordRation();
        due("without a town, too", none.keep(0), 1);
        due("and back", none.goBack(0), 1);
        due("the other was not kept", none.goBack(1), NOT);
    }

    // Promise 37
    private static void goBack() {
        WordRation x = townOf("y3;w9 1 0;w0 1 0;a1 1;o0;p1;p1;n0 0 0 1;n0 1 2 5;");
        due("nothing was kept", x.goBack(0), NOT);
        due("goBack(2)", x.goBack(2), UNKNOWN);
        due("goBack(-1)", x.goBack(-1), UNKNOWN);
        x.seed(41);
        x.hoard(1, 0, 3);
        x.day(1);
        x.keep(0);
        String before = whole(x);
        x.seed(42);
        x.raise(1, 9);
        x.drift(20);
        x.point(0);
        x.knot(0, 0, true);
        x.write(0, 0);
        due("the other was not kept", x.goBack(1), NOT);
        due("what was refused leaves what can be undone", x.undo(), 2);
        due("goBack(0)", x.goBack(0), 1);
        CHECK.due("as it was: " + before + " / " + whole(x), before.equals(whole(x)) ? 1 : 0, 1);
        due("nothing can be undone", x.undo(), NOT);
        due("knots stay", x.told(13), 1);
        due("the book stays", x.told(14), 1);
        x.say(0, 0);
        due("again", x.goBack(0), 1);
        due("an image is not used up", x.told(6), 1);
        due("the seed is the image's", x.seed(0), 41);
    }

    /** As many of all as can be told: word w by word w + 1 round, person p needs word p on day p. */
    private static WordRation full() {
        return townOf("y8;" + "w1 1 3;".repeat(7) + "w0 2 3;" + "a0 2;a1 4;a2 8;a3 16;a4 32;a5 64;a6 128;a7 1;a0 128;a1 1;"
                + "o6;p1;p1;p1;p1;p0;n0 0 0 1;n1 1 1 2;n2 2 2 3;n3 3 3 4;n4 4 4 5;n0 5 5 6;n1 6 6 7;n2 7 7 8;");
    }

    private static void fullTown() {
        WordRation x = full();
        int[] told = {8, 8, 10, 5, 8};
        for (int what = 0; what < told.length; what++) {
            due("full: told(" + what + ")", x.told(what), told[what]);
        }
        due("full: never", x.told(12), 255);
        due("full: second way of 0", x.word(0, 7), 128);
        due("full: hoarded", x.hoarded(4, 7), 0);
        due("full: the last need", x.need(7, 3), 8);
        due("full: cheapest, round and round to the one pointed at", x.cheapest(4, 7, 0), 0);
        due("full: cheapest by", x.cheapest(4, 7, 1), 2);
        due("full: price", x.price(7), 8);
        due("full: price", x.price(0), 0);
        due("full: more", x.more(7), 1);
        due("full: sells", x.sells(7, NONE), 0);
        due("full: share", x.share(3, 3), 1);
        due("full: share", x.share(4, 3), 0);
        due("full: rhymes", x.rhymes(NONE), 21);
        due("full: the last rhyme", x.rhymes(20), 56);
        due("full: runsOut", x.runsOut(6), 7);
        due("full: plan", x.plan(NONE), 36);
        due("full: plan by words", x.plan(-2), 7);
        due("full: the last need", x.plan(7), 2);
        due("full: the first need leaves its word to the last", x.plan(0), 2);
        due("full: willBe", x.willBe(8), 7);
        due("full: who", x.who(), 31);
        due("full: ask", x.ask(), 0);
        x.write(7, 1);
        due("full: judge", x.judge(), 0);
        due("full: raise", x.raise(7, 99), 99);
        due("full: hoard", x.hoard(4, 7, 99), 99);
        due("full: by all", x.word(7, 4), 99);
        due("full: sells none yet: it has no need", x.sells(7, NONE), 1);
        due("full: sells", x.sells(7, 0), 42);
        due("full: around", x.around(3, 6, 0), NOT);
        due("full: around", x.around(4, 6, 0), 128);
        due("full: day", x.day(8), 8);
        due("full: year", x.hoarded(4, 7), 0);
        due("full: left again", x.word(7, 3), 99);
        for (int i = 0; i < 15; i++) {
            x.drift(60);
        }
        due("full: days", x.told(6), 908);
        due("full: said and left and hoarded are all", x.word(0, 0), 1);
    }

    private static void lesserTownBehindAFullOne() {
        WordRation x = full();
        feed(x, "x");
        x.town();
        feed(x, "y8;w2 1 3;p1;n0 0 0 1;");
        due("lesser: town", x.town(), 1);
        int[] told = {8, 1, 0, 1, 1, 0, 0, 0, 0, 0, 0, 0, 1, 0, 0, 0};
        for (int what = 0; what < told.length; what++) {
            due("lesser: told(" + what + ")", x.told(what), told[what]);
        }
        due("lesser: no ways", x.word(0, 6) + x.word(0, 7) + x.word(0, 8), 0);
        due("lesser: no rhymes", x.rhymes(NONE), 0);
        due("lesser: price", x.price(0), 0);
        due("lesser: more", x.more(0), 0);
        due("lesser: share", x.share(0, 0), 2);
        due("lesser: plan", x.plan(NONE), 1);
        due("lesser: runsOut", x.runsOut(0), NONE);
        due("lesser: willBe", x.willBe(8), 1);
        due("lesser: who", x.who(), 1);
        due("lesser: ask", x.ask(), NONE);
        due("lesser: day", x.day(8), 8);
        due("lesser: met", x.told(8), 1);
        due("lesser: said", x.told(12), 0);
    }

    private static void wrongNumbersEverywhere() {
        for (String text : new String[] {"", "y1;", "y5;w1 1 1;", "y5;p1;", VILLAGE}) {
            WordRation x = fed(text);
            x.town();
            for (int far : FAR_OFF) {
                due("feed", x.feed(far), OUTSIDE);
                due("told", x.told(far), OUTSIDE);
                due("word", x.word(far, far), UNKNOWN);
                due("hoarded", x.hoarded(far, far), UNKNOWN);
                due("need", x.need(far, far), UNKNOWN);
                due("day", x.day(far), OUTSIDE);
                due("say", x.say(far, far), UNKNOWN);
                due("around", x.around(far, far, far), UNKNOWN);
                due("point", x.point(far), UNKNOWN);
                due("hoard", x.hoard(far, far, far), UNKNOWN);
                due("sell", x.sell(far, -far, far, far), UNKNOWN);
                due("raise", x.raise(far, far), UNKNOWN);
                due("drift", x.drift(far), OUTSIDE);
                due("cheapest", x.cheapest(far, far, far), UNKNOWN);
                due("runsOut", x.runsOut(far), UNKNOWN);
                due("willBe", x.willBe(far), OUTSIDE);
                due("plan", x.plan(far), UNKNOWN);
                due("price", x.price(far), UNKNOWN);
                due("sells", x.sells(far, far), UNKNOWN);
                due("share", x.share(far, far), UNKNOWN);
                due("more", x.more(far), UNKNOWN);
                due("fire", x.fire(far, far), OUTSIDE);
                due("rhymes", x.rhymes(far), NONE);
                due("silent", x.silent(far, far), OUTSIDE);
                due("knot", x.knot(far, far, true), UNKNOWN);
                due("write", x.write(far, far), UNKNOWN);
                due("keep", x.keep(far), UNKNOWN);
                due("goBack", x.goBack(far), UNKNOWN);
            }
            due("nothing can be undone", x.undo(), NOT);
        }
        WordRation x = townOf(VILLAGE);
        for (int far : FAR_OFF) {
            due("word(0, far)", x.word(0, far), OUTSIDE);
            due("need(0, far)", x.need(0, far), OUTSIDE);
            due("around(0, 0, far)", x.around(0, 0, far), OUTSIDE);
            due("hoard(0, 0, far)", x.hoard(0, 0, far), OUTSIDE);
            due("sell(0, 1, 0, far)", x.sell(0, 1, 0, far), OUTSIDE);
            due("raise(0, far)", x.raise(0, far), OUTSIDE);
            due("cheapest(0, 0, far)", x.cheapest(0, 0, far), OUTSIDE);
            due("sells(0, far)", x.sells(0, far), NONE);
            due("knot(0, far)", x.knot(0, far, true), OUTSIDE);
            due("write(0, far)", x.write(0, far), OUTSIDE);
        }
    }
}

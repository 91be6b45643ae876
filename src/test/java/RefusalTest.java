/**
 * Each call's refusals: just outside of each bound and far outside, of two at once the one that comes first
 * (UNKNOWN, OUTSIDE, NOT, FULL), and that what is refused has changed nothing. What is just inside is taken
 * in BoundsTest.
 */
public final class RefusalTest {
    private static final int NONE = WordRation.NONE;
    private static final int UNKNOWN = WordRation.UNKNOWN;
    private static final int OUTSIDE = WordRation.OUTSIDE;
    private static final int NOT = WordRation.NOT;
    private static final int FULL = WordRation.FULL;
    private static final int LEAST = Integer.MIN_VALUE;
    private static final int GREATEST = Integer.MAX_VALUE;

    /** Four words, three ways round, an honest person and a liar, five needs. */
    private static final String VILLAGE = "y5;w2 5 1;w1 9 2;w0 3 1;w3 1 2;a0 6;a0 8;a2 9;o1;p1;p0;"
            + "n0 0 0 20;n1 0 0 10;n0 2 1 30;n1 1 1 5;n0 0 4 7;";
    // numbers that are no word, person, need or image of the village, and such out of the bounds of a call
    private static final int[] NO_WORDS = {-1, 4, 5, 8, LEAST, GREATEST, UNKNOWN};
    private static final int[] NO_PERSONS = {-1, 2, 3, 5, LEAST, GREATEST, UNKNOWN};
    private static final int[] NO_NEEDS = {-1, 5, 6, 8, LEAST, GREATEST};
    private static final int[] NO_IMAGES = {-1, 2, 3, LEAST, GREATEST};
    private static final int[] NOT_1_TO_99 = {0, -1, 100, 101, LEAST, GREATEST};
    private static final int[] NOT_1_TO_60 = {0, -1, 61, 62, 99, LEAST, GREATEST};
    private static final int[] NOT_0_TO_1 = {-1, 2, 3, LEAST, GREATEST};

    private static final Check CHECK = new Check();
    private static Refusals village;

    private RefusalTest() { }

    public static void main(String[] args) {
        village = new Refusals(CHECK, "village", RefusalTest::village);
        townCalls();
        sayings();
        dealings();
        days();
        tried();
        triedNumbers();
        knotsAndBook();
        seedAndImages();
        whatOnlyTells();
        noTown(new Refusals(CHECK, "new", RefusalTest::newObject));
        noTown(new Refusals(CHECK, "no town again", RefusalTest::noTownAgain));
        yearAlone();
        nobody();
        nothingToSay();
        fullText();
        fullBook();
        lateDays();
        faults();
        CHECK.end("RefusalTest");
    }

    private static WordRation feed(WordRation x, String text) {
        for (int i = 0; i < text.length(); i++) {
            x.feed(text.charAt(i));
        }
        return x;
    }

    private static WordRation townOf(String text) {
        WordRation x = feed(new WordRation(), text);
        x.town();
        return x;
    }

    /**
     * Of word 0 none is left, one is hoarded by 1; of word 3 two are left, one is hoarded by 0; three deeds
     * can be undone; image 0 is kept; two knots, two right entries, and a text that is not at its end.
     */
    private static WordRation village() {
        return feed(quietVillage(), "y2;w7 3 4");
    }

    private static WordRation quietVillage() {
        WordRation x = townOf(VILLAGE);
        x.seed(77);
        x.hoard(0, 3, 1);
        x.keep(0);
        x.seed(78);
        x.say(0, 0);
        x.hoard(1, 0, 1);
        x.point(1);
        x.knot(0, 0, true);
        x.knot(2, 1, true);
        x.write(0, 0);
        x.write(3, 2);
        return x;
    }

    private static WordRation newObject() {
        WordRation x = new WordRation();
        x.seed(5);
        return feed(x, "y2;w7 3 4");
    }

    private static WordRation noTownAgain() {
        WordRation x = townOf(VILLAGE);
        x.seed(5);
        x.keep(0);
        x.say(0, 0);
        x.knot(0, 0, true);
        x.write(0, 0);
        x.town();
        return feed(x, "y2;w7 3 4");
    }

    // "One letter (a number 0 .. 255)", told 0 .. 15, word 0 .. 8, need 0 .. 4, and what there is not
    private static void townCalls() {
        for (int letter : new int[] {-1, -2, 256, 257, LEAST, GREATEST}) {
            village.allOutside("feed(" + letter + ")", x -> x.feed(letter));
        }
        for (int what : new int[] {-1, -2, 16, 17, LEAST, GREATEST}) {
            village.allOutside("told(" + what + ")", x -> x.told(what));
        }
        for (int w : NO_WORDS) {
            village.allUnknown("word(" + w + ")", x -> x.word(w, 0), x -> x.word(w, 8), x -> x.word(w, 9), x -> x.word(w, -1),
                    x -> x.word(w, w));
            village.allUnknown("hoarded of word " + w, x -> x.hoarded(0, w), x -> x.hoarded(1, w), x -> x.hoarded(2, w),
                    x -> x.hoarded(w, w));
        }
        for (int p : NO_PERSONS) {
            village.allUnknown("hoarded by " + p, x -> x.hoarded(p, 0), x -> x.hoarded(p, 3), x -> x.hoarded(p, 4));
        }
        for (int what : new int[] {-1, -2, 9, 10, LEAST, GREATEST}) {
            village.allOutside("word(w, " + what + ")", x -> x.word(0, what), x -> x.word(3, what));
        }
        for (int n : NO_NEEDS) {
            village.allUnknown("need(" + n + ")", x -> x.need(n, 0), x -> x.need(n, 4), x -> x.need(n, 5), x -> x.need(n, -1));
        }
        for (int what : new int[] {-1, -2, 5, 6, LEAST, GREATEST}) {
            village.allOutside("need(n, " + what + ")", x -> x.need(0, what), x -> x.need(4, what));
        }
    }

    // say, around, point: UNKNOWN, OUTSIDE (k 0, 1), NOT
    private static void sayings() {
        for (int w : NO_WORDS) {
            village.allUnknown("say of " + w, x -> x.say(0, w), x -> x.say(2, w), x -> x.say(w, w));
            village.allUnknown("around of " + w, x -> x.around(0, w, 0), x -> x.around(0, w, 2), x -> x.around(2, w, -1),
                    x -> x.around(1, w, 1));
            village.allUnknown("point(" + w + ")", x -> x.point(w));
        }
        for (int p : NO_PERSONS) {
            // word 2 can be said by nobody, way 0 of word 0 can be gone by nobody
            village.allUnknown("say by " + p, x -> x.say(p, 0), x -> x.say(p, 2), x -> x.say(p, 3));
            village.allUnknown("around by " + p, x -> x.around(p, 0, 1), x -> x.around(p, 0, 0), x -> x.around(p, 0, 2),
                    x -> x.around(p, 4, 0), x -> x.around(p, 1, LEAST));
        }
        for (int k : NOT_0_TO_1) {
            village.allOutside("around(.., " + k + ")", x -> x.around(0, 0, k), x -> x.around(0, 1, k), x -> x.around(1, 2, k));
        }
        village.allNot("say: another one hoarded it, none is left", x -> x.say(0, 0));
        village.allNot("say: a word of the limit 0", x -> x.say(0, 2), x -> x.say(1, 2));
        village.allNot("around: there is none such", x -> x.around(0, 1, 0), x -> x.around(0, 1, 1), x -> x.around(0, 3, 0),
                x -> x.around(1, 2, 1), x -> x.around(1, 3, 1));
        village.allNot("around: it cannot", x -> x.around(0, 0, 0), x -> x.around(1, 0, 0), x -> x.around(0, 2, 0));
        village.allNot("point: one can not", x -> x.point(0), x -> x.point(2), x -> x.point(3));
    }

    // hoard, sell, raise: UNKNOWN (one twice, where two are asked), OUTSIDE (n 1 .. 99), NOT
    private static void dealings() {
        for (int w : NO_WORDS) {
            village.allUnknown("hoard of " + w, x -> x.hoard(0, w, 1), x -> x.hoard(0, w, 0), x -> x.hoard(0, w, 100),
                    x -> x.hoard(2, w, 1), x -> x.hoard(0, w, 99));
            village.allUnknown("sell of " + w, x -> x.sell(0, 1, w, 1), x -> x.sell(0, 1, w, 0), x -> x.sell(1, 0, w, 100),
                    x -> x.sell(1, 1, w, 1), x -> x.sell(1, 0, w, 99));
            village.allUnknown("raise(" + w + ")", x -> x.raise(w, 1), x -> x.raise(w, 0), x -> x.raise(w, 99),
                    x -> x.raise(w, 100));
        }
        for (int p : NO_PERSONS) {
            village.allUnknown("hoard by " + p, x -> x.hoard(p, 3, 1), x -> x.hoard(p, 3, 0), x -> x.hoard(p, 3, 3),
                    x -> x.hoard(p, 2, 1), x -> x.hoard(p, 3, 100));
            village.allUnknown("sell by " + p, x -> x.sell(p, 1, 3, 1), x -> x.sell(p, 1, 3, 0), x -> x.sell(p, 1, 2, 1),
                    x -> x.sell(p, p, 3, 1), x -> x.sell(p, 1, 3, 99));
            village.allUnknown("sell to " + p, x -> x.sell(0, p, 3, 1), x -> x.sell(0, p, 3, 100), x -> x.sell(0, p, 3, 2),
                    x -> x.sell(1, p, 0, 1));
        }
        village.allUnknown("sell to oneself", x -> x.sell(0, 0, 3, 1), x -> x.sell(1, 1, 0, 1), x -> x.sell(0, 0, 3, 0),
                x -> x.sell(0, 0, 3, 100), x -> x.sell(1, 1, 3, 1), x -> x.sell(0, 0, 3, 2));
        for (int n : NOT_1_TO_99) {
            village.allOutside("hoard " + n, x -> x.hoard(0, 3, n), x -> x.hoard(1, 3, n), x -> x.hoard(0, 2, n));
            village.allOutside("sell " + n, x -> x.sell(0, 1, 3, n), x -> x.sell(1, 0, 0, n), x -> x.sell(1, 0, 3, n));
            village.allOutside("raise by " + n, x -> x.raise(0, n), x -> x.raise(2, n));
        }
        village.allNot("hoard: not so many are left", x -> x.hoard(0, 3, 3), x -> x.hoard(0, 3, 99), x -> x.hoard(0, 0, 1),
                x -> x.hoard(1, 0, 1), x -> x.hoard(0, 2, 1), x -> x.hoard(0, 1, 2));
        village.allNot("sell: p has not so many", x -> x.sell(0, 1, 3, 2), x -> x.sell(0, 1, 3, 99), x -> x.sell(1, 0, 3, 1),
                x -> x.sell(0, 1, 0, 1), x -> x.sell(1, 0, 0, 2), x -> x.sell(0, 1, 1, 1));
        village.allNot("raise: it would be above 99", x -> x.raise(0, 98), x -> x.raise(0, 99), x -> x.raise(3, 97),
                x -> x.raise(1, 99));
    }

    // day, drift, willBe: OUTSIDE (n 1 .. 60, 1 .. 99)
    private static void days() {
        for (int n : NOT_1_TO_60) {
            village.allOutside("day(" + n + ")", x -> x.day(n));
            village.allOutside("drift(" + n + ")", x -> x.drift(n));
        }
        for (int n : NOT_1_TO_99) {
            village.allOutside("willBe(" + n + ")", x -> x.willBe(n));
        }
    }

    private static void tried() {
        for (int w : NO_WORDS) {
            village.allUnknown("cheapest of " + w, x -> x.cheapest(0, w, 0), x -> x.cheapest(0, w, 1), x -> x.cheapest(0, w, 2),
                    x -> x.cheapest(2, w, 0), x -> x.cheapest(1, w, -1));
            village.allUnknown("runsOut(" + w + ")", x -> x.runsOut(w));
            village.allUnknown("price(" + w + ")", x -> x.price(w));
            village.allUnknown("sells(" + w + ")", x -> x.sells(w, NONE), x -> x.sells(w, 0), x -> x.sells(w, -2),
                    x -> x.sells(w, LEAST), x -> x.sells(w, GREATEST));
            village.allUnknown("share of " + w, x -> x.share(0, w), x -> x.share(1, w), x -> x.share(2, w), x -> x.share(w, w));
            village.allUnknown("more(" + w + ")", x -> x.more(w));
        }
        for (int p : NO_PERSONS) {
            village.allUnknown("cheapest for " + p, x -> x.cheapest(p, 0, 0), x -> x.cheapest(p, 2, 1), x -> x.cheapest(p, 0, 2),
                    x -> x.cheapest(p, 1, LEAST), x -> x.cheapest(p, 4, 0));
            village.allUnknown("share for " + p, x -> x.share(p, 0), x -> x.share(p, 3), x -> x.share(p, 4));
        }
        for (int what : NOT_0_TO_1) {
            village.allOutside("cheapest(.., " + what + ")", x -> x.cheapest(0, 0, what), x -> x.cheapest(1, 2, what),
                    x -> x.cheapest(0, 1, what));
        }
        for (int n : new int[] {-3, -4, 5, 6, 8, LEAST, GREATEST}) {
            village.allUnknown("plan(" + n + ")", x -> x.plan(n));
        }
    }

    // fire: k 0 .. 9, n 0 .. 20; silent: n 0 .. 60, q 0 .. 100; an i of sells, rhymes is never refused
    private static void triedNumbers() {
        for (int k : new int[] {-1, 10, 11, LEAST, GREATEST}) {
            village.allOutside("fire(" + k + ")", x -> x.fire(k, 0), x -> x.fire(k, 20), x -> x.fire(k, 21), x -> x.fire(k, -1));
        }
        for (int n : new int[] {-1, 21, 22, LEAST, GREATEST}) {
            village.allOutside("fire(k, " + n + ")", x -> x.fire(0, n), x -> x.fire(9, n), x -> x.fire(1, n));
        }
        for (int n : new int[] {-1, 61, 62, LEAST, GREATEST}) {
            village.allOutside("silent(" + n + ")", x -> x.silent(n, 0), x -> x.silent(n, 100), x -> x.silent(n, 101),
                    x -> x.silent(n, -1));
        }
        for (int q : new int[] {-1, 101, 102, LEAST, GREATEST}) {
            village.allOutside("silent(n, " + q + ")", x -> x.silent(0, q), x -> x.silent(60, q), x -> x.silent(1, q));
        }
        for (int i : new int[] {-2, -3, 20, 28, LEAST, GREATEST}) {
            village.due("sells(0, " + i + ")", x -> x.sells(0, i), NONE);
            village.due("rhymes(" + i + ")", x -> x.rhymes(i), NONE);
        }
    }

    // knot: a DAY 0 .. 98; write: 0 .. 99
    private static void knotsAndBook() {
        for (int w : NO_WORDS) {
            village.allUnknown("knot of " + w, x -> x.knot(w, 0, true), x -> x.knot(w, 98, false), x -> x.knot(w, 99, true),
                    x -> x.knot(w, -1, false));
            village.allUnknown("write of " + w, x -> x.write(w, 0), x -> x.write(w, 99), x -> x.write(w, 100),
                    x -> x.write(w, -1));
        }
        for (int day : new int[] {-1, 99, 100, LEAST, GREATEST}) {
            village.allOutside("knot on " + day, x -> x.knot(0, day, true), x -> x.knot(3, day, false));
        }
        for (int left : new int[] {-1, 100, 101, LEAST, GREATEST}) {
            village.allOutside("write of left " + left, x -> x.write(0, left), x -> x.write(3, left));
        }
    }

    // seed: 0 .. 2147483647; IMAGES 0, 1
    private static void seedAndImages() {
        for (int v : new int[] {-1, -2, LEAST, LEAST + 1, UNKNOWN}) {
            village.allOutside("seed(" + v + ")", x -> x.seed(v));
        }
        for (int i : NO_IMAGES) {
            village.allUnknown("keep(" + i + ")", x -> x.keep(i));
            village.allUnknown("goBack(" + i + ")", x -> x.goBack(i));
        }
        village.allNot("goBack(1): it was not kept", x -> x.goBack(1));
        Refusals nothing = new Refusals(CHECK, "nothing done", () -> feed(townOf(VILLAGE), "y"));
        nothing.allNot("undo of nothing", x -> x.undo());
        nothing.allNot("goBack: none was kept", x -> x.goBack(0), x -> x.goBack(1));
        for (int i : NO_IMAGES) {
            nothing.allUnknown("goBack(" + i + ") ahead of NOT", x -> x.goBack(i));
        }
        Refusals kept = new Refusals(CHECK, "kept", () -> {
            WordRation x = village();
            x.keep(1);
            return x;
        });
        kept.allNot("undo behind keep", x -> x.undo());
        Refusals back = new Refusals(CHECK, "gone back", () -> {
            WordRation x = village();
            x.goBack(0);
            return x;
        });
        back.allNot("undo behind goBack", x -> x.undo());
        back.allNot("goBack: the other was not kept", x -> x.goBack(1));
        Refusals undone = new Refusals(CHECK, "all undone", () -> {
            WordRation x = village();
            x.undo();
            x.undo();
            x.undo();
            return x;
        });
        undone.allNot("undo of no more", x -> x.undo());
    }

    // "TRIED from now; nothing changes by it", and what tells or judges changes nothing either
    private static void whatOnlyTells() {
        village.due("cheapest", x -> x.cheapest(1, 0, 0), 1);
        village.due("cheapest by", x -> x.cheapest(1, 0, 1), 3);
        village.due("runsOut", x -> x.runsOut(1), 2);
        village.due("willBe", x -> x.willBe(99), 79);
        village.due("plan", x -> x.plan(NONE), 65);
        village.due("plan of words", x -> x.plan(-2), 4);
        village.due("plan of a need", x -> x.plan(4), 0);
        village.due("price", x -> x.price(0), 10);
        village.due("sells", x -> x.sells(0, NONE), 0);
        village.due("share", x -> x.share(0, 3), 1);
        village.due("more", x -> x.more(0), 2);
        village.due("fire", x -> x.fire(9, 20), 44210);
        village.due("rhymes", x -> x.rhymes(NONE), 1);
        village.due("silent", x -> x.silent(60, 100), 1000000000);
        village.due("who", x -> x.who(), 1);
        village.due("ask", x -> x.ask(), NONE);
        village.due("judge", x -> x.judge(), NONE);
        village.due("fault", x -> x.fault(), NONE);
        village.due("told", x -> x.told(15), 3);
    }

    // UNKNOWN: "that there is not"; OUTSIDE ahead of "NOT: no TOWN"
    private static void noTown(Refusals none) {
        int[] all = {0, -1, 1, 7, LEAST, GREATEST};
        for (int i : all) {
            none.allUnknown("no words, persons, needs: " + i, x -> x.word(i, 0), x -> x.word(i, 9), x -> x.hoarded(i, i),
                    x -> x.need(i, 0), x -> x.need(i, 5), x -> x.say(i, i), x -> x.around(i, i, 0), x -> x.around(i, i, 2),
                    x -> x.point(i), x -> x.hoard(i, i, 1), x -> x.hoard(i, i, 0), x -> x.sell(0, 1, i, 1),
                    x -> x.sell(i, 1, 0, 0), x -> x.raise(i, 1), x -> x.raise(i, 100));
            none.allUnknown("no words, persons tried: " + i, x -> x.cheapest(i, i, 0), x -> x.cheapest(i, i, 2),
                    x -> x.runsOut(i), x -> x.price(i), x -> x.sells(i, NONE), x -> x.sells(i, 0), x -> x.share(i, i),
                    x -> x.more(i), x -> x.knot(i, 0, true), x -> x.knot(i, 99, true), x -> x.write(i, 0),
                    x -> x.write(i, 100));
        }
        for (int n : NOT_1_TO_60) {
            none.allOutside("days ahead of no town: " + n, x -> x.day(n), x -> x.drift(n));
        }
        for (int n : NOT_1_TO_99) {
            none.allOutside("willBe ahead of no town: " + n, x -> x.willBe(n));
        }
        none.allNot("no town", x -> x.day(1), x -> x.day(60), x -> x.drift(1), x -> x.drift(60), x -> x.willBe(1),
                x -> x.willBe(99), x -> x.undo(), x -> x.goBack(0), x -> x.goBack(1));
        none.allUnknown("no such plan", x -> x.plan(0), x -> x.plan(-3), x -> x.plan(LEAST), x -> x.plan(GREATEST));
        none.due("plan", x -> x.plan(NONE), 0);
        none.due("plan of words", x -> x.plan(-2), 0);
        none.due("rhymes", x -> x.rhymes(NONE), 0);
        none.due("the first rhyme", x -> x.rhymes(0), NONE);
        none.due("who", x -> x.who(), 0);
        none.due("ask", x -> x.ask(), NONE);
        none.due("judge", x -> x.judge(), NONE);
        none.due("tear", x -> x.tear(), 0);
        none.due("fault", x -> x.fault(), NONE);
    }

    /** A year alone is a town: its days pass, but there is nothing to say and nobody who says it. */
    private static void yearAlone() {
        Refusals year = new Refusals(CHECK, "a year alone", () -> townOf("y1;"));
        for (int i : new int[] {0, -1, 1, LEAST, GREATEST}) {
            year.allUnknown("nothing there: " + i, x -> x.word(i, 0), x -> x.hoarded(i, i), x -> x.need(i, 0), x -> x.say(i, i),
                    x -> x.around(i, i, 0), x -> x.point(i), x -> x.hoard(i, i, 1), x -> x.sell(i, 1, 0, 1), x -> x.raise(i, 1),
                    x -> x.cheapest(i, i, 0), x -> x.runsOut(i), x -> x.price(i), x -> x.sells(i, 0), x -> x.share(i, i),
                    x -> x.more(i), x -> x.knot(i, 0, true), x -> x.write(i, 0));
        }
        year.allOutside("day", x -> x.day(0), x -> x.day(61), x -> x.drift(0), x -> x.drift(61), x -> x.willBe(0));
        year.due("willBe", x -> x.willBe(1), 0);
        year.due("no words", x -> x.plan(NONE), 0);
        year.due("who", x -> x.who(), 0);
        year.due("ask", x -> x.ask(), NONE);
    }

    private static void nobody() {
        Refusals words = new Refusals(CHECK, "nobody", () -> townOf("y2;w3 1 0;w3 1 0;o0;a1 1;"));
        for (int p : new int[] {0, -1, 1, LEAST, GREATEST}) {
            words.allUnknown("nobody: " + p, x -> x.hoarded(p, 0), x -> x.say(p, 0), x -> x.around(p, 1, 0),
                    x -> x.around(p, 1, 2), x -> x.hoard(p, 0, 1), x -> x.hoard(p, 0, 100), x -> x.sell(p, 1, 0, 1),
                    x -> x.sell(0, p, 0, 1), x -> x.cheapest(p, 0, 0), x -> x.share(p, 0));
        }
        words.allUnknown("no needs", x -> x.need(0, 0), x -> x.plan(0));
        words.due("price", x -> x.price(0), 0);
        words.due("sells", x -> x.sells(0, NONE), 0);
        words.due("the first that sells", x -> x.sells(0, 0), NONE);
        words.due("more", x -> x.more(0), 0);
        words.due("runsOut", x -> x.runsOut(0), NONE);
        words.due("who", x -> x.who(), 0);
        words.due("ask", x -> x.ask(), NONE);
    }

    private static void nothingToSay() {
        Refusals mute = new Refusals(CHECK, "no words", () -> townOf("y2;p1;p0;"));
        for (int w : new int[] {0, -1, 1, LEAST, GREATEST}) {
            mute.allUnknown("no words: " + w, x -> x.hoarded(0, w), x -> x.say(0, w), x -> x.around(0, w, 0), x -> x.point(w),
                    x -> x.hoard(0, w, 1), x -> x.sell(0, 1, w, 1), x -> x.raise(w, 1), x -> x.cheapest(0, w, 0),
                    x -> x.runsOut(w), x -> x.price(w), x -> x.sells(w, 0), x -> x.share(0, w), x -> x.more(w),
                    x -> x.knot(w, 0, true), x -> x.write(w, 0));
        }
        mute.due("who", x -> x.who(), 3);
        mute.due("ask", x -> x.ask(), NONE);
    }

    // feed: OUTSIDE ahead of "FULL (240)"
    private static void fullText() {
        Refusals full = new Refusals(CHECK, "full text", () -> {
            WordRation x = townOf("y1;w1 1 0;p1;n0 0 0 9;");
            x.say(0, 0);
            feed(x, "y3;w7 8 9;");
            return feed(x, " ".repeat(228) + "p1");
        });
        for (int letter : new int[] {0, 1, ' ', ';', 'y', 254, 255}) {
            full.allFull("feed(" + letter + ")", x -> x.feed(letter));
        }
        for (int letter : new int[] {-1, 256, LEAST, GREATEST}) {
            full.allOutside("feed(" + letter + ")", x -> x.feed(letter));
        }
        Refusals last = new Refusals(CHECK, "full text of a town", () -> feed(townOf("y1;w1 1 0;"), " ".repeat(230) + "y3;w7 8 9;"));
        for (int letter : new int[] {0, ' ', ';', 'x', 255}) {
            last.allFull("feed(" + letter + ")", x -> x.feed(letter));
        }
    }

    // knot: UNKNOWN, OUTSIDE, FULL (6); write: UNKNOWN, OUTSIDE, FULL (15)
    private static void fullBook() {
        Refusals full = new Refusals(CHECK, "full book", () -> {
            WordRation x = townOf("y2;w1 1 0;w5 1 0;p1;p0;n0 0 0 9;");
            for (int i = 0; i < 6; i++) {
                x.knot(0, 0, true);
            }
            for (int i = 0; i < 15; i++) {
                x.write(i % 2, i % 2 == 0 ? 1 : 5);
            }
            return x;
        });
        full.allFull("knot", x -> x.knot(0, 0, true), x -> x.knot(0, 0, false), x -> x.knot(1, 98, true),
                x -> x.knot(1, 0, true));
        full.allFull("write", x -> x.write(0, 0), x -> x.write(0, 1), x -> x.write(1, 99), x -> x.write(1, 5));
        for (int day : new int[] {-1, 99, LEAST, GREATEST}) {
            full.allOutside("knot on " + day, x -> x.knot(0, day, true), x -> x.knot(1, day, false));
        }
        for (int left : new int[] {-1, 100, LEAST, GREATEST}) {
            full.allOutside("write of left " + left, x -> x.write(0, left), x -> x.write(1, left));
        }
        for (int w : new int[] {-1, 2, LEAST, GREATEST}) {
            full.allUnknown("of " + w, x -> x.knot(w, 0, true), x -> x.knot(w, 99, true), x -> x.write(w, 0),
                    x -> x.write(w, 100));
        }
    }

    // "FULL: DAYS gone are above 9000 as it is called"; OUTSIDE ahead of it
    private static void lateDays() {
        Refusals late = new Refusals(CHECK, "late", () -> {
            WordRation x = townOf("y7;w1 1 0;p1;n0 0 2 9;");
            for (int i = 0; i < 150; i++) {
                x.day(60);
            }
            x.seed(99);
            x.day(1);
            return x;
        });
        late.due("days", x -> x.told(6), 9001);
        late.allFull("days", x -> x.day(1), x -> x.day(2), x -> x.day(60), x -> x.drift(1), x -> x.drift(2), x -> x.drift(60));
        for (int n : NOT_1_TO_60) {
            late.allOutside("days: " + n, x -> x.day(n), x -> x.drift(n));
        }
        late.due("what is tried goes on", x -> x.willBe(99), 14);
    }

    // a TEXT with a FAULT: "all else is as it was" (THE TEXT is empty then, too)
    private static void faults() {
        Refusals stands = new Refusals(CHECK, "a faulty text", RefusalTest::quietVillage);
        String[] texts = {"x", "y0;", "y5;y", "y5;w1 1 1;o0;o0;", "y5;w1 1 1;w1 1 1;p1;n0 0 0 0;a0 2;o1;x",
            "y9;" + "w9 9 9;".repeat(8) + "w", "y1;p1;p1;p1;p1;p1;p"};
        int[] due = {-11, -12, -13, -14, -11, -13, -13};
        int[] places = {0, 1, 3, 14, 37, 59, 18};
        for (int i = 0; i < texts.length; i++) {
            String text = texts[i];
            int place = places[i];
            stands.due(text, x -> feed(x, text).town(), due[i]);
            stands.due(text + ": place", x -> feed(x, text).town() < 0 ? x.fault() : UNKNOWN, place);
        }
        Refusals other = new Refusals(CHECK, "a faulty text, the other image", () -> {
            WordRation x = townOf(VILLAGE);
            x.seed(9);
            x.keep(1);
            x.drift(9);
            return x;
        });
        other.due("a faulty text", x -> feed(x, "y5;w1").town(), -11);
        stands.due("a fault at the end of a full text", x -> feed(x, "y1;" + " ".repeat(240 - 8) + "w1 1 ").town(), -11);
        CHECK.due("refusals are far below all that is counted", Math.max(Math.max(UNKNOWN, OUTSIDE), Math.max(NOT, FULL)),
                -1000000001);
    }
}

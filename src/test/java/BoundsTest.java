/**
 * Sections 2 and 3 of the document and its promises, sentence by sentence: what is just inside of each bound,
 * empty, full, at the year's end, counted to the greatest; what an answer is where there is none. What is
 * refused is taken in RefusalTest, the text in TextBoundsTest.
 */
public final class BoundsTest {
    private static final int NONE = WordRation.NONE;
    private static final int NOT = WordRation.NOT;
    private static final int FULL = WordRation.FULL;
    private static final Check CHECK = new Check();

    private static final String EIGHT_WORDS = "w1 1 0;".repeat(8);
    private static final String FIVE_PERSONS = "p1;".repeat(5);

    private BoundsTest() { }

    public static void main(String[] args) {
        letters();
        lastCall();
        firstDay();
        limits();
        canSay();
        hoardedGoesFirst();
        ways();
        dayOfNeeds();
        yearOfOneDay();
        yearOfNinetyNine();
        yearsEnd();
        lostByWorthExactly();
        lostByWorthFromBelow();
        lostByWorthByDraws();
        countsOfManyDays();
        strides();
        lateDays();
        lateDrift();
        hoardAndSell();
        raise();
        undoSixteen();
        undoEachDeed();
        undoAtTheBounds();
        cheapest();
        runsOut();
        willBe();
        plan();
        planOfEight();
        price();
        sells();
        share();
        more();
        fire();
        rhymes();
        never();
        silent();
        knots();
        who();
        ask();
        book();
        tear();
        seeds();
        draws();
        deedsByDraws();
        drawsWithNobody();
        images();
        CHECK.end("BoundsTest");
    }

    private static void due(String call, long answered, long due) {
        CHECK.due(call, answered, due);
    }

    private static WordRation feed(WordRation x, String text) {
        for (int i = 0; i < text.length(); i++) {
            x.feed(text.charAt(i));
        }
        return x;
    }

    private static WordRation townOf(String text) {
        WordRation x = feed(new WordRation(), text);
        due("town of " + text, x.town(), text.length() - text.replace("w", "").length());
        return x;
    }

    private static void days(WordRation x, int days) {
        int left = days;
        while (left > 0) {
            x.day(Math.min(60, left));
            left -= Math.min(60, left);
        }
    }

    // "One letter (a number 0 .. 255) comes behind THE TEXT: how many it has."
    private static void letters() {
        WordRation x = new WordRation();
        due("the least letter", x.feed(0), 1);
        due("the greatest letter", x.feed(255), 2);
        due("letters", x.told(5), 2);
        for (int i = 3; i < 240; i++) {
            x.feed(' ');
        }
        due("letters", x.told(5), 239);
        due("the last letter", x.feed(' '), 240);
        due("one too many", x.feed(' '), FULL);
        due("letters", x.told(5), 240);
        x.town();
        due("the first letter of the next text", x.feed(' '), 1);
    }

    // "An object is used for at most 512 calls"
    private static void lastCall() {
        WordRation x = new WordRation();
        String text = "y1;w99 1 0;p1;";
        feed(x, text);
        x.town();
        int calls = text.length() + 1;
        for (int i = 1; calls < 511; i++) {
            due("what can still be said", x.say(0, 0), 99 - (i - 1) % 99 - 1);
            calls++;
            if (i % 99 == 0) {
                x.day(1);
                calls++;
            }
        }
        due("call 512", x.told(5), 0);
    }

    // "LIMIT at first", "0 at first", "DAY 0, nothing SAID"
    private static void firstDay() {
        WordRation x = townOf("y5;w0 1 0;w99 99 9;p1;p0;n0 0 0 0;n1 1 4 99;");
        due("left of none", x.word(0, 3), 0);
        due("left of 99", x.word(1, 3), 99);
        int[] told = {5, 2, 0, 2, 2, 0, 0, 0, 0, 0, 0, 0, 3, 0, 0, 0};
        for (int what = 0; what < told.length; what++) {
            due("at first: told(" + what + ")", x.told(what), told[what]);
        }
        for (int p = 0; p < 2; p++) {
            due("hoarded", x.hoarded(p, 0) + x.hoarded(p, 1), 0);
        }
        due("the first need is to come", x.need(0, 4), 1);
        due("the last need is to come", x.need(1, 4), 1);
        due("of no worth", x.need(0, 3), 0);
        due("of the greatest", x.need(1, 3), 99);
        due("no fault", x.fault(), NONE);
        due("the first way round: none", x.word(1, 6), 0);
        due("the second way round: none", x.word(1, 7), 0);
        due("one cannot point", x.word(1, 8), 0);
    }

    // "LIMIT L a YEAR, 0 .. 99"
    private static void limits() {
        WordRation x = townOf("y1;w0 1 0;w1 1 0;w99 1 0;p1;");
        due("none can be said", x.say(0, 0), NOT);
        due("one can be said", x.say(0, 1), 0);
        due("a second one not", x.say(0, 1), NOT);
        for (int left = 98; left >= 0; left--) {
            due("of 99", x.say(0, 2), left);
        }
        due("a hundredth not", x.say(0, 2), NOT);
        due("said", x.word(2, 5), 99);
        x.day(1);
        due("none again", x.say(0, 0), NOT);
        due("one again", x.say(0, 1), 0);
        due("99 again", x.say(0, 2), 98);
        due("said in both years", x.word(2, 5), 100);
    }

    // "A PERSON CAN SAY a WORD, if it HOARDED one, or one is LEFT"
    private static void canSay() {
        WordRation x = townOf("y9;w2 1 0;w1 1 0;p1;p1;");
        due("one hoarded, one left", x.hoard(0, 0, 1), 1);
        due("the other one says the left one", x.say(1, 0), 0);
        due("none is left for it", x.say(1, 0), NOT);
        due("the hoarded one can be said", x.say(0, 0), 0);
        due("neither hoarded nor left", x.say(0, 0), NOT);
        due("said", x.word(0, 5), 2);
        x.hoard(1, 1, 1);
        due("hoarded by another", x.say(0, 1), NOT);
        x.sell(1, 0, 1, 1);
        due("bought", x.say(0, 1), 0);
        due("sold", x.say(1, 1), NOT);
    }

    // "SAID: a HOARDED one goes first"
    private static void hoardedGoesFirst() {
        WordRation x = townOf("y9;w3 1 0;p1;p1;");
        x.hoard(0, 0, 2);
        due("the first hoarded one", x.say(0, 0), 2);
        due("the second hoarded one", x.say(0, 0), 1);
        due("none hoarded", x.hoarded(0, 0), 0);
        due("one left", x.word(0, 3), 1);
        due("the left one", x.say(0, 0), 0);
        due("none left", x.word(0, 3), 0);
    }

    // "It CAN go a WAY round, if it CAN SAY all of its WORDS"
    private static void ways() {
        WordRation x = townOf("y9;" + EIGHT_WORDS + "a7 127;a0 254;p1;p1;");
        x.hoard(1, 6, 1);
        due("the last word of the way is another one's", x.around(0, 7, 0), NOT);
        due("nothing was said", x.told(12), 255);
        x.sell(1, 0, 6, 1);
        due("all seven words of the way", x.around(0, 7, 0), 127);
        due("never said is the word itself", x.told(12), 128);
        due("not twice", x.around(0, 7, 0), NOT);
        x.undo();
        x.say(0, 0);
        due("the first word of the way is gone", x.around(0, 7, 0), NOT);
        due("the other way has no such word", x.around(0, 0, 0), 254);
        due("all were said", x.told(12), 0);
        due("there is no second way", x.around(0, 7, 1), NOT);
    }

    // "MET: the WORD is SAID, if it CAN be; else by its first WAY round that it CAN go; else .. POINT; else it is LOST"
    private static void dayOfNeeds() {
        WordRation x = townOf("y9;w1 1 0;w1 1 0;w1 1 0;a0 2;a0 4;o0;p1;" + "n0 0 0 9;".repeat(5));
        x.day(1);
        due("all five are met", x.told(8), 5);
        due("none is lost", x.told(9), 0);
        due("two by pointing", x.told(11), 2);
        due("each word was said once", x.word(0, 5) * 100 + x.word(1, 5) * 10 + x.word(2, 5), 111);
        WordRation y = townOf("y9;w1 1 0;w1 1 0;w1 1 0;a0 2;a0 4;p1;" + "n0 0 0 9;".repeat(5));
        y.day(1);
        due("three are met", y.told(8), 3);
        due("two are lost", y.told(9), 2);
        due("by worth", y.told(10), 18);
        due("nobody pointed", y.told(11), 0);
        WordRation z = townOf("y9;w0 1 0;p1;n0 0 1 9;n0 0 8 0;");
        z.day(1);
        due("not ahead of its day", z.told(9), 0);
        z.day(1);
        due("on its day", z.told(9), 1);
        z.day(6);
        due("not ahead of the last day", z.told(9), 1);
        z.day(1);
        due("on the last day", z.told(9), 2);
        due("one of no worth", z.told(10), 9);
    }

    // "D DAYS, 1": each day is the first and the last one of a year
    private static void yearOfOneDay() {
        WordRation x = townOf("y1;w2 1 0;p1;n0 0 0 5;");
        x.hoard(0, 0, 1);
        due("day", x.day(1), 1);
        due("the day of the year", x.told(7), 0);
        due("left again", x.word(0, 3), 2);
        due("nobody hoarded any", x.hoarded(0, 0), 0);
        due("the need is to come", x.need(0, 4), 1);
        due("sixty years", x.day(60), 61);
        due("met in each", x.told(8), 61);
        due("said in each", x.word(0, 5), 61);
        due("the day of the year", x.told(7), 0);
        due("does not run out", x.runsOut(0), NONE);
        due("will be", x.willBe(99), 99);
    }

    // "D DAYS, 99"
    private static void yearOfNinetyNine() {
        WordRation x = townOf("y99;w3 1 0;p1;n0 0 0 1;n0 0 98 2;");
        x.day(60);
        due("the day of the year", x.told(7), 60);
        due("the first need is over", x.need(0, 4), 0);
        x.day(38);
        due("the last day of the year", x.told(7), 98);
        due("the need of the last day is to come", x.need(1, 4), 1);
        due("one was said", x.word(0, 3), 2);
        x.hoard(0, 0, 1);
        due("the first day again", x.day(1), 99);
        due("the day of the year", x.told(7), 0);
        due("left again", x.word(0, 3), 3);
        due("the hoarded one was said", x.word(0, 5), 2);
        due("both needs are to come", x.need(0, 4) + x.need(1, 4), 2);
        due("met", x.told(8), 2);
        x.day(1);
        due("the first need of the second year", x.told(8), 3);
        due("is over", x.need(0, 4), 0);
        due("the day of the year", x.told(7), 1);
    }

    // "behind the last one of a YEAR all WORDS have their LIMIT LEFT again, nobody has HOARDED any"
    private static void yearsEnd() {
        WordRation x = townOf("y3;" + EIGHT_WORDS + FIVE_PERSONS);
        for (int w = 0; w < 8; w++) {
            x.hoard(w % 5, w, 1);
        }
        x.raise(7, 98);
        x.hoard(4, 7, 50);
        x.raise(0, 1);
        x.day(2);
        due("ahead of the year's end it is hoarded", x.hoarded(4, 7), 50);
        due("and not left", x.word(7, 3), 48);
        x.day(1);
        for (int w = 0; w < 8; w++) {
            due("left again of " + w, x.word(w, 3), w == 7 ? 99 : w == 0 ? 2 : 1);
            due("hoarded by all of " + w, x.word(w, 4), 0);
            for (int p = 0; p < 5; p++) {
                due("hoarded of " + w + " by " + p, x.hoarded(p, w), 0);
            }
        }
        x.hoard(0, 0, 2);
        x.day(4);
        due("hoarded late, gone at the end too", x.hoarded(0, 0), 0);
        due("left again", x.word(0, 3), 2);
    }

    // "what was LOST by worth are counted (999999 at most)": 777 a day, 1287 days
    private static void lostByWorthExactly() {
        WordRation x = townOf("y1;w0 1 0;p1;" + "n0 0 0 99;".repeat(7) + "n0 0 0 84;");
        days(x, 1286);
        due("one day less", x.told(10), 999222);
        x.day(1);
        due("just the greatest count", x.told(10), 999999);
        x.day(1);
        due("no more", x.told(10), 999999);
        x.day(60);
        due("no more in sixty days", x.told(10), 999999);
        due("lost are counted on", x.told(9), 8 * 1348);
        x.undo();
        x.undo();
        due("undone to just the greatest count", x.told(10), 999999);
        x.undo();
        due("undone to below it", x.told(10), 999222);
        x.keep(0);
        x.day(60);
        due("again", x.told(10), 999999);
        x.goBack(0);
        due("gone back to below it", x.told(10), 999222);
        due("nothing was met", x.told(8), 0);
    }

    // .. 254 a day: 3937 days make 999998
    private static void lostByWorthFromBelow() {
        WordRation x = townOf("y1;w0 1 0;p1;n0 0 0 99;n0 0 0 99;n0 0 0 56;");
        days(x, 3937);
        due("one below the greatest count", x.told(10), 999998);
        x.day(1);
        due("not above it", x.told(10), 999999);
        due("lost are counted on", x.told(9), 3 * 3938);
        // need by need: the first one of a day is above, those behind it stay
        WordRation y = townOf("y1;w0 1 0;p1;n0 0 0 1;n0 0 0 99;n0 0 0 99;n0 0 0 55;");
        days(y, 3937);
        due("one below the greatest count", y.told(10), 999998);
        y.day(1);
        due("not above it", y.told(10), 999999);
    }

    private static void lostByWorthByDraws() {
        WordRation x = townOf("y1;w0 1 0;p1;" + "n0 0 0 99;".repeat(8));
        for (int i = 1; i <= 21; i++) {
            due("lost", x.drift(60), 480 * i);
        }
        due("792 a day", x.told(10), 997920);
        due("lost", x.drift(2), 8 * 1262);
        due("two days more", x.told(10), 999504);
        due("lost", x.drift(1), 8 * 1263);
        due("not above it", x.told(10), 999999);
    }

    // MET, LOST, SAID, POINTED far below 999999 are counted without end
    private static void countsOfManyDays() {
        WordRation x = townOf("y1;w4 1 0;w0 1 0;o1;p1;" + "n0 0 0 9;".repeat(4) + "n0 1 0 9;".repeat(4));
        days(x, 9000);
        due("met", x.told(8), 72000);
        due("said", x.word(0, 5), 36000);
        due("pointed", x.told(11), 36000);
        due("lost", x.told(9), 0);
        due("days", x.day(60), 9060);
        due("met", x.told(8), 72480);
        due("said", x.word(0, 5), 36240);
        due("pointed", x.told(11), 36240);
        due("pointed once more", x.point(1), 36241);
        due("will be met", x.willBe(99), 792);
    }

    // "n DAYS (1 .. 60)"
    private static void strides() {
        WordRation x = townOf("y50;w1 1 0;p1;n0 0 49 1;");
        due("the least stride", x.day(1), 1);
        due("the greatest stride", x.day(60), 61);
        due("59 days", x.day(59), 120);
        due("the day of the year", x.told(7), 20);
        due("met", x.told(8), 2);
        WordRation y = townOf("y50;w1 1 0;p1;n0 0 49 1;");
        due("the least drift", y.drift(1), 0);
        due("days", y.told(6), 1);
        due("the greatest drift", Math.min(3, y.drift(60)), y.told(9));
        due("days", y.told(6), 61);
    }

    // "FULL: DAYS gone are above 9000 as it is called (n may pass that)"
    private static void lateDays() {
        for (int year : new int[] {1, 7, 99}) {
            WordRation x = townOf("y" + year + ";w1 1 0;p1;");
            days(x, 8999);
            due("8999", x.told(6), 8999);
            due("9000 is not above", x.day(1), 9000);
            due("the day of the year", x.told(7), 9000 % year);
            due("called at 9000", x.day(1), 9001);
            due("called at 9001", x.day(1), FULL);
            due("called at 9001", x.day(60), FULL);
            due("undone", x.undo(), 15);
            due("9000 again", x.day(60), 9060);
            due("the day of the year", x.told(7), 9060 % year);
            due("called at 9060", x.day(1), FULL);
            due("what is left is told on", x.word(0, 3), 1);
            due("said on", x.say(0, 0), 0);
            due("hoarded on", x.hoard(0, 0, 1), NOT);
            due("undone on", x.undo(), 15);
            feed(x, "y1;");
            due("a new town", x.town(), 0);
            due("its first day", x.day(60), 60);
        }
    }

    private static void lateDrift() {
        WordRation x = townOf("y7;w1 1 0;p1;n0 0 0 1;");
        days(x, 8999);
        due("called at 8999", x.drift(1) < 0 ? 1 : 0, 0);
        due("days", x.told(6), 9000);
        due("called at 9000", x.drift(60) < 0 ? 1 : 0, 0);
        due("days", x.told(6), 9060);
        due("called at 9060", x.drift(1), FULL);
        x.undo();
        due("called at 9000 again", x.drift(1) < 0 ? 1 : 0, 0);
        due("days", x.told(6), 9001);
        due("called at 9001", x.drift(1), FULL);
        due("called at 9001", x.drift(60), FULL);
        due("no day either", x.day(1), FULL);
    }

    // hoard, sell: "n (1 .. 99)"; "NOT: not so many are LEFT", "p has not so many"
    private static void hoardAndSell() {
        WordRation x = townOf("y9;w99 1 0;w2 1 0;w0 1 0;p1;p1;p1;p1;p1;");
        due("all 99", x.hoard(0, 0, 99), 99);
        due("none is left", x.word(0, 3), 0);
        due("no more", x.hoard(0, 0, 1), NOT);
        due("all 99 are sold", x.sell(0, 4, 0, 99), 99);
        due("none is the seller's", x.hoarded(0, 0), 0);
        due("no more", x.sell(0, 4, 0, 1), NOT);
        due("98 back", x.sell(4, 0, 0, 98), 98);
        due("one is the last one's", x.hoarded(4, 0), 1);
        due("not two", x.sell(4, 3, 0, 2), NOT);
        due("one", x.sell(4, 3, 0, 1), 1);
        due("hoarded by all", x.word(0, 4), 99);
        due("just as many as are left", x.hoard(4, 1, 2), 2);
        due("and one more", x.hoard(4, 1, 1), NOT);
        due("none of none", x.hoard(4, 2, 1), NOT);
        due("none of none is sold", x.sell(4, 0, 2, 1), NOT);
        due("limits stay", x.word(0, 0), 99);
        due("nothing was said", x.told(12), 7);
    }

    // raise: "n (1 .. 99)"; "(99 at most)"; "as many are LEFT more"
    private static void raise() {
        WordRation x = townOf("y2;w0 1 0;w1 1 0;w98 1 0;w99 1 0;p1;");
        due("by the greatest", x.raise(0, 99), 99);
        due("left", x.word(0, 3), 99);
        due("above 99", x.raise(0, 1), NOT);
        due("just to 99", x.raise(1, 98), 99);
        due("by the least", x.raise(2, 1), 99);
        due("above 99", x.raise(2, 1), NOT);
        due("99 is the most", x.raise(3, 1), NOT);
        x.undo();
        due("one above", x.raise(2, 2), NOT);
        due("by one", x.raise(2, 1), 99);
        x.say(0, 1);
        x.hoard(0, 1, 98);
        due("what is hoarded and said is not left", x.word(1, 3), 0);
        x.day(2);
        due("the limit stays", x.word(1, 0), 99);
        due("it is left again", x.word(1, 3), 99);
        feed(x, "y2;w1 1 0;");
        x.town();
        due("a new town has its own", x.word(0, 0), 1);
    }

    // "16 at most are kept, the oldest are lost"
    private static void undoSixteen() {
        for (int deeds : new int[] {1, 15, 16, 17, 31, 32, 33, 48, 50}) {
            WordRation x = townOf("y9;w99 1 0;p1;");
            for (int i = 1; i <= deeds; i++) {
                x.say(0, 0);
                due("can be undone", x.told(15), Math.min(16, i));
            }
            int kept = Math.min(16, deeds);
            for (int i = kept - 1; i >= 0; i--) {
                due("undo of " + deeds, x.undo(), i);
                due("said", x.word(0, 5), deeds - kept + i);
                due("left", x.word(0, 3), 99 - deeds + kept - i);
            }
            due("no more of " + deeds, x.undo(), NOT);
            due("said", x.word(0, 5), deeds - kept);
            due("one deed more", x.say(0, 0), 99 - deeds + kept - 1);
            due("can be undone", x.told(15), 1);
            due("undo", x.undo(), 0);
        }
    }

    // "day(), say(), around(), point(), hoard(), sell(), raise(), drift()": each of them, one after another
    private static void undoEachDeed() {
        WordRation x = townOf("y4;w9 1 0;w9 1 0;a0 2;o0;p1;p1;n0 0 0 7;n0 0 3 7;");
        String[] before = new String[9];
        for (int i = 0; i < 8; i++) {
            before[i] = section2(x);
            due("deed " + i, deed(x, i) < 0 ? 1 : 0, 0);
            due("can be undone", x.told(15), i + 1);
        }
        for (int i = 7; i >= 0; i--) {
            due("undo of deed " + i, x.undo(), i);
            String now = section2(x);
            due("deed " + i + ": " + before[i] + " / " + now, now.equals(before[i]) ? 1 : 0, 1);
        }
        due("none", x.undo(), NOT);
    }

    private static int deed(WordRation x, int i) {
        switch (i) {
            case 0: return x.hoard(0, 0, 3);
            case 1: return x.say(0, 0);
            case 2: return x.around(1, 0, 0);
            case 3: return x.point(0);
            case 4: return x.sell(0, 1, 0, 1);
            case 5: return x.raise(1, 90);
            case 6: return x.day(4);
            default: return x.drift(5);
        }
    }

    private static String section2(WordRation x) {
        StringBuilder all = new StringBuilder();
        for (int what = 6; what <= 12; what++) {
            all.append(x.told(what)).append(' ');
        }
        for (int w = 0; w < 2; w++) {
            for (int what : new int[] {0, 3, 4, 5}) {
                all.append(x.word(w, what)).append(' ');
            }
            all.append(x.hoarded(0, w)).append(' ').append(x.hoarded(1, w)).append(' ');
        }
        return all.toString();
    }

    private static void undoAtTheBounds() {
        WordRation x = townOf("y2;w1 1 0;p1;p1;n0 0 1 9;");
        x.hoard(1, 0, 1);
        x.day(1);
        x.day(1);
        due("the year is over", x.hoarded(1, 0), 0);
        due("undo of a year's end", x.undo(), 2);
        due("the last day again", x.told(7), 1);
        due("hoarded again", x.hoarded(1, 0), 1);
        due("none left again", x.word(0, 3), 0);
        due("none lost again", x.told(9), 0);
        x.town();
        due("no undo behind town", x.undo(), NOT);
        WordRation y = townOf("y2;w9 1 0;p1;");
        y.say(0, 0);
        feed(y, "x");
        y.town();
        due("a faulty town leaves what can be undone", y.undo(), 0);
        y.seed(8);
        y.drift(1);
        int seed = y.seed(8);
        y.seed(seed);
        y.undo();
        due("the seed stays", y.seed(0), seed);
    }

    // "the least of: 0 ..; its COST ..; its WAYS ..; NONE, if none of these is"; "(of like ones the lesser)"
    private static void cheapest() {
        WordRation x = townOf("y9;w0 1 0;w1 99 0;w0 1 0;w1 1 0;w1 1 0;w1 1 0;w1 1 0;w1 1 0;a2 250;a2 1;p1;p1;");
        due("none of these", x.cheapest(0, 0, 0), NONE);
        due("by none", x.cheapest(0, 0, 1), NONE);
        due("the greatest cost", x.cheapest(0, 1, 0), 99);
        due("by itself", x.cheapest(0, 1, 1), 0);
        due("six words together", x.cheapest(0, 2, 0), 99 + 5);
        due("by the first way", x.cheapest(0, 2, 1), 2);
        x.hoard(1, 3, 1);
        due("one of the six is another one's", x.cheapest(0, 2, 0), NONE);
        due("by none", x.cheapest(0, 2, 1), NONE);
        due("it is one's own", x.cheapest(1, 2, 0), 104);
        WordRation like = townOf("y9;w1 2 0;w1 1 0;w1 1 0;w1 2 0;w0 1 0;w1 1 0;a0 6;a0 8;a4 6;a4 8;o5;a5 4;p1;");
        due("itself ahead of ways as cheap", like.cheapest(0, 0, 1), 0);
        due("the first way ahead of the second", like.cheapest(0, 4, 1), 2);
        due("as cheap", like.cheapest(0, 4, 0), 2);
        due("pointing", like.cheapest(0, 5, 1), 1);
        due("for nothing", like.cheapest(0, 5, 0), 0);
        WordRation free = townOf("y9;w1 1 0;w1 1 0;o0;o1;a0 2;a1 1;p1;");
        due("pointing ahead of a way for nothing", free.cheapest(0, 0, 1), 1);
        due("pointing ahead of a way for nothing", free.cheapest(0, 1, 1), 1);
        WordRation beside = townOf("y9;w0 5 0;w1 1 0;w1 1 0;w0 5 0;a0 2;a0 2;p1;");
        due("another word's ways are none of its own: itself", beside.cheapest(0, 2, 1), 0);
        due("another word's ways are none of its own: none", beside.cheapest(0, 3, 1), NONE);
        String row = "y9;w1 99 0;" + "w0 1 0;".repeat(7) + "a7 64;a6 32;a5 16;a4 8;a3 4;a2 2;a1 1;p1;";
        due("seven ways deep", townOf(row).cheapest(0, 7, 0), 99);
        due("by the first", townOf(row).cheapest(0, 7, 1), 2);
    }

    // "behind how many DAYS (0 .. 99) none of a WORD is LEFT first, ahead of the YEAR's end; NONE"
    private static void runsOut() {
        WordRation x = townOf("y99;w1 1 0;w0 1 0;w1 1 0;w1 1 0;p1;n0 0 97 1;n0 2 98 1;n0 3 0 1;");
        due("behind all days but the last", x.runsOut(0), 98);
        due("now", x.runsOut(1), 0);
        due("the last day's end is the year's", x.runsOut(2), NONE);
        due("behind the first day", x.runsOut(3), 1);
        days(x, 97);
        due("tomorrow", x.runsOut(0), 1);
        x.day(1);
        due("on the last day: now", x.runsOut(0), 0);
        due("on the last day: not ahead of its end", x.runsOut(2), NONE);
        x.say(0, 2);
        due("said on the last day", x.runsOut(2), 0);
        x.day(1);
        due("in the next year again", x.runsOut(0), 98);
        due("none of a limit of 0", x.runsOut(1), 0);
        WordRation two = townOf("y2;w1 1 0;p1;n0 0 0 1;");
        due("of two days", two.runsOut(0), 1);
        WordRation next = townOf("y3;w2 1 0;p1;n0 0 0 1;n0 0 0 1;");
        next.day(1);
        next.raise(0, 1);
        due("not in this year", next.runsOut(0), NONE);
        next.day(2);
        due("three are left then", next.runsOut(0), NONE);
    }

    // "how many NEEDS are MET in the next n DAYS (1 .. 99)"
    private static void willBe() {
        WordRation x = townOf("y99;w9 1 0;p1;n0 0 0 1;n0 0 97 1;n0 0 98 1;");
        due("the least", x.willBe(1), 1);
        due("97 days", x.willBe(97), 1);
        due("98 days", x.willBe(98), 2);
        due("the greatest", x.willBe(99), 3);
        x.day(1);
        due("round the year's end", x.willBe(99), 3);
        due("not yet", x.willBe(96), 0);
        WordRation y = townOf("y1;w0 1 0;p1;n0 0 0 1;");
        due("none is met", y.willBe(99), 0);
        WordRation z = townOf("y1;w8 1 0;p1;" + "n0 0 0 1;".repeat(8));
        due("eight a day", z.willBe(99), 792);
        due("nothing has changed", z.told(8) + z.told(6) + z.word(0, 5) + z.told(15), 0);
    }

    // "their DAY is this one or a later one"; "NONE: it is not to come"; "of like ones the first"
    private static void plan() {
        WordRation x = townOf("y3;w9 1 0;p1;n0 0 0 5;n0 0 1 6;n0 0 2 7;");
        int[][] due = {{18, 3, 1, 1, 1}, {13, 2, NONE, 1, 1}, {7, 1, NONE, NONE, 1}, {18, 3, 1, 1, 1}};
        for (int day = 0; day < 4; day++) {
            due("worth on day " + day, x.plan(NONE), due[day][0]);
            due("words on day " + day, x.plan(-2), due[day][1]);
            for (int n = 0; n < 3; n++) {
                due("need " + n + " on day " + day, x.plan(n), due[day][2 + n]);
            }
            x.day(1);
        }
        WordRation y = townOf("y3;w9 1 0;p1;n0 0 0 5;");
        y.day(1);
        due("none to come: worth", y.plan(NONE), 0);
        due("none to come: words", y.plan(-2), 0);
        due("none to come", y.plan(0), NONE);
        WordRation z = townOf("y3;w0 1 0;p1;n0 0 0 99;");
        due("none can be met: worth", z.plan(NONE), 0);
        due("none can be met", z.plan(0), 0);
        WordRation like = townOf("y3;w1 1 0;w1 1 0;w1 1 0;a0 2;a0 4;p1;n0 0 0 5;n0 0 0 5;");
        due("the first by its word", like.plan(0), 1);
        due("the second by its first way", like.plan(1), 2);
        due("two words", like.plan(-2), 2);
        WordRation second = townOf("y3;w0 1 0;w0 1 0;w1 1 0;a0 2;a0 4;p1;n0 0 0 5;");
        due("by its second way", second.plan(0), 3);
        WordRation pointed = townOf("y3;w1 1 0;o0;p1;n0 0 0 5;n0 0 0 0;");
        due("by pointing: fewer words", pointed.plan(0), 4);
        due("of no worth: not met", pointed.plan(1), 0);
        due("no words", pointed.plan(-2), 0);
    }

    // "no WORD is used more often than it is LEFT and HOARDED by all together", with as many needs as can be
    private static void planOfEight() {
        String eight = "n0 0 0 1;n0 0 0 2;n0 0 0 3;n0 0 0 4;n0 0 0 5;n0 0 0 6;n0 0 0 7;n0 0 0 8;";
        WordRation x = townOf("y3;w7 1 0;p1;p0;" + eight);
        due("all but the least", x.plan(NONE), 35);
        due("the least is not met", x.plan(0), 0);
        due("the others are", x.plan(1) + x.plan(7), 2);
        due("seven words", x.plan(-2), 7);
        x.hoard(1, 0, 7);
        due("hoarded by another: as many", x.plan(NONE), 35);
        x.raise(0, 1);
        due("one left, seven hoarded", x.plan(NONE), 36);
        due("eight words", x.plan(-2), 8);
        due("the least is met", x.plan(0), 1);
        x.say(0, 0);
        x.say(1, 0);
        due("six", x.plan(NONE), 33);
        due("the least two are not met", x.plan(0) + x.plan(1), 0);
        due("the third is", x.plan(2), 1);
    }

    // "0: there is none"
    private static void price() {
        String eight = "n0 0 0 1;n0 0 0 2;n0 0 0 3;n0 0 0 4;n0 0 0 5;n0 0 0 6;n0 0 0 7;n0 0 0 8;";
        WordRation x = townOf("y3;w7 1 0;w0 1 0;p1;p0;" + eight);
        due("seven for eight", x.price(0), 1);
        x.raise(0, 1);
        due("eight for eight", x.price(0), 0);
        due("nobody needs it", x.price(1), 0);
        for (int said = 1; said <= 8; said++) {
            x.say(0, 0);
            due("of " + (8 - said), x.price(0), said);
        }
        x.day(1);
        due("none is to come", x.price(0), 0);
        WordRation none = townOf("y3;w0 1 0;p1;n0 0 0 99;");
        due("the greatest worth", none.price(0), 99);
        WordRation nothing = townOf("y3;w0 1 0;p1;n0 0 0 0;");
        due("of no worth", nothing.price(0), 0);
        WordRation sellers = townOf("y3;w2 1 0;p1;p1;n0 0 2 4;n0 0 2 6;n1 0 2 6;");
        sellers.hoard(1, 0, 1);
        due("one left, one hoarded", sellers.price(0), 4);
        sellers.day(2);
        due("to come on this day", sellers.price(0), 4);
        sellers.day(1);
        due("to come in the next year", sellers.price(0), 4);
    }

    // "pairs (10 times who sells, and who buys; rising)": "how many; the i-th; NONE"
    private static void sells() {
        WordRation x = townOf("y3;w3 1 0;p1;p1;p1;p1;p1;n0 0 1 1;n4 0 1 1;");
        x.hoard(1, 0, 1);
        x.hoard(2, 0, 1);
        due("one is left", x.sells(0, NONE), 0);
        x.hoard(3, 0, 1);
        due("none is left", x.sells(0, NONE), 6);
        int[] pairs = {10, 14, 20, 24, 30, 34};
        for (int i = 0; i < 6; i++) {
            due("sells " + i, x.sells(0, i), pairs[i]);
        }
        due("no seventh", x.sells(0, 6), NONE);
        due("far above", x.sells(0, Integer.MAX_VALUE), NONE);
        due("below NONE", x.sells(0, -2), NONE);
        due("far below NONE", x.sells(0, Integer.MIN_VALUE), NONE);
        x.day(1);
        due("the need is of this day", x.sells(0, NONE), 6);
        x.day(1);
        due("the need is over", x.sells(0, NONE), 0);
        due("no first", x.sells(0, 0), NONE);
        WordRation none = townOf("y3;w0 1 0;p1;p1;n1 0 1 1;");
        due("nobody hoarded one", none.sells(0, NONE), 0);
        WordRation greatest = townOf("y3;w1 1 0;p1;p1;p1;p1;p1;n3 0 1 1;");
        greatest.hoard(4, 0, 1);
        due("the greatest pair", greatest.sells(0, 0), 43);
        WordRation most = townOf("y3;w1 1 0;p1;p1;p1;p1;p1;n1 0 1 1;n2 0 1 1;n3 0 1 1;n4 0 1 1;");
        most.hoard(0, 0, 1);
        due("all others buy", most.sells(0, NONE), 4);
        due("the last of them", most.sells(0, 3), 4);
    }

    // "all LEFT ones .. to all PERSONS alike, what is left over one each to those with most NEEDS (of like ones the lesser)"
    private static void share() {
        int[][] due = {{0, 0, 0, 0, 0, 0}, {1, 0, 0, 0, 1, 0}, {4, 1, 1, 0, 1, 1}, {5, 1, 1, 1, 1, 1}, {6, 1, 1, 1, 2, 1},
            {99, 20, 20, 19, 20, 20}, {95, 19, 19, 19, 19, 19}, {96, 19, 19, 19, 20, 19}, {97, 19, 19, 19, 20, 20}};
        for (int[] one : due) {
            WordRation x = townOf("y3;w" + one[0] + " 1 0;p1;p1;p1;p1;p1;n3 0 1 1;n3 0 0 1;n4 0 1 1;");
            int sum = 0;
            for (int p = 0; p < 5; p++) {
                due("share of " + p + " of " + one[0], x.share(p, 0), one[p + 1]);
                sum += x.share(p, 0);
            }
            due("all of them", sum, one[0]);
        }
        WordRation like = townOf("y3;w2 1 0;p1;p1;p1;n0 0 0 1;n2 0 2 1;n1 0 2 1;");
        due("of like ones the lesser", like.share(0, 0) * 100 + like.share(1, 0) * 10 + like.share(2, 0), 110);
        like.say(0, 0);
        due("one", like.share(0, 0) * 100 + like.share(1, 0) * 10 + like.share(2, 0), 100);
        like.day(1);
        due("none left", like.share(0, 0) + like.share(1, 0) + like.share(2, 0), 0);
        like.raise(0, 1);
        due("the first has no need any more", like.share(0, 0) * 100 + like.share(1, 0) * 10 + like.share(2, 0), 10);
        WordRation alone = townOf("y3;w99 1 0;p0;");
        due("one alone", alone.share(0, 0), 99);
        alone.hoard(0, 0, 99);
        due("hoarded ones are not shared", alone.share(0, 0), 0);
    }

    // "how many more of a WORD must be LEFT": none, and as many as can be
    private static void more() {
        String eight = "n0 0 0 1;n1 0 0 1;n0 0 1 1;n0 0 1 1;n0 0 2 1;n1 0 2 1;n0 0 2 1;n0 0 2 1;";
        WordRation x = townOf("y3;w0 1 0;w8 1 0;p1;p1;p1;" + eight);
        due("none is left", x.more(0), 8);
        due("nobody needs it", x.more(1), 0);
        x.raise(0, 7);
        due("one too few", x.more(0), 1);
        x.raise(0, 1);
        due("just enough", x.more(0), 0);
        x.raise(0, 1);
        due("one too many", x.more(0), 0);
        x.hoard(2, 0, 2);
        due("hoarded by one that has no need of it", x.more(0), 1);
        x.sell(2, 1, 0, 2);
        due("hoarded by one that has two", x.more(0), 0);
        x.hoard(1, 0, 1);
        due("one more than it needs", x.more(0), 0);
        x.hoard(1, 0, 1);
        due("two more than it needs", x.more(0), 1);
        x.day(2);
        due("on the last day", x.more(0), 1);
        due("left", x.word(0, 3), 2);
    }

    // "k WORDS (0 .. 9) for n nights (0 .. 20)"
    private static void fire() {
        WordRation x = new WordRation();
        for (int k = 0; k <= 9; k++) {
            due("no nights", x.fire(k, 0), 0);
            due("one night", x.fire(k, 1), k == 0 ? 0 : 3500);
        }
        for (int n = 0; n <= 20; n++) {
            due("no words", x.fire(0, n), 0);
            int enough = Math.min(n, 9);
            due("a word for each night", x.fire(enough, enough), mean(enough, enough));
            due("nine words", x.fire(9, n), mean(9, n));
        }
        due("two nights", x.fire(1, 2), 4250);
        due("three nights, cut", x.fire(1, 3), 4666);
        due("the most", x.fire(9, 20), 44210);
        due("one for twenty", x.fire(1, 20), mean(1, 20));
        due("as the first", x.fire(1, 1), 3500);
    }

    private static int mean(int k, int n) {
        if (n == 0) {
            return 0;
        }
        int sum = 0;
        int not = mean(k, n - 1);
        int cry = k == 0 ? 0 : mean(k - 1, n - 1);
        for (int worth = 1; worth <= 6; worth++) {
            sum += k == 0 ? not : Math.max(not, 1000 * worth + cry);
        }
        return sum / 6;
    }

    // "pairs of WORDS (10 times the lesser and the other; rising)": "how many; the i-th; NONE"
    private static void rhymes() {
        WordRation x = townOf("y3;" + EIGHT_WORDS + "p1;");
        due("all pairs of eight", x.rhymes(NONE), 28);
        due("the first", x.rhymes(0), 1);
        due("the seventh", x.rhymes(6), 7);
        due("the eighth", x.rhymes(7), 12);
        due("the last", x.rhymes(27), 67);
        due("no more", x.rhymes(28), NONE);
        due("far above", x.rhymes(Integer.MAX_VALUE), NONE);
        due("below NONE", x.rhymes(-2), NONE);
        due("far below NONE", x.rhymes(Integer.MIN_VALUE), NONE);
        x.hoard(0, 0, 1);
        due("one is not left", x.rhymes(NONE), 21);
        due("the first", x.rhymes(0), 12);
        x.say(0, 7);
        due("the last one is not left", x.rhymes(NONE), 15);
        due("the last", x.rhymes(14), 56);
        WordRation none = townOf("y3;w1 1 0;w1 1 9;w0 1 9;p1;");
        due("none", none.rhymes(NONE), 0);
        due("no first", none.rhymes(0), NONE);
        none.raise(2, 1);
        due("one", none.rhymes(NONE), 1);
        due("the greatest rhyme", none.rhymes(0), 12);
    }

    // "NEVER: WORDS (a SET) never SAID"
    private static void never() {
        WordRation x = townOf("y1;" + EIGHT_WORDS + "o0;p1;");
        due("all eight", x.told(12), 255);
        x.point(0);
        x.hoard(0, 7, 1);
        due("neither pointed at nor hoarded is said", x.told(12), 255);
        for (int w = 0; w < 8; w++) {
            x.say(0, w);
            due("without the first ones", x.told(12), 255 - ((2 << w) - 1));
        }
        due("none", x.told(12), 0);
        x.day(1);
        due("not in the next year either", x.told(12), 0);
        x.undo();
        x.undo();
        due("undone", x.told(12), 128);
    }

    // "odds that nothing is said in n DAYS (0 .. 60), each by q of a hundred (0 .. 100)"
    private static void silent() {
        WordRation x = new WordRation();
        due("no days, no odds", x.silent(0, 0), 1000000000);
        due("no days, all odds", x.silent(0, 100), 1000000000);
        due("one day, no odds", x.silent(1, 0), 0);
        due("sixty days, no odds", x.silent(60, 0), 0);
        due("sixty days, all odds", x.silent(60, 100), 1000000000);
        due("one day, the least odds", x.silent(1, 1), 10000000);
        due("one day, the greatest odds but all", x.silent(1, 99), 990000000);
        due("four days, the least odds", x.silent(4, 1), 10);
        due("five days, the least odds: cut", x.silent(5, 1), 0);
        long odds = 1000000000;
        for (int n = 1; n <= 60; n++) {
            odds = odds * 99 / 100;
            due("cut each day", x.silent(n, 99), odds);
        }
    }

    // "KNOTS, of a DAY (0 .. 98): how many .. FULL (6)"
    private static void knots() {
        WordRation x = townOf("y1;" + EIGHT_WORDS + "p1;");
        due("the least", x.knot(0, 0, false), 1);
        due("the greatest", x.knot(7, 98, false), 2);
        due("days of no year, too", x.knot(3, 1, false), 3);
        due("the same again", x.knot(3, 1, false), 4);
        due("the fifth", x.knot(0, 97, false), 5);
        due("five", x.told(13), 5);
        due("the sixth", x.knot(0, 1, true), 6);
        due("six", x.told(13), 6);
        due("the sixth counts", x.who(), 0);
        due("the seventh", x.knot(0, 1, true), FULL);
        due("all six are torn", x.tear(), 6);
        due("the first again", x.knot(0, 98, true), 1);
        x.town();
        due("no knots without a town", x.told(13), 0);
    }

    // "PERSONS (a SET) by which all KNOTS are so"
    private static void who() {
        WordRation x = townOf("y3;w1 1 0;w1 1 0;p1;p1;p0;p1;p0;n4 1 2 1;n3 1 2 1;");
        due("all five", x.who(), 31);
        x.knot(1, 2, true);
        due("the honest with a need, the liars without", x.who(), 12);
        x.knot(0, 98, true);
        due("liars alone", x.who(), 4);
        x.knot(1, 2, false);
        due("nobody", x.who(), 0);
        x.tear();
        x.knot(1, 2, false);
        due("the last one alone and the honest without a need", x.who(), 19);
        x.knot(1, 1, true);
        due("the last one", x.who(), 16);
    }

    // "100 times a WORD and a DAY (of the YEAR)": the least and the greatest; "NONE: none parts them"
    private static void ask() {
        String town = EIGHT_WORDS + "p1;p1;p1;p1;p1;";
        due("the greatest", townOf("y99;" + town + "n0 7 98 1;").ask(), 798);
        due("the least", townOf("y99;" + town + "n0 0 0 1;").ask(), 0);
        due("of like ones the least", townOf("y99;" + town + "n0 7 98 1;n1 7 97 1;n2 6 98 1;").ask(), 698);
        due("two from three is better", townOf("y99;" + town + "n0 0 0 1;n1 7 98 1;n2 7 98 1;").ask(), 798);
        due("three from two is as good", townOf("y99;" + town + "n0 7 98 1;n1 7 98 1;n2 7 98 1;").ask(), 798);
        due("four from one is worse", townOf("y99;" + town + "n0 0 0 1;n1 0 0 1;n2 0 0 1;n3 0 0 1;n0 7 98 1;n1 7 98 1;").ask(), 798);
        due("all alike", townOf("y99;" + town).ask(), NONE);
        due("one alone", townOf("y2;w1 1 0;p1;n0 0 0 1;").ask(), NONE);
        due("the last day of the year", townOf("y2;w1 1 0;p1;p1;n0 0 1 1;").ask(), 1);
        WordRation x = townOf("y1;w1 1 0;p1;p0;n0 0 0 1;");
        due("a day behind the year would part them", x.ask(), NONE);
        x.knot(0, 98, true);
        due("one is left", x.who(), 2);
        due("nothing to ask of one", x.ask(), NONE);
        x.knot(0, 98, false);
        due("nothing to ask of nobody", x.ask(), NONE);
        // only those by which the knots are so: without 0, 2 and 4 word 0 does not part, with them it would be best
        WordRation y = townOf("y3;w1 1 0;w1 1 0;w1 1 0;p1;p1;p1;p1;p1;n0 0 0 1;n2 0 0 1;n1 1 1 1;n3 2 2 1;n1 2 0 1;n3 2 0 1;");
        due("two from three", y.ask(), 0);
        y.knot(2, 0, true);
        due("1 and 3", y.who(), 10);
        due("one from one", y.ask(), 101);
        WordRation z = townOf("y2;w1 1 0;p1;p0;p1;p0;p1;n0 0 0 1;n1 0 0 1;n2 0 0 1;n3 0 0 1;n4 0 0 1;"
                + "n0 0 1 1;n1 0 1 1;");
        z.knot(0, 0, true);
        due("the honest", z.who(), 21);
        due("one from two", z.ask(), 1);
    }

    // "An entry behind THE BOOK (0 .. 99): how many .. FULL (15)"; "WRONG: the first that is otherwise now; NONE"
    private static void book() {
        WordRation x = townOf("y2;w99 1 0;w0 1 0;" + "w1 1 0;".repeat(6) + "p1;");
        due("an empty book", x.judge(), NONE);
        due("the greatest", x.write(0, 99), 1);
        due("the least", x.write(1, 0), 2);
        for (int i = 3; i <= 14; i++) {
            due("entries", x.write(2 + i % 6, 1), i);
        }
        due("fourteen", x.told(14), 14);
        due("all are right", x.judge(), NONE);
        due("the last", x.write(7, 0), 15);
        due("fifteen", x.told(14), 15);
        due("the last is wrong", x.judge(), 14);
        due("one too many", x.write(7, 1), FULL);
        x.say(0, 7);
        due("now it is right, an earlier one wrong", x.judge(), 4);
        x.say(0, 0);
        due("now the first is wrong", x.judge(), 0);
        x.day(2);
        due("the last alone in the next year", x.judge(), 14);
        due("all fifteen are torn", x.tear(), 15);
        due("none", x.judge(), NONE);
        due("the first again", x.write(0, 98), 1);
        due("is wrong", x.judge(), 0);
        x.town();
        due("no book without a town", x.told(14), 0);
    }

    // "how much both had": with both full, and with none
    private static void tear() {
        WordRation x = townOf("y2;w1 1 0;p1;");
        due("nothing", x.tear(), 0);
        for (int i = 0; i < 6; i++) {
            x.knot(0, 0, true);
        }
        for (int i = 0; i < 15; i++) {
            x.write(0, 1);
        }
        due("both", x.tear(), 21);
        due("nothing again", x.tear(), 0);
        x.write(0, 1);
        due("the book alone", x.tear(), 1);
        x.knot(0, 0, true);
        due("a knot alone", x.tear(), 1);
        due("without a town", new WordRation().tear(), 0);
    }

    // "THE SEED becomes v (0 .. 2147483647): what it was"
    private static void seeds() {
        WordRation x = new WordRation();
        due("0 at first", x.seed(Integer.MAX_VALUE), 0);
        due("the greatest", x.seed(1), Integer.MAX_VALUE);
        due("the one ahead", x.seed(Integer.MAX_VALUE - 1), 1);
        due("the greatest but one", x.seed(0), Integer.MAX_VALUE - 1);
        due("the least", x.seed(0), 0);
        x.seed(4);
        x.town();
        due("it stays behind town", x.seed(4), 4);
        x.feed('x');
        x.town();
        due("it stays behind a faulty town", x.seed(0), 4);
    }

    private static long next(long seed) {
        return (seed * 1103515245L + 12345L) % (1L << 31);
    }

    // "each DRAW it becomes it times 1103515245 and 12345, left over by 2 to the 31": three draws a day
    private static void draws() {
        for (int seed : new int[] {0, 1, 12345, 1 << 30, Integer.MAX_VALUE - 1, Integer.MAX_VALUE}) {
            for (String town : new String[] {"y1;w0 1 0;p1;", "y99;" + EIGHT_WORDS + FIVE_PERSONS}) {
                WordRation x = townOf(town);
                x.seed(seed);
                x.drift(1);
                due("three draws from " + seed, x.seed(seed), next(next(next(seed))));
                x.drift(60);
                long after = seed;
                for (int i = 0; i < 180; i++) {
                    after = next(after);
                }
                due("180 draws from " + seed, x.seed(0), after);
            }
        }
        // the draws from 1 are 16838, 5758, 10113: of 5 persons the last but one, of 8 words 6, of 4 deeds 1
        WordRation x = townOf("y9;" + EIGHT_WORDS + FIVE_PERSONS);
        x.seed(1);
        x.drift(1);
        due("hoarded by draws", x.hoarded(16838 % 5, 5758 % 8), 1);
        due("hoarded", x.word(5758 % 8, 4), 1);
        x.seed(1);
        x.drift(1);
        due("none is left to hoard", x.hoarded(16838 % 5, 5758 % 8), 1);
    }

    /** The least seed whose three draws are this person, word and deed. */
    private static int seedOf(int persons, int words, int p, int w, int deed) {
        for (int seed = 0; seed < 1000000; seed++) {
            long first = next(seed);
            long second = next(first);
            long third = next(second);
            if (first / 65536 % persons == p && second / 65536 % words == w && third / 65536 % 4 == deed) {
                return seed;
            }
        }
        return NONE;
    }

    private static void drift(WordRation x, int p, int w, int deed) {
        x.seed(seedOf(2, 2, p, w, deed));
        due("lost", x.drift(1), 0);
    }

    // "on 0 that is SAID, on 1 one more HOARDED, on 2 it goes its first WAY round, if these can be; on 3 .., if one can"
    private static void deedsByDraws() {
        String town = "y99;w1 1 0;w2 1 0;a0 2;o0;p1;p1;";
        WordRation said = townOf(town);
        drift(said, 0, 0, 0);
        due("the last one is said", said.word(0, 5) * 10 + said.word(0, 3), 10);
        drift(said, 0, 0, 0);
        due("it cannot be said again", said.word(0, 5) * 10 + said.word(0, 3), 10);
        WordRation hoarded = townOf(town);
        drift(hoarded, 1, 0, 1);
        due("the last one is hoarded", hoarded.hoarded(1, 0) * 10 + hoarded.word(0, 3), 10);
        drift(hoarded, 1, 0, 1);
        due("none is left to hoard", hoarded.hoarded(1, 0), 1);
        drift(hoarded, 0, 0, 0);
        due("another one's is not said", hoarded.word(0, 5), 0);
        drift(hoarded, 1, 0, 0);
        due("its own is said", hoarded.word(0, 5) * 10 + hoarded.hoarded(1, 0), 10);
        WordRation round = townOf(town);
        drift(round, 0, 1, 2);
        due("there is no way round", round.told(12), 3);
        for (int i = 1; i <= 3; i++) {
            drift(round, 0, 0, 2);
            due("by its first way round, twice", round.word(1, 5), Math.min(2, i));
        }
        due("the word itself is not said", round.word(0, 5), 0);
        WordRation pointed = townOf(town);
        drift(pointed, 0, 1, 3);
        due("one cannot point", pointed.told(11), 0);
        drift(pointed, 0, 0, 3);
        drift(pointed, 1, 0, 3);
        due("one can", pointed.told(11), 2);
        due("nothing goes", pointed.word(0, 3) + pointed.word(1, 3), 3);
        due("each drift can be undone, whatever it did", pointed.told(15), 3);
    }

    // "ahead of each, if there are PERSONS and WORDS": else no draws; "NOT: no TOWN"
    private static void drawsWithNobody() {
        for (String town : new String[] {"y1;", "y1;w5 1 0;o0;", "y1;p1;", "y99;p0;p0;p0;p0;p0;"}) {
            WordRation x = townOf(town);
            x.seed(7);
            due("nothing is lost", x.drift(60), 0);
            due("days", x.told(6), 60);
            due("no draws", x.seed(0), 7);
            due("nobody pointed", x.told(11), 0);
        }
        WordRation none = new WordRation();
        none.seed(7);
        due("no town", none.drift(60), NOT);
        due("no draws", none.seed(0), 7);
    }

    // "IMAGES 0, 1 keep all of section 2, THE SEED"; "nothing can be undone then"; "NOT: it was not kept"
    private static void images() {
        WordRation x = townOf("y4;w9 1 0;w9 1 0;a0 2;o0;p1;p1;n0 0 0 7;n0 0 3 7;");
        x.seed(Integer.MAX_VALUE);
        for (int i = 0; i < 8; i++) {
            deed(x, i);
        }
        x.seed(31);
        String first = section2(x);
        due("image 1", x.keep(1), 1);
        due("nothing can be undone", x.told(15), 0);
        due("image 0 was not kept", x.goBack(0), NOT);
        x.seed(32);
        x.raise(0, 3);
        x.drift(60);
        x.seed(33);
        String second = section2(x);
        due("image 0", x.keep(0), 1);
        x.day(60);
        x.point(0);
        due("gone back to 1", x.goBack(1), 1);
        due("all as in 1: " + first, section2(x).equals(first) ? 1 : 0, 1);
        due("nothing can be undone", x.told(15), 0);
        due("nor undone", x.undo(), NOT);
        due("the seed of 1", x.seed(0), 31);
        due("gone back to 0", x.goBack(0), 1);
        due("all as in 0: " + second, section2(x).equals(second) ? 1 : 0, 1);
        due("the seed of 0", x.seed(0), 33);
        x.town();
        due("gone with the town", x.goBack(0), NOT);
        due("gone with the town", x.goBack(1), NOT);
        WordRation none = new WordRation();
        due("without a town", none.keep(1), 1);
        due("without a town", none.goBack(1), 1);
        due("still no town", none.day(1), NOT);
    }
}

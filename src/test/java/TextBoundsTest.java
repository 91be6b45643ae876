import java.util.ArrayList;
import java.util.List;

/** Section 1 of the document, sentence by sentence: each bound of the text just inside and just outside. */
public final class TextBoundsTest {
    private static final int NONE = WordRation.NONE;
    private static final int FULL = WordRation.FULL;
    private static final Check CHECK = new Check();

    private static final String WORD = "w1 1 1;";
    private static final String EIGHT_WORDS = WORD.repeat(8);

    private TextBoundsTest() { }

    public static void main(String[] args) {
        lengthOfTheText();
        emptyText();
        yearFirst();
        yearOnce();
        daysOfAYear();
        wordNumbers();
        wayNumbers();
        waySets();
        pointNumbers();
        personNumbers();
        needNumbers();
        manyWords();
        manyWays();
        twoWaysOfAWord();
        pointedOnce();
        manyPersons();
        manyNeeds();
        figures();
        blanks();
        noWords();
        endOfTheText();
        leastOfSeveralFaults();
        firstOfSeveralFaults();
        placeOfTheLatest();
        CHECK.end("TextBoundsTest");
    }

    private static WordRation fed(String text) {
        WordRation x = new WordRation();
        for (int i = 0; i < text.length(); i++) {
            CHECK.due("letter " + i + " of " + text, x.feed(text.charAt(i)), i + 1);
        }
        return x;
    }

    private static WordRation good(String text, int words) {
        WordRation x = fed(text);
        CHECK.due("town of '" + text + "'", x.town(), words);
        CHECK.due("fault of '" + text + "'", x.fault(), NONE);
        return x;
    }

    private static WordRation good(String text) {
        return good(text, text.length() - text.replace("w", "").length());
    }

    private static void bad(String text, int fault, int place) {
        WordRation x = fed(text);
        CHECK.due("town of '" + text + "'", x.town(), -10 - fault);
        CHECK.due("fault of '" + text + "'", x.fault(), place);
        CHECK.due("no town of '" + text + "'", x.told(0), 0);
        CHECK.due("no words of '" + text + "'", x.told(1), 0);
        CHECK.due("no letters of '" + text + "'", x.told(5), 0);
    }

    /** A number between two parts of a text: what is in its bounds is good, all else has fault 2 at its first figure. */
    private static void bounds(String ahead, String behind, int least, int most) {
        int place = ahead.length();
        List<String> outside = new ArrayList<>(List.of("999", "1000", "0000", "2147483647", "2147483648", "4294967295",
                "4294967296", "4294967297", "18446744073709551617", "99999999999999999999", "0000000000000000"));
        outside.add("000" + least);
        outside.add("0" + String.format("%03d", most));
        outside.add(String.valueOf(most + 1));
        if (least > 0) {
            outside.add(String.valueOf(least - 1));
            outside.add("000");
        }
        for (String number : outside) {
            bad(ahead + number + behind, 2, place);
        }
        for (String number : new String[] {String.valueOf(least), String.valueOf(most), String.format("%03d", least),
            String.format("%02d", most)}) {
            good(ahead + number + behind);
        }
        bad(ahead + "-" + least + behind, 1, place);
        bad(ahead + "+" + least + behind, 1, place);
        bad(ahead + "x" + behind, 1, place);
        bad(ahead, 1, place);
    }

    // "is told in a text (240 letters at most)"
    private static void lengthOfTheText() {
        String most = "y99;" + " ".repeat(240 - 11) + "w9 9 9;";
        WordRation x = fed(most);
        CHECK.due("letter 241", x.feed(';'), FULL);
        CHECK.due("letter 241 again", x.feed(' '), FULL);
        CHECK.due("240 letters are told", x.told(5), 240);
        CHECK.due("town of 240 letters", x.town(), 1);
        CHECK.due("it is empty then", x.told(5), 0);
        for (int i = 1; i <= 240; i++) {
            CHECK.due("letter " + i + " of the next text", x.feed(i == 240 ? 'x' : ' '), i);
        }
        CHECK.due("letter 241 of the next text", x.feed(' '), FULL);
        CHECK.due("a fault at the last letter", x.town(), -11);
        CHECK.due("its place", x.fault(), 239);
        good("y1;" + " ".repeat(240 - 10) + WORD);
        good("y1;" + " ".repeat(239 - 10) + WORD);
        bad("y1;" + " ".repeat(240 - 9) + "w1 1 1", 1, 240);
        bad("y1;" + " ".repeat(240 - 10) + "w1 1 1x", 1, 239);
        bad("y1;" + " ".repeat(240 - 10) + "w1 1 10", 2, 238);
        bad("y1;" + " ".repeat(240 - 4) + "w", 1, 240);
        good(" ".repeat(237) + "y1;", 0);
        String dense = "y8;" + "w1 1 3;".repeat(8) + "a0 2;a1 4;a2 8;a3 16;a4 32;a5 64;a6 128;a7 1;a0 128;a1 1;o6;p1;p1;p1;p1;p0;"
                + "n0 0 0 1;n1 1 1 2;n2 2 2 3;n3 3 3 4;n4 4 4 5;n0 5 5 6;n1 6 6 7;n2 7 7 8;";
        CHECK.due("letters of a full town, at most", Math.max(240, dense.length()), 240);
        WordRation full = good(dense, 8);
        int[] told = {8, 8, 10, 5, 8};
        for (int what = 0; what < told.length; what++) {
            CHECK.due("full town: told(" + what + ")", full.told(what), told[what]);
        }
    }

    // "An empty text (or one of blanks alone) has no FAULT: no TOWN."
    private static void emptyText() {
        for (int blanks : new int[] {0, 1, 2, 239, 240}) {
            WordRation x = good(" ".repeat(blanks), 0);
            CHECK.due("no days", x.told(0), 0);
            CHECK.due("no town", x.day(1), WordRation.NOT);
        }
        WordRation x = good("y5;" + WORD, 1);
        x.day(3);
        CHECK.due("an empty text behind a town", x.town(), 0);
        for (int what = 0; what <= 15; what++) {
            CHECK.due("behind an empty text: told(" + what + ")", x.told(what), 0);
        }
        bad(" " + (char) 9, 1, 1);
        bad("" + (char) 10, 1, 0);
        bad("" + (char) 160, 1, 0);
        bad("" + (char) 0, 1, 0);
    }

    // "first": "another word first than 'y'"
    private static void yearFirst() {
        for (String first : new String[] {"w1 1 1;", "a0 1;", "o0;", "p1;", "n0 0 0 0;"}) {
            bad(first, 1, 0);
            bad("  " + first + "y5;", 1, 2);
            bad(first.substring(0, 1), 1, 0);
        }
        good("y5;", 0);
        good("  y5;", 0);
    }

    // "once": "'y' again (at it)"
    private static void yearOnce() {
        bad("y5;y5;", 3, 3);
        bad("y5;y", 3, 3);
        bad("y5; y0;", 3, 4);
        bad("y5;" + WORD + "y", 3, 10);
        bad("y5;" + EIGHT_WORDS + "y5;", 3, 59);
        bad("y5;p1;y", 3, 6);
    }

    // "a YEAR has D DAYS, 1 .. 99"
    private static void daysOfAYear() {
        bounds("y", ";", 1, 99);
        bounds("  y ", " ; w1 1 1;", 1, 99);
        CHECK.due("a year of one day", good("y1;").told(0), 1);
        CHECK.due("a year of 99 days", good("y99;").told(0), 99);
        CHECK.due("a year of 099 days", good("y099;").told(0), 99);
    }

    // "LIMIT L a YEAR, 0 .. 99; COST C, 1 .. 99; RHYME R, 0 .. 9"
    private static void wordNumbers() {
        bounds("y5;w", " 1 1;", 0, 99);
        bounds("y5;w1 ", " 1;", 1, 99);
        bounds("y5;w1 1 ", ";", 0, 9);
        bounds("y5;" + WORD.repeat(7) + "w", " 99 9;", 0, 99);
        WordRation x = good("y5;w0 1 0;w99 99 9;");
        int[] least = {0, 1, 0, 0, 0, 0, 0, 0, 0};
        int[] most = {99, 99, 9, 99, 0, 0, 0, 0, 0};
        for (int what = 0; what < least.length; what++) {
            CHECK.due("the least word(0, " + what + ")", x.word(0, what), least[what]);
            CHECK.due("the greatest word(1, " + what + ")", x.word(1, what), most[what]);
        }
    }

    // "two of a WORD W told ahead"
    private static void wayNumbers() {
        bounds("y5;" + WORD + WORD + WORD + "a", " 2;" + WORD, 0, 2);
        bounds("y5;" + EIGHT_WORDS + "a", " 2;", 0, 7);
        bad("y5;a0 1;", 2, 4);
        bad("y5;a0 1;" + WORD, 2, 4);
        bad("y5;" + WORD + "a1 1;" + WORD, 2, 11);
        good("y5;" + WORD + WORD + "a1 1;", 2);
    }

    // "by all WORDS of S, 1 .. 255, a SET of those told ahead, without W"
    private static void waySets() {
        for (int words = 1; words <= 8; words++) {
            for (int w = 0; w < words; w++) {
                String ahead = "y5;" + WORD.repeat(words) + "a" + w + " ";
                int greatest = (1 << words) - 1 - (1 << w);
                bad(ahead + "0;", 2, ahead.length());
                bad(ahead + (1 << w) + ";", 2, ahead.length());
                bad(ahead + ((1 << words) - 1) + ";", 2, ahead.length());
                bad(ahead + (1 << words) + ";", 2, ahead.length());
                bad(ahead + "255;", 2, ahead.length());
                bad(ahead + "256;", 2, ahead.length());
                bad(ahead + (256 + greatest) + ";", 2, ahead.length());
                bad(ahead + "999;", 2, ahead.length());
                bad(ahead + "4294967298;", 2, ahead.length());
                if (greatest > 0) {
                    CHECK.due("the greatest set", good(ahead + greatest + ";", words).word(w, 6), greatest);
                    int least = w == 0 ? 2 : 1;
                    CHECK.due("the least set", good(ahead + "00" + least + ";", words).word(w, 6), least);
                    bad(ahead + "000" + least + ";", 2, ahead.length());
                }
            }
        }
        bad("y5;" + WORD + WORD + "a0 4;" + WORD, 2, 20);
        good("y5;" + WORD + WORD + WORD + "a0 4;", 3);
        bad("y5;" + WORD + WORD + "a0;", 1, 19);
        bad("y5;" + WORD + WORD + "a0", 1, 19);
        bad("y5;" + WORD + WORD + "a;", 1, 18);
    }

    // "'o' W ';'"
    private static void pointNumbers() {
        bounds("y5;" + WORD + WORD + "o", ";" + WORD, 0, 1);
        bounds("y5;" + EIGHT_WORDS + "o", ";", 0, 7);
        bad("y5;o0;", 2, 4);
        bad("y5;o0;" + WORD, 2, 4);
        bad("y5;o;", 1, 4);
        WordRation x = good("y5;" + EIGHT_WORDS + "o7;");
        CHECK.due("pointed at", x.word(7, 8), 1);
        CHECK.due("not pointed at", x.word(6, 8), 0);
    }

    // "1 is honest, 0 a liar"
    private static void personNumbers() {
        bounds("y5;p", ";", 0, 1);
        bounds("y5;p1;p1;p1;p1;p", ";", 0, 1);
        bad("y5;p;", 1, 4);
        bad("y5;p 1 1;", 1, 7);
        WordRation x = good("y5;" + WORD + "p1;p0;");
        x.knot(0, 0, true);
        CHECK.due("a liar says what it has no need of", x.who(), 2);
    }

    // "PERSON P must say WORD W on DAY D of the YEAR, 0 .. D less 1; worth V, 0 .. 99"
    private static void needNumbers() {
        String ahead = "y5;" + WORD + WORD + "p1;p1;p1;";
        bounds(ahead + "n", " 0 0 0;p1;" + WORD, 0, 2);
        bounds(ahead + "n0 ", " 0 0;p1;" + WORD, 0, 1);
        bounds(ahead + "n0 0 ", " 0;p1;" + WORD, 0, 4);
        bounds(ahead + "n0 0 0 ", ";", 0, 99);
        bounds("y1;" + WORD + "p1;n0 0 ", " 0;", 0, 0);
        bounds("y99;" + WORD + "p1;n0 0 ", " 0;", 0, 98);
        bounds("y5;" + WORD + "p1;p1;p1;p1;p1;n", " 0 0 0;", 0, 4);
        bounds("y5;" + EIGHT_WORDS + "p1;n0 ", " 0 0;", 0, 7);
        bad("y5;" + WORD + "n0 0 0 0;", 2, 11);
        bad("y5;p1;n0 0 0 0;", 2, 9);
        bad("y5;" + WORD + "n0 0 0 0;p1;", 2, 11);
        bad("y5;p1;n0 0 0 0;" + WORD, 2, 9);
        bad("y5;" + WORD + "p1;n0 0 0;", 1, 19);
        bad("y5;" + WORD + "p1;n0 0 0 0 0;", 1, 22);
        WordRation x = good("y99;" + EIGHT_WORDS + "p1;p1;p1;p1;p1;n4 7 98 99;n0 0 0 0;");
        int[] most = {4, 7, 98, 99, 1};
        for (int what = 0; what < most.length; what++) {
            CHECK.due("the greatest need(0, " + what + ")", x.need(0, what), most[what]);
            CHECK.due("the least need(1, " + what + ")", x.need(1, what), what == 4 ? 1 : 0);
        }
    }

    // "8 WORDS at most": "a ninth 'w' (at it)"
    private static void manyWords() {
        CHECK.due("eight words", good("y5;" + EIGHT_WORDS, 8).told(1), 8);
        bad("y5;" + EIGHT_WORDS + "w", 3, 59);
        bad("y5;" + EIGHT_WORDS + WORD, 3, 59);
        bad("y5;" + EIGHT_WORDS + "  w999 0 99;", 3, 61);
        bad("y5;" + EIGHT_WORDS + "p1;o7;a7 1;w", 3, 70);
        good("y5;" + EIGHT_WORDS + "p1;", 8);
    }

    // "10 WAYS round at most": "an eleventh 'a' (at it)"
    private static void manyWays() {
        String nine = "y5;" + WORD.repeat(6) + "a0 2;a0 2;a1 1;a1 1;a2 1;a2 1;a3 1;a3 1;a4 1;";
        CHECK.due("nine ways", good(nine, 6).told(2), 9);
        CHECK.due("ten ways", good(nine + "a5 1;", 6).told(2), 10);
        bad(nine + "a5 1;a", 3, 95);
        bad(nine + "a5 1;a5 2;", 3, 95);
        bad(nine + "a5 1;a9 999;", 3, 95);
        bad(nine + "a5 1; a0 2;", 3, 96);
        good(nine + "a5 1;o0;p1;", 6);
        WordRation x = good(nine + "a4 32;", 6);
        CHECK.due("the tenth way", x.word(4, 7), 32);
        CHECK.due("no way", x.word(5, 6), 0);
    }

    // "two of a WORD": "a third WAY round W (at the W)"
    private static void twoWaysOfAWord() {
        String two = "y5;" + WORD + WORD + WORD + "a0 2;a0 2;";
        good(two, 3);
        bad(two + "a0 2;", 4, 35);
        bad(two + "a0", 4, 35);
        bad(two + "a  0;", 4, 37);
        bad(two + "a00 999;", 4, 35);
        good(two + "a1 1;a1 4;a2 1;a2 2;", 3);
        bad(two + "a1 1;a1 4;a2 1;a2 2;a2 2;", 4, 55);
        bad("y5;" + EIGHT_WORDS + "a7 1;a7 2;a7 4;", 4, 70);
        WordRation x = good("y5;" + EIGHT_WORDS + "a7 127;a7 1;", 8);
        CHECK.due("the first way", x.word(7, 6), 127);
        CHECK.due("the second way", x.word(7, 7), 1);
        CHECK.due("one way alone", good("y5;" + WORD + WORD + "a1 1;", 2).word(1, 7), 0);
    }

    // "each once": "a W at which one can POINT already (at the W)"
    private static void pointedOnce() {
        String ahead = "y5;" + EIGHT_WORDS;
        StringBuilder all = new StringBuilder(ahead);
        for (int w = 0; w < 8; w++) {
            bad(ahead + "o" + w + ";o" + w + ";", 4, 63);
            bad(ahead + "o" + w + "; o 0" + w, 4, 65);
            all.append('o').append(w).append(';');
        }
        WordRation x = good(all.toString(), 8);
        for (int w = 0; w < 8; w++) {
            CHECK.due("pointed at", x.word(w, 8), 1);
        }
        bad(all + "o0", 4, all.length() + 1);
        bad(all + "o8;", 2, all.length() + 1);
    }

    // "5 PERSONS at most": "a sixth 'p' (at it)"
    private static void manyPersons() {
        CHECK.due("five persons", good("y5;" + "p1;".repeat(5), 0).told(3), 5);
        CHECK.due("four persons", good("y5;" + "p0;".repeat(4), 0).told(3), 4);
        bad("y5;" + "p1;".repeat(5) + "p", 3, 18);
        bad("y5;" + "p1;".repeat(5) + " p9;", 3, 19);
        bad("y5;" + "p1;".repeat(5) + WORD + "p1;", 3, 25);
        good("y5;" + "p1;".repeat(5) + WORD, 1);
    }

    // "8 NEEDS at most": "a ninth 'n' (at it)"
    private static void manyNeeds() {
        String ahead = "y5;" + WORD + "p1;";
        CHECK.due("eight needs", good(ahead + "n0 0 4 0;".repeat(8), 1).told(4), 8);
        CHECK.due("seven needs", good(ahead + "n0 0 4 0;".repeat(7), 1).told(4), 7);
        bad(ahead + "n0 0 4 0;".repeat(8) + "n", 3, 85);
        bad(ahead + "n0 0 4 0;".repeat(8) + "n0 0 4 0;", 3, 85);
        bad(ahead + "n0 0 4 0;".repeat(8) + " n9 9 9 999;", 3, 86);
        good(ahead + "n0 0 4 0;".repeat(8) + WORD, 2);
    }

    // "NUMBERS have one to three figures"; "two NUMBERS side by side need one (blank)"
    private static void figures() {
        CHECK.due("one figure", good("y7;").told(0), 7);
        CHECK.due("two figures", good("y07;").told(0), 7);
        CHECK.due("three figures", good("y007;").told(0), 7);
        bad("y0007;", 2, 1);
        bad("y00007;", 2, 1);
        bad("y" + "0".repeat(238) + "7", 2, 1);
        bad("y" + "0".repeat(237) + "7;", 2, 1);
        bad("y" + "9".repeat(239), 2, 1);
        good("y5;w001 099 009;");
        bad("y5;w1 11;", 1, 8);
        bad("y5;w111;", 2, 4);
        bad("y5;w011;", 1, 7);
        bad("y5;w0111;", 2, 4);
        good("y5;w1 1  1;");
        bad("y5 5;", 1, 3);
        bad("y 01 7;", 1, 5);
        bad("y 00 7;", 2, 2);
        bad("y/;", 1, 1);
        bad("y:;", 1, 1);
        bad("y5/;", 1, 2);
        bad("y5:;", 1, 2);
        good("y5;w0 9 0;");
    }

    // "blanks (32) may stand anywhere but within NUMBERS"
    private static void blanks() {
        String text = "y5;w2 5 1;w1 9 2;a0 2;o1;p1;n0 0 4 20;";
        for (int i = 0; i <= text.length(); i++) {
            String with = text.substring(0, i) + "  " + text.substring(i);
            boolean within = i > 0 && i < text.length() && Character.isDigit(text.charAt(i - 1)) && Character.isDigit(text.charAt(i));
            if (within) {
                bad(with, 1, i + 2);
            } else {
                WordRation x = good(with, 2);
                CHECK.due("needs", x.told(4), 1);
                CHECK.due("worth", x.need(0, 3), 20);
            }
            for (int other : new int[] {0, 9, 10, 13, 31, 33, 160, 255}) {
                bad(text.substring(0, i) + (char) other + text.substring(i), 1, i);
            }
        }
    }

    // "a letter that is no word"
    private static void noWords() {
        for (int letter = 0; letter <= 255; letter++) {
            boolean isWord = "ywaopn".indexOf(letter) >= 0;
            if (letter == ' ') {
                continue;
            }
            if (letter == 'y') {
                bad((char) letter + "", 1, 1);
                bad("y5;" + (char) letter, 3, 3);
            } else {
                bad((char) letter + "", 1, 0);
                bad("y5;" + (char) letter, 1, isWord ? 4 : 3);
            }
            if (letter < '0' || letter > '9') {
                bad("y" + (char) letter, 1, 1);
                bad("y5;w1 " + (char) letter, 1, 6);
                if (letter != ';') {
                    bad("y5" + (char) letter, 1, 2);
                    bad("y5 " + (char) letter, 1, 3);
                    bad("y5;w1 1 1" + (char) letter + ";", 1, 9);
                }
            }
        }
        for (String capital : new String[] {"Y5;", "y5;W1 1 1;", "y5;P1;"}) {
            bad(capital, 1, capital.length() > 3 ? 3 : 0);
        }
    }

    // "FAULTS, at the first letter that has one (the end at the text's length)"
    private static void endOfTheText() {
        String text = "y5;w2 5 1;w1 9 2;w0 3 1;w3 1 2;a0 6;a0 8;a2 9;o1;p1;p0;n0 0 0 20;n1 0 0 10;";
        for (int i = 0; i <= text.length(); i++) {
            String part = text.substring(0, i);
            if (i == 0 || part.endsWith(";")) {
                good(part);
                good(part + " ");
            } else {
                bad(part, 1, i);
                bad(part + "   ", 1, i + 3);
            }
        }
    }

    // "of these the least": a letter can have fault 2 and fault 4 at once
    private static void leastOfSeveralFaults() {
        bad("y5;" + WORD + "o0;o0000;", 2, 14);
        bad("y5;" + WORD + WORD + "a0 2;a0 2;a0000 2;", 2, 28);
        bad("y5;" + WORD + WORD + "a0 2;a0 2;a0000000000;", 2, 28);
        bad("y5;" + WORD + "o0;o000;", 4, 14);
        bad("y5;" + WORD + WORD + "a0 2;a0 2;a000;", 4, 28);
    }

    // "at the first letter that has one": what is behind it does not count
    private static void firstOfSeveralFaults() {
        bad("y0x", 2, 1);
        bad("y0", 2, 1);
        bad("yx0;", 1, 1);
        bad("y100;y", 2, 1);
        bad("y5;w100 0 10", 2, 4);
        bad("y5;w1 0 10", 2, 6);
        bad("y5;w1 1 10x", 2, 8);
        bad("y5;" + WORD + "n0 1 5 100", 2, 11);
        bad("y5;" + WORD + "p1;n0 1 5 100", 2, 16);
        bad("y5;" + WORD + "p1;n0 0 5 100", 2, 18);
        bad("y5;" + WORD + "p1;n0 0 4 100", 2, 20);
        bad("y5;" + WORD + WORD + "a2 0", 2, 18);
        bad("y5;" + WORD + WORD + "a0 0x", 2, 20);
        bad("y5;" + WORD + WORD + "a0 2;a0 2;a0 999", 4, 28);
        bad("y5;" + EIGHT_WORDS + "w0 0 99y", 3, 59);
        bad("x" + " ".repeat(239), 1, 0);
        bad("w", 1, 0);
    }

    // "The place of the letter that has the FAULT of the latest town(); NONE"
    private static void placeOfTheLatest() {
        WordRation x = new WordRation();
        CHECK.due("ahead of any", x.fault(), NONE);
        String[] texts = {"y0;", "", "y5;y", "y5;", "y5", "  ", "x", "y5;" + WORD};
        int[] towns = {-12, 0, -13, 0, -11, 0, -11, 1};
        int[] places = {1, NONE, 3, NONE, 2, NONE, 0, NONE};
        int latest = NONE;
        for (int i = 0; i < texts.length; i++) {
            for (int k = 0; k < texts[i].length(); k++) {
                x.feed(texts[i].charAt(k));
                CHECK.due("while '" + texts[i] + "' is fed", x.fault(), latest);
            }
            CHECK.due("town of '" + texts[i] + "'", x.town(), towns[i]);
            CHECK.due("place of '" + texts[i] + "'", x.fault(), places[i]);
            latest = places[i];
        }
    }
}

import java.util.Random;

/**
 * Runs of calls, drawn from fixed seeds, answered by the program and by the model of the document:
 * each answer must be the same. Some runs are of towns with as many words, ways, persons and needs as
 * the document allows, and of many years.
 */
public final class ModelTest {
    private static final int RUNS = 4000;
    private static final int FULL_RUNS = 400;
    private static final int CALLS = 512;
    private static final int LETTERS = 240;
    private static final Check CHECK = new Check();
    private static int fullTowns = 0;
    private static int mostYears = 0;

    private final Random random;
    private final WordRation real = new WordRation();
    private final Model model = new Model();
    private final int run;
    private int calls = 0;
    private int words = 0;
    private int persons = 0;
    private int needs = 0;
    private int year = 1;

    private ModelTest(int run) {
        this.run = run;
        this.random = new Random(run);
    }

    public static void main(String[] args) {
        for (int run = 0; run < RUNS; run++) {
            new ModelTest(run).play();
        }
        for (int run = RUNS; run < RUNS + FULL_RUNS; run++) {
            new ModelTest(run).playFull();
        }
        // a full town is what these runs are for: texts that were refused would try nothing
        CHECK.due("full towns", fullTowns, FULL_RUNS);
        CHECK.due("years in one of them, at least", Math.min(1000, mostYears), 1000);
        CHECK.end("ModelTest");
    }

    private void playFull() {
        feed(drawFullText());
        town();
        if (words == 8 && model.told(2) == 10 && persons == 5 && needs == 8) {
            fullTowns++;
        }
        boolean manyYears = random.nextBoolean();
        while (calls < CALLS) {
            calls(10);
            for (int i = 0; i < 15 && manyYears; i++) {
                due("day(60)", real.day(60), model.day(60));
            }
        }
        mostYears = Math.max(mostYears, model.told(6) / year);
    }

    private void play() {
        if (random.nextInt(8) == 0) {
            calls(random.nextInt(30));
        }
        while (calls < CALLS) {
            tellTown();
            calls(40 + random.nextInt(400));
        }
    }

    private void due(String call, int answered, int due) {
        calls++;
        // what later calls answer is free
        if (calls > CALLS) {
            return;
        }
        CHECK.due("run " + run + ", call " + calls + ": " + call, answered, due);
    }

    private int upTo(int n) {
        return random.nextInt(n + 1);
    }

    /** Mostly a good text; now and then one letter of it is another, missing or too many. */
    private void tellTown() {
        String text = drawText();
        if (random.nextInt(3) == 0 && !text.isEmpty()) {
            text = spoil(text);
        }
        feed(text);
        town();
    }

    private void feed(String text) {
        for (int i = 0; i < text.length() && calls < CALLS; i++) {
            int letter = text.charAt(i);
            due("feed(" + letter + ")", real.feed(letter), model.feed(letter));
        }
    }

    private void town() {
        int got = real.town();
        due("town()", got, model.town());
        due("fault()", real.fault(), model.fault());
        words = Math.max(0, model.told(1));
        persons = Math.max(0, model.told(3));
        needs = Math.max(0, model.told(4));
        year = Math.max(1, model.told(0));
    }

    private String drawText() {
        if (random.nextInt(30) == 0) {
            return " ".repeat(random.nextInt(4));
        }
        StringBuilder text = new StringBuilder();
        int days = random.nextInt(4) == 0 ? 1 + upTo(98) : 1 + upTo(6);
        int w = 0;
        int p = 0;
        clause(text, 'y', days);
        int clauses = upTo(38);
        for (int i = 0; i < clauses; i++) {
            int kind = i < 4 ? i % 3 : random.nextInt(9);
            int before = text.length();
            if (kind == 0 && w < 8) {
                clause(text, 'w', random.nextInt(6) == 0 ? upTo(99) : upTo(3), 1 + upTo(random.nextBoolean() ? 98 : 4), upTo(3));
                w++;
            } else if (kind == 2 && p < 5) {
                clause(text, 'p', random.nextInt(2));
                p++;
            } else if (w > 1 && (kind == 3 || kind == 4 || kind == 5)) {
                int about = random.nextInt(w);
                int set = random.nextInt(1 << w) & ~(1 << about);
                clause(text, 'a', about, set == 0 ? 1 << (about + 1) % w : set);
            } else if (kind == 6 && w > 0 && random.nextInt(3) == 0) {
                clause(text, 'o', random.nextInt(w));
            } else if (w > 0 && p > 0) {
                clause(text, 'n', random.nextInt(p), random.nextInt(w), random.nextInt(days),
                        random.nextBoolean() ? upTo(3) : upTo(99));
            }
            if (text.length() > LETTERS || random.nextInt(3) > 0 && refused(text)) {
                text.setLength(before);
            }
        }
        return text.toString();
    }

    /** Eight words, ten ways, five persons, eight needs; where letters are left, words to point at, then blanks. */
    private String drawFullText() {
        int days = random.nextInt(3) == 0 ? 1 + upTo(8) : 1 + upTo(98);
        int most = 1 + upTo(8);
        StringBuilder text = new StringBuilder("y" + days + ";");
        for (int w = 0; w < 8; w++) {
            text.append("w").append(upTo(most)).append(' ').append(1 + upTo(8)).append(' ').append(upTo(2)).append(';');
        }
        int first = random.nextInt(8);
        for (int i = 0; i < 10; i++) {
            int w = (first + i) % 8;
            int set = random.nextInt(256) & (random.nextBoolean() ? 255 : random.nextInt(256)) & ~(1 << w);
            text.append('a').append(w).append(' ').append(set == 0 ? 1 << (w + 1) % 8 : set).append(';');
        }
        for (int p = 0; p < 5; p++) {
            text.append('p').append(upTo(1)).append(';');
        }
        int wanted = 1 + random.nextInt(8);
        for (int n = 0; n < 8; n++) {
            text.append('n').append(random.nextInt(5)).append(' ').append(random.nextInt(wanted)).append(' ')
                    .append(random.nextInt(Math.min(10, days))).append(' ').append(upTo(9)).append(';');
        }
        for (int i = 0; i < 2 && text.length() + 3 <= LETTERS; i++) {
            text.append('o').append((first + 3 * i) % 8).append(';');
        }
        return random.nextBoolean() ? text.toString() : text + " ".repeat(LETTERS - text.length());
    }

    private static boolean refused(CharSequence text) {
        Model probe = new Model();
        for (int i = 0; i < text.length(); i++) {
            probe.feed(text.charAt(i));
        }
        return probe.town() < 0;
    }

    private void clause(StringBuilder text, char name, int... numbers) {
        blanks(text);
        text.append(name);
        for (int i = 0; i < numbers.length; i++) {
            if (i > 0) {
                text.append(' ');
            }
            blanks(text);
            if (random.nextInt(30) == 0 && numbers[i] < 10) {
                text.append('0');
            }
            text.append(numbers[i]);
        }
        blanks(text);
        text.append(';');
    }

    private void blanks(StringBuilder text) {
        if (random.nextInt(20) == 0) {
            text.append(" ".repeat(1 + random.nextInt(2)));
        }
    }

    private String spoil(String text) {
        String letters = "0123456789 ;ywaopnx";
        StringBuilder other = new StringBuilder(text);
        int at = random.nextInt(text.length());
        char letter = random.nextInt(10) == 0 ? (char) random.nextInt(256) : letters.charAt(random.nextInt(letters.length()));
        switch (random.nextInt(4)) {
            case 0: other.setCharAt(at, letter); break;
            case 1: other.insert(at, letter); break;
            case 2: other.deleteCharAt(at); break;
            default: other.setLength(at); break;
        }
        return other.toString();
    }

    private void calls(int count) {
        // a model's plan is worked out by trying all plans: few of them where they are many
        int planCalls = needs > 6 ? 2 : 20;
        for (int i = 0; i < count && calls < CALLS; i++) {
            int which = random.nextInt(43);
            if (which == 21 && planCalls-- <= 0) {
                continue;
            }
            if (which < 18) {
                act(which);
            } else {
                look(which);
            }
        }
    }

    private int aWord() {
        return random.nextInt(25) == 0 ? random.nextInt(12) - 2 : random.nextInt(Math.max(1, words));
    }

    private int aPerson() {
        return random.nextInt(25) == 0 ? random.nextInt(9) - 2 : random.nextInt(Math.max(1, persons));
    }

    private int aNumber(int most) {
        switch (random.nextInt(20)) {
            case 0: return random.nextInt();
            case 1: return random.nextInt(3) - 2;
            case 2: return most + random.nextInt(3) - 1;
            default: return random.nextInt(most + 1);
        }
    }

    private int aFew() {
        return random.nextInt(10) == 0 ? aNumber(99) : 1 + random.nextInt(2);
    }

    private void act(int which) {
        int p = aPerson();
        int q = aPerson();
        int w = aWord();
        int n = aFew();
        switch (which) {
            case 0: case 1: due("day(" + n + ")", real.day(n), model.day(n)); break;
            case 2: case 3: due("say(" + p + ", " + w + ")", real.say(p, w), model.say(p, w)); break;
            case 4: {
                int k = aNumber(1);
                due("around(" + p + ", " + w + ", " + k + ")", real.around(p, w, k), model.around(p, w, k));
                break;
            }
            case 5: due("point(" + w + ")", real.point(w), model.point(w)); break;
            case 6: case 7: case 8:
                due("hoard(" + p + ", " + w + ", " + n + ")", real.hoard(p, w, n), model.hoard(p, w, n)); break;
            case 9: case 10: due("sell(" + p + ", " + q + ", " + w + ", " + n + ")",
                    real.sell(p, q, w, n), model.sell(p, q, w, n)); break;
            case 11: due("raise(" + w + ", " + n + ")", real.raise(w, n), model.raise(w, n)); break;
            case 12: {
                int days = random.nextInt(4) == 0 ? aNumber(60) : n;
                due("drift(" + days + ")", real.drift(days), model.drift(days));
                break;
            }
            case 13: case 14: due("undo()", real.undo(), model.undo()); break;
            case 15: {
                int v = aNumber(1000000000);
                due("seed(" + v + ")", real.seed(v), model.seed(v));
                break;
            }
            case 16: {
                int i = random.nextInt(3) == 0 ? aNumber(2) : 0;
                due("keep(" + i + ")", real.keep(i), model.keep(i));
                break;
            }
            default: {
                int i = aNumber(1);
                due("goBack(" + i + ")", real.goBack(i), model.goBack(i));
                break;
            }
        }
    }

    private void look(int which) {
        int p = aPerson();
        int w = aWord();
        int n = aNumber(9);
        switch (which) {
            case 18: due("cheapest(" + p + ", " + w + ", 0)", real.cheapest(p, w, 0), model.cheapest(p, w, 0));
                due("cheapest(" + p + ", " + w + ", 1)", real.cheapest(p, w, 1), model.cheapest(p, w, 1)); break;
            case 19: due("runsOut(" + w + ")", real.runsOut(w), model.runsOut(w)); break;
            case 20: {
                int days = aNumber(99);
                due("willBe(" + days + ")", real.willBe(days), model.willBe(days));
                break;
            }
            case 21: {
                int about = random.nextInt(3) == 0 ? random.nextInt(11) - 3 : random.nextInt(Math.max(1, needs));
                due("plan(" + about + ")", real.plan(about), model.plan(about));
                break;
            }
            case 22: due("price(" + w + ")", real.price(w), model.price(w)); break;
            case 23: case 24: {
                int i = random.nextInt(2) - 1;
                due("sells(" + w + ", " + i + ")", real.sells(w, i), model.sells(w, i));
                break;
            }
            case 25: due("share(" + p + ", " + w + ")", real.share(p, w), model.share(p, w)); break;
            case 26: due("more(" + w + ")", real.more(w), model.more(w)); break;
            case 27: {
                int nights = aNumber(20);
                due("fire(" + n + ", " + nights + ")", real.fire(n, nights), model.fire(n, nights));
                break;
            }
            case 28: {
                int i = aNumber(4) - 1;
                due("rhymes(" + i + ")", real.rhymes(i), model.rhymes(i));
                break;
            }
            case 29: {
                int days = aNumber(60);
                int q = aNumber(100);
                due("silent(" + days + ", " + q + ")", real.silent(days, q), model.silent(days, q));
                break;
            }
            default: lookOn(which, p, w, n); break;
        }
    }

    private void lookOn(int which, int p, int w, int n) {
        switch (which) {
            case 30: {
                int d = random.nextInt(6) == 0 ? aNumber(98) : random.nextInt(year);
                boolean said = random.nextBoolean();
                due("knot(" + w + ", " + d + ", " + said + ")", real.knot(w, d, said), model.knot(w, d, said));
                break;
            }
            case 31: case 32: due("who()", real.who(), model.who()); break;
            case 33: case 34: due("ask()", real.ask(), model.ask()); break;
            case 35: {
                int left = random.nextInt(4) == 0 ? aNumber(99) : random.nextInt(4);
                due("write(" + w + ", " + left + ")", real.write(w, left), model.write(w, left));
                break;
            }
            case 36: due("judge()", real.judge(), model.judge()); break;
            case 37:
                if (random.nextInt(3) == 0) {
                    due("tear()", real.tear(), model.tear());
                }
                break;
            case 38: {
                int what = aNumber(15);
                due("told(" + what + ")", real.told(what), model.told(what));
                break;
            }
            case 39: {
                int what = aNumber(8);
                due("word(" + w + ", " + what + ")", real.word(w, what), model.word(w, what));
                break;
            }
            case 40: due("hoarded(" + p + ", " + w + ")", real.hoarded(p, w), model.hoarded(p, w)); break;
            case 41: {
                int what = aNumber(4);
                due("need(" + n + ", " + what + ")", real.need(n, what), model.need(n, what));
                break;
            }
            default:
                if (random.nextInt(40) == 0) {
                    town();
                }
                break;
        }
    }
}

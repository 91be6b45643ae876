/**
 * Holds refused calls to their word: behind such a call all that can be told, undone, gone back to,
 * drawn and read from the text is as it is without the call.
 */
final class Refusals {
    /** Makes a new object and brings it to where the call is tried, always in the same way. */
    interface Scene {
        WordRation make();
    }

    interface Call {
        int on(WordRation x);
    }

    private static final int TAILS = 6;

    private final Check check;
    private final String name;
    private final Scene scene;
    private final String[] without = new String[TAILS];

    Refusals(Check check, String name, Scene scene) {
        this.check = check;
        this.name = name;
        this.scene = scene;
        for (int tail = 0; tail < TAILS; tail++) {
            without[tail] = tell(scene.make(), tail);
        }
    }

    /** The call answers what is due, and changes nothing. */
    void due(String call, Call tried, int due) {
        for (int tail = 0; tail < TAILS; tail++) {
            WordRation x = scene.make();
            check.due(name + ": " + call, tried.on(x), due);
            String with = tell(x, tail);
            boolean same = with.equals(without[tail]);
            check.due(name + ": unchanged by " + call + " are " + without[tail] + " / " + with, same ? 1 : 0, 1);
        }
    }

    void allUnknown(String call, Call... tried) {
        all(call, WordRation.UNKNOWN, tried);
    }

    void allOutside(String call, Call... tried) {
        all(call, WordRation.OUTSIDE, tried);
    }

    void allNot(String call, Call... tried) {
        all(call, WordRation.NOT, tried);
    }

    void allFull(String call, Call... tried) {
        all(call, WordRation.FULL, tried);
    }

    private void all(String call, int due, Call... tried) {
        for (int i = 0; i < tried.length; i++) {
            due(call + " (" + i + ")", tried[i], due);
        }
    }

    /** What stands can be seen only by calls that change it: so each of these tails has an object of its own. */
    private static String tell(WordRation x, int tail) {
        StringBuilder out = new StringBuilder();
        switch (tail) {
            case 0: break;
            case 1: undone(x, out); break;
            case 2: out.append(x.goBack(0)).append(' '); break;
            case 3: out.append(x.goBack(1)).append(' '); break;
            case 4: readText(x, out); break;
            default: out.append(x.drift(7)).append(' '); break;
        }
        all(x, out);
        return out.toString();
    }

    private static void undone(WordRation x, StringBuilder out) {
        int words = x.told(1);
        int more = x.told(15);
        for (int i = 0; i <= more; i++) {
            out.append(x.undo()).append(' ').append(x.told(6)).append(' ').append(x.told(10)).append(' ');
            for (int w = 0; w < words; w++) {
                out.append(x.word(w, 0)).append(' ').append(x.word(w, 3)).append(' ').append(x.word(w, 5)).append(' ');
            }
        }
    }

    /** The text goes on with ';', unless it is full. */
    private static void readText(WordRation x, StringBuilder out) {
        out.append(x.feed(';')).append(' ').append(x.town()).append(' ').append(x.fault()).append(' ');
    }

    private static void all(WordRation x, StringBuilder out) {
        for (int what = 0; what < 16; what++) {
            out.append(x.told(what)).append(' ');
        }
        int words = x.told(1);
        int persons = x.told(3);
        for (int w = 0; w < words; w++) {
            for (int what = 0; what < 9; what++) {
                out.append(x.word(w, what)).append(' ');
            }
            for (int p = 0; p < persons; p++) {
                out.append(x.hoarded(p, w)).append(' ');
            }
        }
        int needs = x.told(4);
        for (int n = 0; n < needs; n++) {
            out.append(x.need(n, 3)).append(' ').append(x.need(n, 4)).append(' ');
        }
        out.append(x.who()).append(' ').append(x.judge()).append(' ');
        out.append(x.plan(-1)).append(' ').append(x.seed(0));
    }
}

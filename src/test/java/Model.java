import java.util.ArrayList;
import java.util.Comparator;
import java.util.HashMap;
import java.util.HashSet;
import java.util.List;
import java.util.Map;
import java.util.Set;

/**
 * The document once more, told as slowly and plainly as can be, with other means than the program:
 * lists and maps, every plan tried, every fault gathered before the first is taken.
 */
final class Model {
    static final int NONE = -1;
    static final int UNKNOWN = -1000000001;
    static final int OUTSIDE = -1000000002;
    static final int NOT = -1000000003;
    static final int FULL = -1000000004;

    /** A word as it was told. */
    record Word(int limit, int cost, int rhyme, List<Integer> ways, boolean[] points) { }

    record Need(int person, int word, int day, int worth) { }

    record Told(int year, List<Word> words, List<Boolean> honest, List<Need> needs, int ways) {
        static Told nothing() {
            return new Told(0, new ArrayList<>(), new ArrayList<>(), new ArrayList<>(), 0);
        }
    }

    record Fault(int place, int number) { }

    record Knot(int word, int day, boolean said) { }

    record Entry(int word, int left) { }

    /** Section 2; a copy of it is all that an undo or an image needs. */
    static final class Section2 {
        Map<String, Integer> count = new HashMap<>();

        int get(String key) {
            return count.getOrDefault(key, 0);
        }

        void put(String key, int value) {
            count.put(key, value);
        }

        void countMore(String key, int n) {
            put(key, Math.min(999999, get(key) + n));
        }

        Section2 copy() {
            Section2 other = new Section2();
            other.count.putAll(count);
            return other;
        }
    }

    private final StringBuilder text = new StringBuilder();
    private Told told = Told.nothing();
    private int faultPlace = NONE;
    private Section2 s = new Section2();
    private final List<Section2> undos = new ArrayList<>();
    private final Map<Integer, Section2> images = new HashMap<>();
    private final Map<Integer, Integer> imageSeeds = new HashMap<>();
    private final List<Knot> knots = new ArrayList<>();
    private final List<Entry> book = new ArrayList<>();
    private long theSeed = 0;

    private boolean noWord(int w) {
        return w < 0 || w >= told.words.size();
    }

    private boolean noPerson(int p) {
        return p < 0 || p >= told.honest.size();
    }

    int feed(int letter) {
        if (letter < 0 || letter > 255) {
            return OUTSIDE;
        }
        if (text.length() == 240) {
            return FULL;
        }
        text.append((char) letter);
        return text.length();
    }

    int town() {
        String whole = text.toString();
        text.setLength(0);
        Reader reader = new Reader(whole);
        Told read = reader.read();
        if (!reader.faults.isEmpty()) {
            Fault first = reader.faults.stream()
                    .min(Comparator.comparingInt(Fault::place).thenComparingInt(Fault::number)).get();
            faultPlace = first.place;
            return -10 - first.number;
        }
        faultPlace = NONE;
        told = read;
        s = new Section2();
        for (int w = 0; w < told.words.size(); w++) {
            s.put("limit " + w, told.words.get(w).limit);
        }
        newYear();
        undos.clear();
        images.clear();
        knots.clear();
        book.clear();
        return told.words.size();
    }

    /** Tokens with their places; a token is a number's figures or one other letter. */
    private static final class Reader {
        final List<String> tokens = new ArrayList<>();
        final List<Integer> places = new ArrayList<>();
        final List<Fault> faults = new ArrayList<>();
        final int end;
        int next = 0;

        Reader(String whole) {
            end = whole.length();
            int i = 0;
            while (i < whole.length()) {
                int from = i;
                if (whole.charAt(i) == ' ') {
                    i++;
                    continue;
                }
                while (i < whole.length() && "0123456789".indexOf(whole.charAt(i)) >= 0) {
                    i++;
                }
                if (i == from) {
                    i++;
                }
                tokens.add(whole.substring(from, i));
                places.add(from);
            }
        }

        int place() {
            return next < places.size() ? places.get(next) : end;
        }

        String token() {
            return next < tokens.size() ? tokens.get(next) : "";
        }

        /** The number here, or NONE if it is no number of one to three figures. */
        int number() {
            String t = token();
            if (t.isEmpty() || "0123456789".indexOf(t.charAt(0)) < 0) {
                faults.add(new Fault(place(), 1));
                return NONE;
            }
            if (t.length() > 3) {
                faults.add(new Fault(place(), 2));
                return NONE;
            }
            return Integer.parseInt(t);
        }

        Told read() {
            Told out = Told.nothing();
            while (next < tokens.size() && faults.isEmpty()) {
                String name = token();
                String shape = switch (name) {
                    case "y" -> "D";
                    case "w" -> "LCR";
                    case "a" -> "WS";
                    case "o" -> "O";
                    case "p" -> "H";
                    case "n" -> "PXEV";
                    default -> "";
                };
                if (shape.isEmpty() || out.year == 0 && !name.equals("y")) {
                    faults.add(new Fault(place(), 1));
                    return out;
                }
                boolean tooMany = switch (name) {
                    case "y" -> out.year > 0;
                    case "w" -> out.words.size() == 8;
                    case "a" -> out.ways == 10;
                    case "p" -> out.honest.size() == 5;
                    case "n" -> out.needs.size() == 8;
                    default -> false;
                };
                if (tooMany) {
                    faults.add(new Fault(place(), 3));
                    return out;
                }
                next++;
                List<Integer> got = new ArrayList<>();
                for (char c : shape.toCharArray()) {
                    int value = number();
                    if (value == NONE) {
                        return out;
                    }
                    if (!fits(out, c, value, got)) {
                        faults.add(new Fault(place(), 2));
                    } else if (isFourth(out, c, value)) {
                        faults.add(new Fault(place(), 4));
                    }
                    if (!faults.isEmpty()) {
                        return out;
                    }
                    got.add(value);
                    next++;
                }
                if (!token().equals(";")) {
                    faults.add(new Fault(place(), 1));
                    return out;
                }
                next++;
                out = with(out, name, got);
            }
            return out;
        }

        private static boolean fits(Told out, char c, int value, List<Integer> got) {
            switch (c) {
                case 'D': return value >= 1 && value <= 99;
                case 'L': case 'V': return value <= 99;
                case 'C': return value >= 1 && value <= 99;
                case 'R': return value <= 9;
                case 'W': case 'O': case 'X': return value < out.words.size();
                case 'H': return value <= 1;
                case 'P': return value < out.honest.size();
                case 'E': return value < out.year;
                default:
                    if (value < 1 || value > 255) {
                        return false;
                    }
                    for (int bit = 0; bit < 8; bit++) {
                        boolean in = value / (1 << bit) % 2 == 1;
                        if (in && (bit >= out.words.size() || bit == got.get(0))) {
                            return false;
                        }
                    }
                    return true;
            }
        }

        private static boolean isFourth(Told out, char c, int value) {
            return c == 'W' && out.words.get(value).ways.size() == 2
                    || c == 'O' && out.words.get(value).points[0];
        }

        private static Told with(Told out, String name, List<Integer> got) {
            switch (name) {
                case "y":
                    return new Told(got.get(0), out.words, out.honest, out.needs, out.ways);
                case "w":
                    out.words.add(new Word(got.get(0), got.get(1), got.get(2), new ArrayList<>(), new boolean[1]));
                    return out;
                case "a":
                    out.words.get(got.get(0)).ways.add(got.get(1));
                    return new Told(out.year, out.words, out.honest, out.needs, out.ways + 1);
                case "o":
                    out.words.get(got.get(0)).points[0] = true;
                    return out;
                case "p":
                    out.honest.add(got.get(0) == 1);
                    return out;
                default:
                    out.needs.add(new Need(got.get(0), got.get(1), got.get(2), got.get(3)));
                    return out;
            }
        }
    }

    int fault() {
        return faultPlace;
    }

    private int today() {
        return told.year == 0 ? 0 : s.get("days") % told.year;
    }

    int told(int what) {
        int never = 0;
        for (int w = 0; w < told.words.size(); w++) {
            never += s.get("said " + w) == 0 ? 1 << w : 0;
        }
        int[] all = {told.year, told.words.size(), told.ways, told.honest.size(), told.needs.size(), text.length(),
            s.get("days"), today(), s.get("met"), s.get("lost"), s.get("worth"), s.get("pointed"), never,
            knots.size(), book.size(), undos.size()};
        return what < 0 || what >= all.length ? OUTSIDE : all[what];
    }

    private int byAll(int w) {
        int sum = 0;
        for (int p = 0; p < told.honest.size(); p++) {
            sum += s.get("hoard " + p + " " + w);
        }
        return sum;
    }

    int word(int w, int what) {
        if (noWord(w)) {
            return UNKNOWN;
        }
        Word word = told.words.get(w);
        int[] all = {s.get("limit " + w), word.cost, word.rhyme, s.get("left " + w), byAll(w), s.get("said " + w),
            word.ways.size() > 0 ? word.ways.get(0) : 0, word.ways.size() > 1 ? word.ways.get(1) : 0,
            word.points[0] ? 1 : 0};
        return what < 0 || what >= all.length ? OUTSIDE : all[what];
    }

    int hoarded(int p, int w) {
        return noPerson(p) || noWord(w) ? UNKNOWN : s.get("hoard " + p + " " + w);
    }

    int need(int n, int what) {
        if (n < 0 || n >= told.needs.size()) {
            return UNKNOWN;
        }
        Need need = told.needs.get(n);
        int[] all = {need.person, need.word, need.day, need.worth, toCome().contains(n) ? 1 : 0};
        return what < 0 || what >= all.length ? OUTSIDE : all[what];
    }

    private List<Integer> toCome() {
        List<Integer> list = new ArrayList<>();
        for (int n = 0; n < told.needs.size(); n++) {
            if (told.needs.get(n).day >= today()) {
                list.add(n);
            }
        }
        return list;
    }

    /** Something was done to what stood before: that can be undone now. */
    private int done(Section2 before, int answer) {
        undos.add(before);
        while (undos.size() > 16) {
            undos.remove(0);
        }
        return answer;
    }

    private void newYear() {
        for (int w = 0; w < told.words.size(); w++) {
            s.put("left " + w, s.get("limit " + w));
            for (int p = 0; p < told.honest.size(); p++) {
                s.put("hoard " + p + " " + w, 0);
            }
        }
    }

    private int has(int p, int w) {
        return s.get("hoard " + p + " " + w) + s.get("left " + w);
    }

    /** Says all words of the set if all can be said, and none else. */
    private boolean sayAll(int p, int set) {
        for (int w = 0; w < 8; w++) {
            if ((set & 1 << w) != 0 && has(p, w) < 1) {
                return false;
            }
        }
        for (int w = 0; w < 8; w++) {
            if ((set & 1 << w) != 0) {
                String from = s.get("hoard " + p + " " + w) > 0 ? "hoard " + p + " " + w : "left " + w;
                s.put(from, s.get(from) - 1);
                s.countMore("said " + w, 1);
            }
        }
        return true;
    }

    private boolean meets(Need need) {
        Word word = told.words.get(need.word);
        if (sayAll(need.person, 1 << need.word)) {
            return true;
        }
        for (int way : word.ways) {
            if (sayAll(need.person, way)) {
                return true;
            }
        }
        if (word.points[0]) {
            s.countMore("pointed", 1);
        }
        return word.points[0];
    }

    private int passDay() {
        int metToday = 0;
        for (Need need : told.needs) {
            if (need.day != today()) {
                continue;
            }
            if (meets(need)) {
                metToday++;
                s.countMore("met", 1);
            } else {
                s.countMore("lost", 1);
                s.countMore("worth", need.worth);
            }
        }
        s.put("days", s.get("days") + 1);
        if (today() == 0) {
            newYear();
        }
        return metToday;
    }

    int day(int n) {
        if (n < 1 || n > 60) {
            return OUTSIDE;
        }
        if (told.year == 0) {
            return NOT;
        }
        if (s.get("days") > 9000) {
            return FULL;
        }
        Section2 before = s.copy();
        for (int i = 0; i < n; i++) {
            passDay();
        }
        return done(before, s.get("days"));
    }

    int say(int p, int w) {
        if (noPerson(p) || noWord(w)) {
            return UNKNOWN;
        }
        Section2 before = s.copy();
        return sayAll(p, 1 << w) ? done(before, has(p, w)) : NOT;
    }

    int around(int p, int w, int k) {
        if (noPerson(p) || noWord(w)) {
            return UNKNOWN;
        }
        if (k != 0 && k != 1) {
            return OUTSIDE;
        }
        List<Integer> ways = told.words.get(w).ways;
        Section2 before = s.copy();
        return k < ways.size() && sayAll(p, ways.get(k)) ? done(before, ways.get(k)) : NOT;
    }

    int point(int w) {
        if (noWord(w)) {
            return UNKNOWN;
        }
        if (!told.words.get(w).points[0]) {
            return NOT;
        }
        Section2 before = s.copy();
        s.countMore("pointed", 1);
        return done(before, s.get("pointed"));
    }

    private static boolean outsideOneTo99(int n) {
        return n < 1 || n > 99;
    }

    int hoard(int p, int w, int n) {
        if (noPerson(p) || noWord(w)) {
            return UNKNOWN;
        }
        if (outsideOneTo99(n)) {
            return OUTSIDE;
        }
        Section2 before = s.copy();
        return move("left " + w, "hoard " + p + " " + w, n) ? done(before, hoarded(p, w)) : NOT;
    }

    private boolean move(String from, String to, int n) {
        if (s.get(from) < n) {
            return false;
        }
        s.put(from, s.get(from) - n);
        s.put(to, s.get(to) + n);
        return true;
    }

    int sell(int p, int q, int w, int n) {
        if (noPerson(p) || noPerson(q) || p == q || noWord(w)) {
            return UNKNOWN;
        }
        if (outsideOneTo99(n)) {
            return OUTSIDE;
        }
        Section2 before = s.copy();
        return move("hoard " + p + " " + w, "hoard " + q + " " + w, n) ? done(before, hoarded(q, w)) : NOT;
    }

    int raise(int w, int n) {
        if (noWord(w)) {
            return UNKNOWN;
        }
        if (outsideOneTo99(n)) {
            return OUTSIDE;
        }
        if (s.get("limit " + w) + n > 99) {
            return NOT;
        }
        Section2 before = s.copy();
        s.put("limit " + w, s.get("limit " + w) + n);
        s.put("left " + w, s.get("left " + w) + n);
        return done(before, s.get("limit " + w));
    }

    private int draw(int n) {
        theSeed = (theSeed * 1103515245L + 12345L) % (1L << 31);
        return (int) (theSeed / 65536 % n);
    }

    int drift(int n) {
        if (n < 1 || n > 60) {
            return OUTSIDE;
        }
        if (told.year == 0) {
            return NOT;
        }
        if (s.get("days") > 9000) {
            return FULL;
        }
        Section2 before = s.copy();
        for (int i = 0; i < n; i++) {
            if (!told.honest.isEmpty() && !told.words.isEmpty()) {
                int p = draw(told.honest.size());
                int w = draw(told.words.size());
                byDraws(p, w, draw(4));
            }
            passDay();
        }
        return done(before, s.get("lost"));
    }

    private void byDraws(int p, int w, int deed) {
        Word word = told.words.get(w);
        if (deed == 0) {
            sayAll(p, 1 << w);
        }
        if (deed == 1) {
            move("left " + w, "hoard " + p + " " + w, 1);
        }
        if (deed == 2 && !word.ways.isEmpty()) {
            sayAll(p, word.ways.get(0));
        }
        if (deed == 3 && word.points[0]) {
            s.countMore("pointed", 1);
        }
    }

    int undo() {
        if (undos.isEmpty()) {
            return NOT;
        }
        s = undos.remove(undos.size() - 1);
        return undos.size();
    }

    /** The least cost without coming back to a word of the path: a way in a circle saves nothing. */
    private long least(int p, int w, Set<Integer> path) {
        long best = Long.MAX_VALUE;
        Set<Integer> longer = new HashSet<>(path);
        longer.add(w);
        for (int kind = 0; kind < 4; kind++) {
            best = Math.min(best, leastBy(p, w, kind, longer));
        }
        return best;
    }

    private long leastBy(int p, int w, int kind, Set<Integer> path) {
        Word word = told.words.get(w);
        if (kind == 0) {
            return has(p, w) > 0 ? word.cost : Long.MAX_VALUE;
        }
        if (kind == 1) {
            return word.points[0] ? 0 : Long.MAX_VALUE;
        }
        if (kind - 2 >= word.ways.size()) {
            return Long.MAX_VALUE;
        }
        long sum = 0;
        for (int v = 0; v < told.words.size(); v++) {
            if ((word.ways.get(kind - 2) & 1 << v) != 0) {
                long part = path.contains(v) ? Long.MAX_VALUE : least(p, v, path);
                if (part == Long.MAX_VALUE) {
                    return part;
                }
                sum += part;
            }
        }
        return sum;
    }

    int cheapest(int p, int w, int what) {
        if (noPerson(p) || noWord(w)) {
            return UNKNOWN;
        }
        if (what != 0 && what != 1) {
            return OUTSIDE;
        }
        long best = least(p, w, Set.of());
        if (best == Long.MAX_VALUE) {
            return NONE;
        }
        if (what == 0) {
            return (int) best;
        }
        for (int kind = 0; kind < 4; kind++) {
            // by the cheapest of the way's words, each for itself: a circle may be as cheap
            if (leastBy(p, w, kind, Set.of()) == best) {
                return kind;
            }
        }
        return NONE;
    }

    int runsOut(int w) {
        if (noWord(w)) {
            return UNKNOWN;
        }
        Section2 before = s.copy();
        int answer = NONE;
        for (int behind = 0; behind <= 99 && answer == NONE; behind++) {
            if (s.get("left " + w) == 0) {
                answer = behind;
            }
            passDay();
            if (today() == 0) {
                break;
            }
        }
        s = before;
        return answer;
    }

    int willBe(int n) {
        if (outsideOneTo99(n)) {
            return OUTSIDE;
        }
        if (told.year == 0) {
            return NOT;
        }
        Section2 before = s.copy();
        int sum = 0;
        for (int i = 0; i < n; i++) {
            sum += passDay();
        }
        s = before;
        return sum;
    }

    int plan(int n) {
        if (n < -2 || n >= told.needs.size()) {
            return UNKNOWN;
        }
        List<Integer> open = toCome();
        int[] supply = new int[8];
        for (int w = 0; w < told.words.size(); w++) {
            supply[w] = s.get("left " + w) + byAll(w);
        }
        int[] best = null;
        int[] bestHow = null;
        int[] how = new int[open.size()];
        boolean more = true;
        while (more) {
            int[] value = valueOf(open, how, supply);
            if (value != null && (best == null || value[0] > best[0] || value[0] == best[0] && value[1] < best[1])) {
                best = value;
                bestHow = how.clone();
            }
            int i = how.length - 1;
            while (i >= 0 && how[i] == 4) {
                how[i] = 0;
                i--;
            }
            more = i >= 0;
            if (more) {
                how[i]++;
            }
        }
        if (n < 0) {
            return n == NONE ? best[0] : best[1];
        }
        return open.contains(n) ? bestHow[open.indexOf(n)] : NONE;
    }

    /** Worth and words of a plan; null if it cannot be. */
    private int[] valueOf(List<Integer> open, int[] how, int[] supply) {
        int[] used = new int[8];
        int worth = 0;
        int words = 0;
        for (int i = 0; i < how.length; i++) {
            Need need = told.needs.get(open.get(i));
            Word word = told.words.get(need.word);
            int set = 0;
            if (how[i] == 1) {
                set = 1 << need.word;
            } else if (how[i] == 4 && !word.points[0] || (how[i] == 2 || how[i] == 3) && word.ways.size() < how[i] - 1) {
                return null;
            } else if (how[i] == 2 || how[i] == 3) {
                set = word.ways.get(how[i] - 2);
            }
            for (int w = 0; w < 8; w++) {
                if ((set & 1 << w) != 0) {
                    used[w]++;
                    words++;
                }
            }
            worth += how[i] == 0 ? 0 : need.worth;
        }
        for (int w = 0; w < 8; w++) {
            if (used[w] > supply[w]) {
                return null;
            }
        }
        return new int[] {worth, words};
    }

    int price(int w) {
        if (noWord(w)) {
            return UNKNOWN;
        }
        List<Integer> worths = new ArrayList<>();
        for (int n : toCome()) {
            if (told.needs.get(n).word == w) {
                worths.add(told.needs.get(n).worth);
            }
        }
        worths.sort(Comparator.reverseOrder());
        int met = s.get("left " + w) + byAll(w);
        return met < worths.size() ? worths.get(met) : 0;
    }

    private int wants(int p, int w) {
        int sum = 0;
        for (int n : toCome()) {
            sum += told.needs.get(n).person == p && told.needs.get(n).word == w ? 1 : 0;
        }
        return sum;
    }

    private static int ofList(List<Integer> list, int i) {
        if (i == NONE) {
            return list.size();
        }
        return i >= 0 && i < list.size() ? list.get(i) : NONE;
    }

    int sells(int w, int i) {
        if (noWord(w)) {
            return UNKNOWN;
        }
        List<Integer> pairs = new ArrayList<>();
        for (int pair = 0; pair < 100; pair++) {
            int p = pair / 10;
            int q = pair % 10;
            if (noPerson(p) || noPerson(q) || p == q || s.get("left " + w) > 0) {
                continue;
            }
            if (hoarded(p, w) > 0 && wants(p, w) == 0 && hoarded(q, w) == 0 && wants(q, w) > 0) {
                pairs.add(pair);
            }
        }
        return ofList(pairs, i);
    }

    int share(int p, int w) {
        if (noPerson(p) || noWord(w)) {
            return UNKNOWN;
        }
        List<Integer> queue = new ArrayList<>();
        for (int q = 0; q < told.honest.size(); q++) {
            queue.add(q);
        }
        queue.sort(Comparator.comparingInt((Integer q) -> -wants(q, w)).thenComparingInt(q -> q));
        int[] gets = new int[queue.size()];
        for (int i = 0; i < s.get("left " + w); i++) {
            gets[queue.get(i % queue.size())]++;
        }
        return gets[p];
    }

    int more(int w) {
        if (noWord(w)) {
            return UNKNOWN;
        }
        for (int more = 0;; more++) {
            int left = s.get("left " + w) + more;
            for (int p = 0; p < told.honest.size(); p++) {
                for (int i = 0, own = hoarded(p, w); i < wants(p, w); i++) {
                    if (own > 0) {
                        own--;
                    } else {
                        left--;
                    }
                }
            }
            if (left >= 0 || left == s.get("left " + w) + more) {
                return more;
            }
        }
    }

    int fire(int k, int n) {
        return k < 0 || k > 9 || n < 0 || n > 20 ? OUTSIDE : mean(k, n, new HashMap<>());
    }

    private static int mean(int k, int n, Map<Integer, Integer> known) {
        if (n == 0) {
            return 0;
        }
        Integer had = known.get(100 * k + n);
        if (had != null) {
            return had;
        }
        int sum = 0;
        for (int worth = 1; worth <= 6; worth++) {
            int not = mean(k, n - 1, known);
            int cry = k == 0 ? 0 : 1000 * worth + mean(k - 1, n - 1, known);
            sum += Math.max(not, cry);
        }
        known.put(100 * k + n, sum / 6);
        return sum / 6;
    }

    int rhymes(int i) {
        List<Integer> pairs = new ArrayList<>();
        for (int pair = 0; pair < 100; pair++) {
            int v = pair / 10;
            int w = pair % 10;
            if (v < w && !noWord(w) && told.words.get(v).rhyme == told.words.get(w).rhyme
                    && Math.min(s.get("left " + v), s.get("left " + w)) > 0) {
                pairs.add(pair);
            }
        }
        return ofList(pairs, i);
    }

    int silent(int n, int q) {
        if (n < 0 || n > 60 || q < 0 || q > 100) {
            return OUTSIDE;
        }
        return n == 0 ? 1000000000 : (int) ((long) silent(n - 1, q) * q / 100);
    }

    int knot(int w, int day, boolean said) {
        if (noWord(w)) {
            return UNKNOWN;
        }
        if (day < 0 || day > 98) {
            return OUTSIDE;
        }
        if (knots.size() == 6) {
            return FULL;
        }
        knots.add(new Knot(w, day, said));
        return knots.size();
    }

    private boolean saidThen(int p, int w, int day) {
        boolean hadNeed = false;
        for (Need need : told.needs) {
            hadNeed = hadNeed || need.person == p && need.word == w && need.day == day;
        }
        return told.honest.get(p) ? hadNeed : !hadNeed;
    }

    private List<Integer> suspects() {
        List<Integer> list = new ArrayList<>();
        for (int p = 0; p < told.honest.size(); p++) {
            boolean fits = true;
            for (Knot knot : knots) {
                fits = fits && saidThen(p, knot.word, knot.day) == knot.said;
            }
            if (fits) {
                list.add(p);
            }
        }
        return list;
    }

    int who() {
        return suspects().stream().mapToInt(p -> 1 << p).sum();
    }

    int ask() {
        List<Integer> suspects = suspects();
        int best = NONE;
        int bestPart = 99;
        for (int w = told.words.size() - 1; w >= 0; w--) {
            for (int day = told.year - 1; day >= 0; day--) {
                final int theWord = w;
                final int theDay = day;
                int yes = (int) suspects.stream().filter(p -> saidThen(p, theWord, theDay)).count();
                int no = suspects.size() - yes;
                if (yes > 0 && no > 0 && Math.max(yes, no) <= bestPart) {
                    bestPart = Math.max(yes, no);
                    best = 100 * w + day;
                }
            }
        }
        return best;
    }

    int write(int w, int left) {
        if (noWord(w)) {
            return UNKNOWN;
        }
        if (left < 0 || left > 99) {
            return OUTSIDE;
        }
        if (book.size() == 15) {
            return FULL;
        }
        book.add(new Entry(w, left));
        return book.size();
    }

    int tear() {
        int had = knots.size() + book.size();
        knots.clear();
        book.clear();
        return had;
    }

    int judge() {
        for (int i = 0; i < book.size(); i++) {
            if (s.get("left " + book.get(i).word) != book.get(i).left) {
                return i;
            }
        }
        return NONE;
    }

    int seed(int v) {
        if (v < 0) {
            return OUTSIDE;
        }
        int old = (int) theSeed;
        theSeed = v;
        return old;
    }

    int keep(int i) {
        if (i != 0 && i != 1) {
            return UNKNOWN;
        }
        images.put(i, s.copy());
        imageSeeds.put(i, (int) theSeed);
        undos.clear();
        return 1;
    }

    int goBack(int i) {
        if (i != 0 && i != 1) {
            return UNKNOWN;
        }
        if (!images.containsKey(i)) {
            return NOT;
        }
        s = images.get(i).copy();
        theSeed = imageSeeds.get(i);
        undos.clear();
        return 1;
    }
}

/**
 * A town whose council has set for every word how often it may be spoken in a year.
 *
 * <p>The promises are told in ../shared/DOC.md; the words used here (need, way round, left,
 * hoarded, said, met, lost) are the document's own.
 */
public final class WordRation {
    public static final int NONE = -1, UNKNOWN = -1000000001, OUTSIDE = -1000000002,
            NOT = -1000000003, FULL = -1000000004;

    private static final int WORDS = 8;
    private static final int WAYS = 10;
    private static final int WAYS_A_WORD = 2;
    private static final int PERSONS = 5;
    private static final int NEEDS = 8;
    private static final int LETTERS = 240;
    private static final int LONGEST_YEAR = 99;
    private static final int HIGHEST_LIMIT = 99;
    private static final int HIGHEST_COUNT = 999999;
    private static final int LAST_DAY_TO_START = 9000;
    private static final int LONGEST_STRIDE = 60;
    private static final int UNDOS = 16;
    private static final int IMAGES = 2;
    private static final int KNOTS = 6;
    private static final int ENTRIES = 15;
    private static final int MOST_WORDS_OF_FIRE = 9;
    private static final int MOST_NIGHTS = 20;
    private static final int MOST_SILENT_DAYS = 60;
    private static final int BILLION = 1000000000;

    // how a plan meets a need
    private static final int NOT_MET = 0;
    private static final int BY_WORD = 1;
    private static final int BY_FIRST_WAY = 2;
    private static final int BY_POINTING = 4;
    private static final int HOWS = 5;

    // by which a word is cheapest: not the plan's numbers, though alike
    private static final int ITSELF = 0;
    private static final int GESTURE = 1;
    private static final int FIRST_WAY = 2;
    private static final int KINDS = 4;

    // in these orders a search tries how to meet a need: a plan of great worth is found early if
    // needs are met first, and the first of like plans if the lesser numbers come first
    private static final int[] EAGER = {4, 1, 2, 3, 0};
    private static final int[] RISING = {0, 1, 2, 3, 4};

    private final Text text = new Text();
    private Town town = new Town();
    private Town draft = new Town();
    private final State now = new State();
    private final State trial = new State();
    private final Past past = new Past();
    private final Image[] images = new Image[IMAGES];
    private final Plan plan = new Plan();
    private final Knots knots = new Knots();
    private final Book book = new Book();
    private final int[] cheap = new int[WORDS];
    private final int[] byWords = new int[MOST_WORDS_OF_FIRE + 1];
    private int seed;

    public WordRation() {
        for (int i = 0; i < IMAGES; i++) {
            images[i] = new Image();
        }
    }

    // ---- the town

    public int feed(int letter) {
        if (letter < 0 || letter > 255) {
            return OUTSIDE;
        }
        if (text.isFull()) {
            return FULL;
        }
        text.add(letter);
        return text.length;
    }

    public int town() {
        text.readInto(draft);
        text.empty();
        if (text.fault != 0) {
            return -10 - text.fault;
        }
        Town old = town;
        town = draft;
        draft = old;
        now.begin(town);
        past.forget();
        knots.clear();
        book.clear();
        for (int i = 0; i < IMAGES; i++) {
            images[i].kept = false;
        }
        return town.words;
    }

    public int fault() {
        return text.place;
    }

    public int told(int what) {
        switch (what) {
            case 0: return town.days;
            case 1: return town.words;
            case 2: return town.ways;
            case 3: return town.persons;
            case 4: return town.needs;
            case 5: return text.length;
            case 6: return now.days;
            case 7: return today();
            case 8: return now.met;
            case 9: return now.lost;
            case 10: return now.lostWorth;
            case 11: return now.pointed;
            case 12: return neverSaid();
            case 13: return knots.count;
            case 14: return book.count;
            case 15: return past.count;
            default: return OUTSIDE;
        }
    }

    public int word(int w, int what) {
        if (!isWord(w)) {
            return UNKNOWN;
        }
        switch (what) {
            case 0: return now.limit[w];
            case 1: return town.cost[w];
            case 2: return town.rhyme[w];
            case 3: return now.left[w];
            case 4: return now.hoardedByAll(w);
            case 5: return now.said[w];
            case 6: return town.wayRound(w, 0);
            case 7: return town.wayRound(w, 1);
            case 8: return town.canPoint(w) ? 1 : 0;
            default: return OUTSIDE;
        }
    }

    public int hoarded(int p, int w) {
        if (!isPerson(p) || !isWord(w)) {
            return UNKNOWN;
        }
        return now.hoardedBy(p, w);
    }

    public int need(int n, int what) {
        if (!isNeed(n)) {
            return UNKNOWN;
        }
        switch (what) {
            case 0: return town.needPerson[n];
            case 1: return town.needWord[n];
            case 2: return town.needDay[n];
            case 3: return town.needWorth[n];
            case 4: return town.isToCome(n, today()) ? 1 : 0;
            default: return OUTSIDE;
        }
    }

    // ---- what is done

    public int day(int n) {
        int refusal = refusalOfDays(n);
        if (refusal != 0) {
            return refusal;
        }
        past.remember(now);
        for (int i = 0; i < n; i++) {
            now.passDay(town);
        }
        return now.days;
    }

    public int say(int p, int w) {
        if (!isPerson(p) || !isWord(w)) {
            return UNKNOWN;
        }
        if (!now.canSay(p, w)) {
            return NOT;
        }
        past.remember(now);
        now.speak(p, w);
        return now.sayable(p, w);
    }

    public int around(int p, int w, int k) {
        if (!isPerson(p) || !isWord(w)) {
            return UNKNOWN;
        }
        if (k < 0 || k >= WAYS_A_WORD) {
            return OUTSIDE;
        }
        int set = town.wayRound(w, k);
        if (!now.canGo(p, set)) {
            return NOT;
        }
        past.remember(now);
        now.go(p, set);
        return set;
    }

    public int point(int w) {
        if (!isWord(w)) {
            return UNKNOWN;
        }
        if (!town.canPoint(w)) {
            return NOT;
        }
        past.remember(now);
        now.gesture();
        return now.pointed;
    }

    public int hoard(int p, int w, int n) {
        if (!isPerson(p) || !isWord(w)) {
            return UNKNOWN;
        }
        if (n < 1 || n > HIGHEST_LIMIT) {
            return OUTSIDE;
        }
        if (now.left[w] < n) {
            return NOT;
        }
        past.remember(now);
        now.store(p, w, n);
        return now.hoardedBy(p, w);
    }

    public int sell(int p, int q, int w, int n) {
        if (!isPerson(p) || !isPerson(q) || p == q || !isWord(w)) {
            return UNKNOWN;
        }
        if (n < 1 || n > HIGHEST_LIMIT) {
            return OUTSIDE;
        }
        if (now.hoardedBy(p, w) < n) {
            return NOT;
        }
        past.remember(now);
        now.addHoarded(p, w, -n);
        now.addHoarded(q, w, n);
        return now.hoardedBy(q, w);
    }

    public int raise(int w, int n) {
        if (!isWord(w)) {
            return UNKNOWN;
        }
        if (n < 1 || n > HIGHEST_LIMIT) {
            return OUTSIDE;
        }
        if (now.limit[w] + n > HIGHEST_LIMIT) {
            return NOT;
        }
        past.remember(now);
        now.limit[w] += n;
        now.left[w] += n;
        return now.limit[w];
    }

    public int drift(int n) {
        int refusal = refusalOfDays(n);
        if (refusal != 0) {
            return refusal;
        }
        past.remember(now);
        for (int i = 0; i < n; i++) {
            if (town.persons > 0 && town.words > 0) {
                doByDraws();
            }
            now.passDay(town);
        }
        return now.lost;
    }

    public int undo() {
        if (past.count == 0) {
            return NOT;
        }
        past.returnTo(now);
        return past.count;
    }

    // ---- tried

    public int cheapest(int p, int w, int what) {
        if (!isPerson(p) || !isWord(w)) {
            return UNKNOWN;
        }
        if (what < 0 || what > 1) {
            return OUTSIDE;
        }
        workOutCheap(p);
        return what == 0 ? cheap[w] : cheapestKind(p, w);
    }

    public int runsOut(int w) {
        if (!isWord(w)) {
            return UNKNOWN;
        }
        trial.copy(now);
        int daysAhead = town.days - today();
        for (int behind = 0; behind < daysAhead; behind++) {
            if (trial.left[w] == 0) {
                return behind;
            }
            trial.passDay(town);
        }
        return NONE;
    }

    public int willBe(int n) {
        if (n < 1 || n > LONGEST_YEAR) {
            return OUTSIDE;
        }
        if (town.days == 0) {
            return NOT;
        }
        trial.copy(now);
        for (int i = 0; i < n; i++) {
            trial.passDay(town);
        }
        return trial.met - now.met;
    }

    public int plan(int n) {
        if (n < -2 || n >= town.needs) {
            return UNKNOWN;
        }
        plan.workOut(town, now);
        if (n == -2) {
            return plan.bestWords;
        }
        return n == NONE ? plan.bestWorth : plan.howMet(n);
    }

    public int price(int w) {
        if (!isWord(w)) {
            return UNKNOWN;
        }
        int supply = now.supply(w);
        for (int n = 0; n < town.needs; n++) {
            if (isToComeOf(n, w) && rankByWorth(n, w) == supply) {
                return town.needWorth[n];
            }
        }
        return 0;
    }

    public int sells(int w, int i) {
        if (!isWord(w)) {
            return UNKNOWN;
        }
        int found = 0;
        for (int p = 0; p < town.persons; p++) {
            for (int q = 0; q < town.persons; q++) {
                if (wouldSell(p, q, w)) {
                    if (found == i) {
                        return 10 * p + q;
                    }
                    found++;
                }
            }
        }
        return i == NONE ? found : NONE;
    }

    public int share(int p, int w) {
        if (!isPerson(p) || !isWord(w) || town.persons == 0) {
            return UNKNOWN;
        }
        int each = now.left[w] / town.persons;
        int over = now.left[w] % town.persons;
        int mine = needsToCome(p, w);
        int ahead = 0;
        for (int q = 0; q < town.persons; q++) {
            int theirs = needsToCome(q, w);
            if (theirs > mine || theirs == mine && q < p) {
                ahead++;
            }
        }
        return ahead < over ? each + 1 : each;
    }

    public int more(int w) {
        if (!isWord(w)) {
            return UNKNOWN;
        }
        int wanted = 0;
        for (int p = 0; p < town.persons; p++) {
            wanted += Math.max(0, needsToCome(p, w) - now.hoardedBy(p, w));
        }
        return Math.max(0, wanted - now.left[w]);
    }

    public int fire(int k, int n) {
        if (k < 0 || k > MOST_WORDS_OF_FIRE || n < 0 || n > MOST_NIGHTS) {
            return OUTSIDE;
        }
        for (int words = 0; words <= k; words++) {
            byWords[words] = 0;
        }
        for (int night = 0; night < n; night++) {
            // the greater number of words first: each leans on one word less in the old row
            for (int words = k; words > 0; words--) {
                byWords[words] = oneNightMore(byWords[words], byWords[words - 1]);
            }
        }
        return byWords[k];
    }

    public int rhymes(int i) {
        int found = 0;
        for (int v = 0; v < town.words; v++) {
            for (int w = v + 1; w < town.words; w++) {
                if (town.rhyme[v] == town.rhyme[w] && now.left[v] > 0 && now.left[w] > 0) {
                    if (found == i) {
                        return 10 * v + w;
                    }
                    found++;
                }
            }
        }
        return i == NONE ? found : NONE;
    }

    public int silent(int n, int q) {
        if (n < 0 || n > MOST_SILENT_DAYS || q < 0 || q > 100) {
            return OUTSIDE;
        }
        long odds = BILLION;
        for (int i = 0; i < n; i++) {
            odds = odds * q / 100;
        }
        return (int) odds;
    }

    // ---- knots

    public int knot(int w, int day, boolean said) {
        if (!isWord(w)) {
            return UNKNOWN;
        }
        if (day < 0 || day >= LONGEST_YEAR) {
            return OUTSIDE;
        }
        if (knots.count >= KNOTS) {
            return FULL;
        }
        knots.tie(w, day, said);
        return knots.count;
    }

    public int who() {
        return knots.fitting(town);
    }

    public int ask() {
        int fitting = knots.fitting(town);
        int least = Integer.bitCount(fitting);
        int best = NONE;
        for (int w = 0; w < town.words; w++) {
            for (int d = 0; d < town.days; d++) {
                int part = greatestPart(fitting, w, d);
                if (part < least) {
                    least = part;
                    best = 100 * w + d;
                }
            }
        }
        return best;
    }

    public int write(int w, int left) {
        if (!isWord(w)) {
            return UNKNOWN;
        }
        if (left < 0 || left > HIGHEST_LIMIT) {
            return OUTSIDE;
        }
        if (book.count >= ENTRIES) {
            return FULL;
        }
        book.enter(w, left);
        return book.count;
    }

    public int tear() {
        int had = knots.count + book.count;
        knots.clear();
        book.clear();
        return had;
    }

    public int judge() {
        return book.firstWrong(now);
    }

    // ---- draws, images

    public int seed(int v) {
        if (v < 0) {
            return OUTSIDE;
        }
        int old = seed;
        seed = v;
        return old;
    }

    public int keep(int i) {
        if (i < 0 || i >= IMAGES) {
            return UNKNOWN;
        }
        Image image = images[i];
        image.state.copy(now);
        image.seed = seed;
        image.kept = true;
        past.forget();
        return 1;
    }

    public int goBack(int i) {
        if (i < 0 || i >= IMAGES) {
            return UNKNOWN;
        }
        Image image = images[i];
        if (!image.kept) {
            return NOT;
        }
        now.copy(image.state);
        seed = image.seed;
        past.forget();
        return 1;
    }

    // ---- what the calls lean on

    private boolean isWord(int w) {
        return w >= 0 && w < town.words;
    }

    private boolean isPerson(int p) {
        return p >= 0 && p < town.persons;
    }

    private boolean isNeed(int n) {
        return n >= 0 && n < town.needs;
    }

    private int today() {
        return town.dayOfYear(now.days);
    }

    private int neverSaid() {
        int set = 0;
        for (int w = 0; w < town.words; w++) {
            if (now.said[w] == 0) {
                set |= 1 << w;
            }
        }
        return set;
    }

    /** Why n days cannot pass, or 0. */
    private int refusalOfDays(int n) {
        if (n < 1 || n > LONGEST_STRIDE) {
            return OUTSIDE;
        }
        if (town.days == 0) {
            return NOT;
        }
        return now.days > LAST_DAY_TO_START ? FULL : 0;
    }

    private int drawOf(int n) {
        long next = (seed * 1103515245L + 12345L) & 0x7fffffffL;
        seed = (int) next;
        return n > 0 ? seed / 65536 % n : 0;
    }

    /** All three draws are made, whatever can be done then. */
    private void doByDraws() {
        int p = drawOf(town.persons);
        int w = drawOf(town.words);
        int deed = drawOf(4);
        if (deed == 0 && now.canSay(p, w)) {
            now.speak(p, w);
        } else if (deed == 1 && now.left[w] > 0) {
            now.store(p, w, 1);
        } else if (deed == 2 && now.canGo(p, town.wayRound(w, 0))) {
            now.go(p, town.wayRound(w, 0));
        } else if (deed == 3 && town.canPoint(w)) {
            now.gesture();
        }
    }

    /**
     * Ways round may lead in circles, so costs start from nothing that can be said and fall
     * round by round; each round settles at least one more word for good.
     */
    private void workOutCheap(int p) {
        for (int w = 0; w < WORDS; w++) {
            cheap[w] = NONE;
        }
        for (int round = 0; round < town.words; round++) {
            for (int w = 0; w < town.words; w++) {
                for (int kind = 0; kind < KINDS; kind++) {
                    int cost = costBy(p, w, kind);
                    if (cost != NONE && (cheap[w] == NONE || cost < cheap[w])) {
                        cheap[w] = cost;
                    }
                }
            }
        }
    }

    private int cheapestKind(int p, int w) {
        for (int kind = 0; kind < KINDS; kind++) {
            if (cheap[w] != NONE && costBy(p, w, kind) == cheap[w]) {
                return kind;
            }
        }
        return NONE;
    }

    private int costBy(int p, int w, int kind) {
        if (kind == ITSELF) {
            return now.canSay(p, w) ? town.cost[w] : NONE;
        }
        if (kind == GESTURE) {
            return town.canPoint(w) ? 0 : NONE;
        }
        return cheapTogether(town.wayRound(w, kind - FIRST_WAY));
    }

    private int cheapTogether(int set) {
        int sum = 0;
        for (int w = 0; w < WORDS; w++) {
            if ((set >> w & 1) != 0) {
                if (cheap[w] == NONE) {
                    return NONE;
                }
                sum += cheap[w];
            }
        }
        return set == 0 ? NONE : sum;
    }

    private boolean isToComeOf(int n, int w) {
        return town.needWord[n] == w && town.isToCome(n, today());
    }

    /** How many needs of w to come are worth more than n, or as much and told ahead of it. */
    private int rankByWorth(int n, int w) {
        int worth = town.needWorth[n];
        int ahead = 0;
        for (int m = 0; m < town.needs; m++) {
            int other = town.needWorth[m];
            if (isToComeOf(m, w) && (other > worth || other == worth && m < n)) {
                ahead++;
            }
        }
        return ahead;
    }

    private int needsToCome(int p, int w) {
        int count = 0;
        for (int n = 0; n < town.needs; n++) {
            if (town.needPerson[n] == p && isToComeOf(n, w)) {
                count++;
            }
        }
        return count;
    }

    private boolean wouldSell(int p, int q, int w) {
        return now.left[w] == 0
                && now.hoardedBy(p, w) > 0 && needsToCome(p, w) == 0
                && now.hoardedBy(q, w) == 0 && needsToCome(q, w) > 0;
    }

    /** The mean of one night more, with what the nights behind it bring with and without a word. */
    private static int oneNightMore(int silent, int cried) {
        int sum = 0;
        for (int worth = 1; worth <= 6; worth++) {
            sum += Math.max(1000 * worth + cried, silent);
        }
        return sum / 6;
    }

    private int greatestPart(int persons, int w, int d) {
        int speakers = 0;
        int others = 0;
        for (int p = 0; p < town.persons; p++) {
            if ((persons >> p & 1) == 0) {
                continue;
            }
            if (town.wouldHaveSaid(p, w, d)) {
                speakers++;
            } else {
                others++;
            }
        }
        return Math.max(speakers, others);
    }

    /** What the text tells; days is 0 if there is no town. */
    private static final class Town {
        int days;
        int words;
        int ways;
        int persons;
        int needs;
        int pointable;
        int honest;
        final int[] limit = new int[WORDS];
        final int[] cost = new int[WORDS];
        final int[] rhyme = new int[WORDS];
        final int[] round = new int[WORDS * WAYS_A_WORD];
        final int[] needPerson = new int[NEEDS];
        final int[] needWord = new int[NEEDS];
        final int[] needDay = new int[NEEDS];
        final int[] needWorth = new int[NEEDS];

        void clear() {
            days = 0;
            words = 0;
            ways = 0;
            persons = 0;
            needs = 0;
            pointable = 0;
            honest = 0;
            for (int i = 0; i < round.length; i++) {
                round[i] = 0;
            }
        }

        void addWord(int itsLimit, int itsCost, int itsRhyme) {
            if (words < WORDS) {
                limit[words] = itsLimit;
                cost[words] = itsCost;
                rhyme[words] = itsRhyme;
                words++;
            }
        }

        void addWay(int w, int set) {
            for (int k = 0; k < WAYS_A_WORD; k++) {
                int place = w * WAYS_A_WORD + k;
                if (place >= 0 && place < round.length && round[place] == 0) {
                    round[place] = set;
                    ways++;
                    return;
                }
            }
        }

        void addPerson(boolean isHonest) {
            if (persons < PERSONS) {
                honest |= isHonest ? 1 << persons : 0;
                persons++;
            }
        }

        void addNeed(int p, int w, int d, int worth) {
            if (needs < NEEDS) {
                needPerson[needs] = p;
                needWord[needs] = w;
                needDay[needs] = d;
                needWorth[needs] = worth;
                needs++;
            }
        }

        /** A set of words; 0: there is no such way. */
        int wayRound(int w, int k) {
            int place = w * WAYS_A_WORD + k;
            return place >= 0 && place < round.length ? round[place] : 0;
        }

        boolean canPoint(int w) {
            return (pointable >> w & 1) != 0;
        }

        int dayOfYear(int gone) {
            return days > 0 ? gone % days : 0;
        }

        boolean isToCome(int n, int today) {
            return needDay[n] >= today;
        }

        /** A liar says just what an honest one would not. */
        boolean wouldHaveSaid(int p, int w, int d) {
            boolean isHonest = (honest >> p & 1) != 0;
            for (int n = 0; n < needs; n++) {
                if (needPerson[n] == p && needWord[n] == w && needDay[n] == d) {
                    return isHonest;
                }
            }
            return !isHonest;
        }
    }

    /** THE TEXT, and how it is read: up to its first fault. */
    private static final class Text {
        private final int[] letters = new int[LETTERS];
        int length;
        int fault;
        int place = NONE;
        private int at;
        private int numberAt;

        boolean isFull() {
            return length >= LETTERS;
        }

        void add(int letter) {
            if (length < LETTERS) {
                letters[length] = letter;
                length++;
            }
        }

        void empty() {
            length = 0;
        }

        void readInto(Town into) {
            into.clear();
            fault = 0;
            place = NONE;
            at = 0;
            skipBlanks();
            for (int i = 0; i < LETTERS && fault == 0 && at < length; i++) {
                readClause(into);
                skipBlanks();
            }
        }

        private void readClause(Town into) {
            int name = letterHere();
            int bad = faultOfName(into, name);
            if (bad != 0) {
                blame(at, bad);
                return;
            }
            at++;
            switch (name) {
                case 'y': into.days = readNumber(1, LONGEST_YEAR); break;
                case 'w': readWord(into); break;
                case 'a': readWay(into); break;
                case 'o': readPointing(into); break;
                case 'p': into.addPerson(readNumber(0, 1) == 1); break;
                default: readNeed(into); break;
            }
            skipBlanks();
            if (letterHere() == ';') {
                at++;
            } else {
                blame(at, 1);
            }
        }

        private int faultOfName(Town into, int name) {
            if (name == 'y') {
                return into.days == 0 ? 0 : 3;
            }
            if (into.days == 0) {
                return 1;
            }
            switch (name) {
                case 'w': return into.words < WORDS ? 0 : 3;
                case 'a': return into.ways < WAYS ? 0 : 3;
                case 'o': return 0;
                case 'p': return into.persons < PERSONS ? 0 : 3;
                case 'n': return into.needs < NEEDS ? 0 : 3;
                default: return 1;
            }
        }

        private void readWord(Town into) {
            int limit = readNumber(0, HIGHEST_LIMIT);
            int cost = readNumber(1, 99);
            int rhyme = readNumber(0, 9);
            into.addWord(limit, cost, rhyme);
        }

        private void readWay(Town into) {
            int w = readNumber(0, into.words - 1);
            if (into.wayRound(w, WAYS_A_WORD - 1) != 0) {
                blame(numberAt, 4);
            }
            int set = readNumber(1, 255);
            if (set >> into.words != 0 || (set >> w & 1) != 0) {
                blame(numberAt, 2);
            }
            into.addWay(w, set);
        }

        private void readPointing(Town into) {
            int w = readNumber(0, into.words - 1);
            if (into.canPoint(w)) {
                blame(numberAt, 4);
            }
            into.pointable |= 1 << w;
        }

        private void readNeed(Town into) {
            int p = readNumber(0, into.persons - 1);
            int w = readNumber(0, into.words - 1);
            int d = readNumber(0, into.days - 1);
            int worth = readNumber(0, 99);
            into.addNeed(p, w, d, worth);
        }

        /**
         * A number within its bounds; 0 if there is a fault, there or earlier: a clause is then read
         * on without harm, for what was read so far is thrown away.
         */
        private int readNumber(int least, int most) {
            if (fault != 0) {
                return 0;
            }
            skipBlanks();
            numberAt = at;
            int value = 0;
            for (int i = at; i < length && letters[i] >= '0' && letters[i] <= '9'; i++) {
                // kept above all bounds once it is: a long row of figures must not wrap round
                value = Math.min(1000, 10 * value + letters[i] - '0');
                at++;
            }
            if (at == numberAt) {
                blame(at, 1);
            } else if (at - numberAt > 3 || value < least || value > most) {
                blame(numberAt, 2);
            }
            return fault == 0 ? value : 0;
        }

        private void skipBlanks() {
            for (int i = at; i < length && letters[i] == ' '; i++) {
                at++;
            }
        }

        /** NONE at the end. */
        private int letterHere() {
            return at >= 0 && at < length ? letters[at] : NONE;
        }

        /** Only the first fault counts: the text is read from left to right. */
        private void blame(int where, int what) {
            if (fault == 0) {
                fault = what;
                place = where;
            }
        }
    }

    /** All of section 2: what is left, hoarded, counted; its indices are known to the caller. */
    private static final class State {
        final int[] limit = new int[WORDS];
        final int[] left = new int[WORDS];
        final int[] said = new int[WORDS];
        private final int[] hoards = new int[PERSONS * WORDS];
        int days;
        int met;
        int lost;
        int lostWorth;
        int pointed;

        void begin(Town town) {
            days = 0;
            met = 0;
            lost = 0;
            lostWorth = 0;
            pointed = 0;
            for (int w = 0; w < WORDS; w++) {
                limit[w] = w < town.words ? town.limit[w] : 0;
                said[w] = 0;
            }
            beginYear();
        }

        void copy(State other) {
            days = other.days;
            met = other.met;
            lost = other.lost;
            lostWorth = other.lostWorth;
            pointed = other.pointed;
            System.arraycopy(other.limit, 0, limit, 0, WORDS);
            System.arraycopy(other.left, 0, left, 0, WORDS);
            System.arraycopy(other.said, 0, said, 0, WORDS);
            System.arraycopy(other.hoards, 0, hoards, 0, PERSONS * WORDS);
        }

        int hoardedBy(int p, int w) {
            return hoards[p * WORDS + w];
        }

        void addHoarded(int p, int w, int n) {
            hoards[p * WORDS + w] += n;
        }

        int hoardedByAll(int w) {
            int sum = 0;
            for (int p = 0; p < PERSONS; p++) {
                sum += hoardedBy(p, w);
            }
            return sum;
        }

        /** What is left and hoarded by all together. */
        int supply(int w) {
            return left[w] + hoardedByAll(w);
        }

        int sayable(int p, int w) {
            return left[w] + hoards[p * WORDS + w];
        }

        boolean canSay(int p, int w) {
            return sayable(p, w) > 0;
        }

        /** Only what can be said is said. */
        void speak(int p, int w) {
            if (hoardedBy(p, w) > 0) {
                addHoarded(p, w, -1);
            } else {
                left[w]--;
            }
            said[w] = counted(said[w], 1);
        }

        /** No words: there is no such way. */
        boolean canGo(int p, int set) {
            for (int w = 0; w < WORDS; w++) {
                if ((set >> w & 1) != 0 && !canSay(p, w)) {
                    return false;
                }
            }
            return set != 0;
        }

        void go(int p, int set) {
            for (int w = 0; w < WORDS; w++) {
                if ((set >> w & 1) != 0) {
                    speak(p, w);
                }
            }
        }

        void gesture() {
            pointed = counted(pointed, 1);
        }

        void store(int p, int w, int n) {
            left[w] -= n;
            addHoarded(p, w, n);
        }

        void passDay(Town town) {
            int today = town.dayOfYear(days);
            for (int n = 0; n < town.needs; n++) {
                if (town.needDay[n] == today) {
                    meetOrLose(town, n);
                }
            }
            days++;
            if (town.dayOfYear(days) == 0) {
                beginYear();
            }
        }

        private void meetOrLose(Town town, int n) {
            if (meets(town, town.needPerson[n], town.needWord[n])) {
                met = counted(met, 1);
            } else {
                lost = counted(lost, 1);
                lostWorth = counted(lostWorth, town.needWorth[n]);
            }
        }

        private boolean meets(Town town, int p, int w) {
            if (canSay(p, w)) {
                speak(p, w);
                return true;
            }
            for (int k = 0; k < WAYS_A_WORD; k++) {
                int set = town.wayRound(w, k);
                if (canGo(p, set)) {
                    go(p, set);
                    return true;
                }
            }
            if (town.canPoint(w)) {
                gesture();
                return true;
            }
            return false;
        }

        private void beginYear() {
            for (int w = 0; w < WORDS; w++) {
                left[w] = limit[w];
            }
            for (int i = 0; i < hoards.length; i++) {
                hoards[i] = 0;
            }
        }

        private static int counted(int count, int more) {
            return Math.min(HIGHEST_COUNT, count + more);
        }
    }

    /** What can be undone: the latest states, in a ring. */
    private static final class Past {
        private final State[] ring = new State[UNDOS];
        private int next;
        int count;

        Past() {
            for (int i = 0; i < UNDOS; i++) {
                ring[i] = new State();
            }
        }

        void forget() {
            count = 0;
        }

        void remember(State state) {
            ring[next].copy(state);
            next = (next + 1) % UNDOS;
            count = Math.min(UNDOS, count + 1);
        }

        void returnTo(State state) {
            next = (next + UNDOS - 1) % UNDOS;
            count--;
            state.copy(ring[next]);
        }
    }

    private static final class Image {
        final State state = new State();
        int seed;
        boolean kept;
    }

    /** The plan that is worth most, then of fewest words, then first. */
    private static final class Plan {
        private final int[] supply = new int[WORDS];
        private final int[] place = new int[NEEDS];
        private final int[] worths = new int[NEEDS];
        private final int[] uses = new int[NEEDS * HOWS];
        private final int[] worthBehind = new int[NEEDS + 1];
        private final int[] tried = new int[NEEDS];
        private final int[] best = new int[NEEDS];
        private int count;
        int bestWorth;
        int bestWords;

        void workOut(Town town, State state) {
            gather(town, state);
            bestWorth = NONE;
            bestWords = 0;
            search(this, EAGER, 0, 0, 0);
            // as if one word worse, so that the first of the best ones is found anew
            bestWords++;
            search(this, RISING, 0, 0, 0);
        }

        /** NONE: the need is not to come. */
        int howMet(int n) {
            return place[n] == NONE ? NONE : best[place[n]];
        }

        private void gather(Town town, State state) {
            for (int w = 0; w < WORDS; w++) {
                supply[w] = state.supply(w);
            }
            count = 0;
            for (int n = 0; n < town.needs; n++) {
                place[n] = NONE;
                if (town.isToCome(n, town.dayOfYear(state.days))) {
                    place[n] = count;
                    worths[count] = town.needWorth[n];
                    gatherUses(town, town.needWord[n]);
                    count++;
                }
            }
            worthBehind[count] = 0;
            for (int i = count - 1; i >= 0; i--) {
                worthBehind[i] = worthBehind[i + 1] + worths[i];
            }
        }

        /** For each way to meet the need of w: the set of words that it takes; NONE: no such way. */
        private void gatherUses(Town town, int w) {
            int from = count * HOWS;
            uses[from + NOT_MET] = 0;
            uses[from + BY_WORD] = 1 << w;
            for (int k = 0; k < WAYS_A_WORD; k++) {
                int set = town.wayRound(w, k);
                uses[from + BY_FIRST_WAY + k] = set == 0 ? NONE : set;
            }
            uses[from + BY_POINTING] = town.canPoint(w) ? 0 : NONE;
        }

        /** At most one level for each need. */
        private static void search(Plan plan, int[] order, int i, int worth, int words) {
            if (!plan.mayBeBetter(worth + plan.worthBehind[i], words)) {
                return;
            }
            if (i >= plan.count) {
                plan.take(worth, words);
                return;
            }
            for (int how : order) {
                int set = plan.uses[i * HOWS + how];
                if (plan.affords(set)) {
                    plan.change(set, -1);
                    plan.tried[i] = how;
                    int gain = how == NOT_MET ? 0 : plan.worths[i];
                    search(plan, order, i + 1, worth + gain, words + Integer.bitCount(set));
                    plan.change(set, 1);
                }
            }
        }

        private boolean mayBeBetter(int worth, int words) {
            return worth > bestWorth || worth == bestWorth && words < bestWords;
        }

        private void take(int worth, int words) {
            bestWorth = worth;
            bestWords = words;
            System.arraycopy(tried, 0, best, 0, count);
        }

        private boolean affords(int set) {
            if (set == NONE) {
                return false;
            }
            for (int w = 0; w < WORDS; w++) {
                if ((set >> w & 1) != 0 && supply[w] <= 0) {
                    return false;
                }
            }
            return true;
        }

        private void change(int set, int by) {
            for (int w = 0; w < WORDS; w++) {
                if ((set >> w & 1) != 0) {
                    supply[w] += by;
                }
            }
        }
    }

    /** What the crier tied: which word was said on which day of the year, or was not. */
    private static final class Knots {
        private final int[] words = new int[KNOTS];
        private final int[] days = new int[KNOTS];
        private final boolean[] said = new boolean[KNOTS];
        int count;

        void clear() {
            count = 0;
        }

        void tie(int w, int d, boolean wasSaid) {
            if (count < KNOTS) {
                words[count] = w;
                days[count] = d;
                said[count] = wasSaid;
                count++;
            }
        }

        /** The set of persons by whom all knots are so. */
        int fitting(Town town) {
            int set = 0;
            for (int p = 0; p < town.persons; p++) {
                if (fits(town, p)) {
                    set |= 1 << p;
                }
            }
            return set;
        }

        private boolean fits(Town town, int p) {
            for (int i = 0; i < count; i++) {
                if (town.wouldHaveSaid(p, words[i], days[i]) != said[i]) {
                    return false;
                }
            }
            return true;
        }
    }

    /** THE BOOK: how many words are left, as somebody wrote it. */
    private static final class Book {
        private final int[] words = new int[ENTRIES];
        private final int[] lefts = new int[ENTRIES];
        int count;

        void clear() {
            count = 0;
        }

        void enter(int w, int left) {
            if (count < ENTRIES) {
                words[count] = w;
                lefts[count] = left;
                count++;
            }
        }

        int firstWrong(State state) {
            for (int i = 0; i < count; i++) {
                if (state.left[words[i]] != lefts[i]) {
                    return i;
                }
            }
            return NONE;
        }
    }
}

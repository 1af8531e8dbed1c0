/**
 * The weather of a great house: it comes in by a butler at the door, or round by the back.
 * The document ../shared/DOC.md says what each call answers.
 */
public final class ButlerWeather {
    public static final int NONE = -1, BAD = -2, NOT = -3, FULL = -4;

    private static final int LEAST = -2147483648;
    private static final long LEAST_LONG = -9223372036854775808L;

    private static final int DAYS = 24, LAST_DAY = 23;
    private static final int MOST_CALLERS = 8, MOST_MEN = 4, MOST_CARDS = 8, MOST_FELT = 8;
    private static final int MOST_PATIENCE = 9, MOST_WARMTH = 40, SIXTEENTHS = 16;
    private static final int SHEETS = 4, MOST_ITEMS = 60;

    private static final int CALLERS_TEXT = 0, MEN_TEXT = 1;
    private static final int RAIN = 0, FROST = 1, GALE = 2, SUNSHINE = 3, SORTS = 4;
    private static final int BUTLER = 0;
    private static final int NOT_COME = 0, ON_STEP = 1, IN = 2, OVER = 3, SENT_ON = 4;
    private static final int BYTES = 0, SHORTS = 1, INTS = 2;
    private static final int NULL = 1, INDEX = 2, CAST = 3, STORE = 4, SIZE = 5;

    /** By how much one of each sort makes a day warmer. */
    private static final int[] WARMER = {-1, -3, -2, 4};

    private static final int SORT_SIGN = 0, RANK_SIGN = 1, FIGURE = 2, DAY_SIGN = 3;
    private static final int[] CALLER_SIGNS = {SORT_SIGN, FIGURE, DAY_SIGN, FIGURE};
    private static final int[] MAN_SIGNS = {RANK_SIGN, DAY_SIGN, DAY_SIGN};

    private final Text[] texts;
    private final Cards cards;
    private final Felt felt;
    private final Sheet[] sheets;
    /** The house as it was told, and one for what might be. */
    private final House home, trial;
    private final Odds odds;
    private boolean settled;
    private int finding;

    public ButlerWeather() {
        texts = new Text[2];
        texts[CALLERS_TEXT] = new Text(CALLER_SIGNS, MOST_CALLERS);
        texts[MEN_TEXT] = new Text(MAN_SIGNS, MOST_MEN);
        cards = new Cards();
        felt = new Felt();
        sheets = new Sheet[SHEETS];
        for (int s = 0; s < SHEETS; s++) {
            sheets[s] = new Sheet();
        }
        home = new House();
        trial = new House();
        odds = new Odds();
        settled = false;
        finding = 0;
    }

    // ---- callers, men, cards

    public int type(int text, int b) {
        if (!isText(text) || !within(b, 0, 255)) {
            return BAD;
        }
        if (!texts[text].hasRoom()) {
            return FULL;
        }
        settled = false;
        return texts[text].append(b);
    }

    public int wipe(int text) {
        if (!isText(text)) {
            return BAD;
        }
        settled = false;
        return texts[text].clear();
    }

    public int undo(int text) {
        if (!isText(text)) {
            return BAD;
        }
        if (texts[text].size == 0) {
            return NOT;
        }
        settled = false;
        return texts[text].dropLast();
    }

    public int fault(int text) {
        return isText(text) ? texts[text].firstFault() : BAD;
    }

    public int caller(int caller, int what) {
        House house = told();
        if (!house.hasCaller(caller)) {
            return BAD;
        }
        switch (what) {
            case 0: return house.sort[caller];
            case 1: return house.waits[caller];
            case 2: return house.calls[caller];
            case 3: return house.force[caller];
            default: return BAD;
        }
    }

    public int man(int man, int what) {
        House house = told();
        if (!house.hasMan(man)) {
            return BAD;
        }
        switch (what) {
            case 0: return house.rank[man];
            case 1: return house.from[man];
            case 2: return house.until[man];
            default: return BAD;
        }
    }

    public int card(int day, int caller) {
        return addCard(day, caller);
    }

    public int back() {
        if (cards.size == 0) {
            return NOT;
        }
        settled = false;
        return cards.dropLast();
    }

    public int read(int s) {
        if (!isSheet(s)) {
            return BAD;
        }
        Sheet from = sheets[s];
        if (from.isLost()) {
            return found(NULL);
        }
        int came = 0;
        while (2 * came + 1 < from.size
                && addCard(from.items[2 * came], from.items[2 * came + 1]) > 0) {
            came++;
        }
        return came;
    }

    // ---- days

    public int stands(int day, int caller) {
        House house = told();
        return isDay(day) && house.hasCaller(caller) ? house.standing(caller, day) : BAD;
    }

    public int name(int caller) {
        House house = told();
        return house.hasCaller(caller) ? house.named[caller] : BAD;
    }

    public int door(int day, int what) {
        if (!isDay(day)) {
            return BAD;
        }
        House house = told();
        switch (what) {
            case 0: return house.manAt(day);
            case 1: return house.hatsOn(day);
            case 2: return house.stepOn(day);
            default: return BAD;
        }
    }

    public int warmth(int day) {
        return isDay(day) ? told().warmthOn(day) : LEAST;
    }

    public int coldest() {
        House house = told();
        int best = 0;
        int least = house.warmthOn(0);
        for (int day = 1; day < DAYS; day++) {
            int warmth = house.warmthOn(day);
            if (warmth < least) {
                best = day;
                least = warmth;
            }
        }
        return best;
    }

    public int first(int what) {
        if (!within(what, 0, 1)) {
            return BAD;
        }
        House house = told();
        int who = house.firstByDoor();
        return what == 1 || who == NONE ? who : house.cameIn[who];
    }

    public int sent() {
        return told().sentBits();
    }

    public int wrong() {
        return told().misnamed();
    }

    public int sum() {
        return told().total();
    }

    // ---- plans

    public int leave(int day, int what) {
        if (!isDay(day) || !within(what, 0, 1)) {
            return LEAST;
        }
        House house = told();
        int best = NONE;
        int most = LEAST;
        for (int c = 0; c < house.callers; c++) {
            trial.become(house);
            trial.invite(day, c);
            trial.live();
            int total = trial.total();
            if (best == NONE || total > most) {
                best = c;
                most = total;
            }
        }
        if (best == NONE) {
            return LEAST + 1;
        }
        return what == 0 ? best : most;
    }

    public int begin(int man, int what) {
        House house = told();
        if (!house.hasMan(man) || !within(what, 0, 1)) {
            return BAD;
        }
        trial.become(house);
        int best = NONE;
        int most = NONE;
        for (int day = 0; day < DAYS; day++) {
            trial.from[man] = day;
            trial.live();
            int in = Integer.bitCount(trial.everIn());
            if (in > most) {
                best = day;
                most = in;
            }
        }
        return what == 0 ? best : most;
    }

    public int patience(int caller) {
        House house = told();
        if (!house.hasCaller(caller)) {
            return BAD;
        }
        trial.become(house);
        for (int waits = 1; waits <= MOST_PATIENCE; waits++) {
            trial.waits[caller] = waits;
            trial.live();
            if (trial.cameIn[caller] != NONE) {
                return waits;
            }
        }
        return NONE;
    }

    public int burn(int i) {
        if (!within(i, NONE, 1)) {
            return BAD;
        }
        int burnt = cardsToBurn(told());
        if (burnt == NONE) {
            return NONE;
        }
        return i == NONE ? Integer.bitCount(burnt) : placeOfBit(burnt, i);
    }

    // ---- felt, chance, years

    public int feel(int day, int warmth) {
        if (!isDay(day) || !within(warmth, -MOST_WARMTH, MOST_WARMTH)) {
            return BAD;
        }
        return felt.size < MOST_FELT ? felt.append(day, warmth) : FULL;
    }

    public int forget() {
        return felt.clear();
    }

    public int never() {
        trial.become(told());
        int bits = 0;
        for (int i = 0; i < cards.size; i++) {
            cards.inviteAllBut(1 << i, trial);
            trial.live();
            if (felt.fits(trial)) {
                bits |= 1 << i;
            }
        }
        return bits;
    }

    public int was(int caller, int what) {
        House house = told();
        if (!house.hasCaller(caller) || !within(what, 0, 1)) {
            return BAD;
        }
        trial.become(house);
        return what == 0 ? sortsThatFit(caller) : waitsThatFit(caller);
    }

    public int ask(int caller) {
        House house = told();
        if (!house.hasCaller(caller)) {
            return BAD;
        }
        trial.become(house);
        int rows = odds.keepFitting(trial, felt, caller);
        int best = 0;
        int least = odds.greatestAlike(rows, 0);
        for (int day = 1; day < DAYS; day++) {
            int greatest = odds.greatestAlike(rows, day);
            if (greatest < least) {
                best = day;
                least = greatest;
            }
        }
        return best;
    }

    public long chance(int c, int caller, int what) {
        House house = told();
        if (!within(c, 0, SIXTEENTHS) || !house.hasCaller(caller) || !within(what, 0, 1)) {
            return LEAST_LONG - BAD;
        }
        if (!odds.counted) {
            trial.become(house);
            odds.countWays(trial, cards);
        }
        long above = odds.above(c, caller, cards.size);
        long below = 1L << (4 * cards.size);
        // The only prime below the line is 2; and a nought above goes down to 0 by 1.
        for (int i = 0; i < 4 * cards.size && above % 2 == 0; i++) {
            above /= 2;
            below /= 2;
        }
        return what == 0 ? above : below;
    }

    public int years(int seed, int n, int what) {
        if (!within(n, 0, MOST_CARDS) || !within(what, 0, 1)) {
            return LEAST;
        }
        trial.become(told());
        trial.uninviteAll();
        if (trial.callers > 0) {
            inviteByLots(seed, n);
        }
        trial.live();
        return what == 0 ? Integer.bitCount(trial.everIn()) : trial.total();
    }

    // ---- sheets

    public int sheet(int s, int form, int n) {
        if (!isSheet(s) || !isForm(form) || n > MOST_ITEMS) {
            return BAD;
        }
        if (n < 0) {
            return found(SIZE);
        }
        sheets[s].renew(form, n);
        return n;
    }

    public int lose(int s) {
        if (!isSheet(s)) {
            return BAD;
        }
        if (sheets[s].isLost()) {
            return found(NULL);
        }
        return sheets[s].beLost();
    }

    public int put(int s, int form, int i, int v) {
        if (!isSheet(s) || !isForm(form)) {
            return BAD;
        }
        int hindrance = sheets[s].hindrance(form, i);
        if (hindrance != 0) {
            return found(hindrance);
        }
        sheets[s].store(i, v);
        return 1;
    }

    public int get(int s, int form, int i) {
        if (!isSheet(s) || !isForm(form)) {
            return LEAST;
        }
        int hindrance = sheets[s].hindrance(form, i);
        if (hindrance != 0) {
            finding = hindrance;
            return LEAST;
        }
        return sheets[s].items[i];
    }

    public int copy(int s, int i, int t, int j, int n) {
        if (!isSheet(s) || !isSheet(t)) {
            return BAD;
        }
        Sheet from = sheets[s];
        Sheet to = sheets[t];
        if (from.isLost() || to.isLost()) {
            return found(NULL);
        }
        if (from.form != to.form) {
            return found(STORE);
        }
        if (!from.hasRun(i, n) || !to.hasRun(j, n)) {
            return found(INDEX);
        }
        System.arraycopy(from.items, i, to.items, j, n);
        return 1;
    }

    public int write(int s) {
        if (!isSheet(s)) {
            return BAD;
        }
        Sheet to = sheets[s];
        if (to.isLost()) {
            return found(NULL);
        }
        House house = told();
        int n = Math.min(to.size, DAYS);
        for (int day = 0; day < n; day++) {
            to.store(day, house.warmthOn(day));
        }
        return n;
    }

    public int count(int what) {
        switch (what) {
            case 0: return told().callers;
            case 1: return told().men;
            case 2: return texts[CALLERS_TEXT].size;
            case 3: return texts[MEN_TEXT].size;
            case 4: return cards.size;
            case 5: return Integer.bitCount(told().everIn());
            case 6: return Integer.bitCount(told().sentBits());
            case 7: return felt.size;
            case 8: return finding;
            default: return BAD;
        }
    }

    public long digest() {
        long h = 17;
        for (int what = 0; what <= 7; what++) {
            h = 31 * h + count(what);
        }
        h = 31 * h + fault(CALLERS_TEXT);
        h = 31 * h + fault(MEN_TEXT);
        h = digestMen(h);
        h = digestCallers(h);
        h = digestDays(h);
        h = 31 * h + coldest();
        h = 31 * h + first(0);
        h = 31 * h + first(1);
        h = 31 * h + sent();
        h = 31 * h + wrong();
        h = 31 * h + sum();
        h = 31 * h + leave(8, 0);
        h = 31 * h + leave(8, 1);
        h = 31 * h + burn(NONE);
        h = 31 * h + burn(0);
        h = 31 * h + never();
        h = 31 * h + years(7, 6, 0);
        return 31 * h + years(7, 6, 1);
    }

    private long digestMen(long before) {
        long h = before;
        int men = told().men;
        for (int man = 0; man < men; man++) {
            for (int what = 0; what <= 2; what++) {
                h = 31 * h + man(man, what);
            }
            h = 31 * h + begin(man, 0);
            h = 31 * h + begin(man, 1);
        }
        return h;
    }

    private long digestCallers(long before) {
        long h = before;
        int callers = told().callers;
        for (int c = 0; c < callers; c++) {
            for (int what = 0; what <= 3; what++) {
                h = 31 * h + caller(c, what);
            }
            h = 31 * h + stands(6, c);
            h = 31 * h + stands(14, c);
            h = 31 * h + stands(23, c);
            h = 31 * h + name(c);
            h = 31 * h + patience(c);
            h = 31 * h + was(c, 0);
            h = 31 * h + was(c, 1);
            h = 31 * h + ask(c);
            h = 31 * h + chance(5, c, 0);
            h = 31 * h + chance(5, c, 1);
        }
        return h;
    }

    private long digestDays(long before) {
        long h = before;
        for (int day = 0; day < DAYS; day++) {
            for (int what = 0; what <= 2; what++) {
                h = 31 * h + door(day, what);
            }
            h = 31 * h + warmth(day);
        }
        return h;
    }

    // ---- what the calls share

    private static boolean within(int x, int low, int high) {
        return x >= low && x <= high;
    }

    private static boolean isText(int text) {
        return within(text, CALLERS_TEXT, MEN_TEXT);
    }

    private static boolean isDay(int day) {
        return within(day, 0, LAST_DAY);
    }

    private static boolean isSheet(int s) {
        return within(s, 0, SHEETS - 1);
    }

    private static boolean isForm(int form) {
        return within(form, BYTES, INTS);
    }

    /** The place of the i-th bit that is set, from the lowest on; NONE. */
    private static int placeOfBit(int bits, int i) {
        int ahead = 0;
        for (int place = 0; place < MOST_CARDS; place++) {
            if ((bits >> place & 1) != 0) {
                if (ahead == i) {
                    return place;
                }
                ahead++;
            }
        }
        return NONE;
    }

    private int found(int number) {
        finding = number;
        return -10 - number;
    }

    private int addCard(int day, int caller) {
        if (!isDay(day) || !within(caller, 0, MOST_CALLERS - 1)) {
            return BAD;
        }
        if (cards.size >= MOST_CARDS) {
            return FULL;
        }
        settled = false;
        return cards.append(day, caller);
    }

    /** The house of the texts and cards as they stand; worked out once for each change of them. */
    private House told() {
        if (!settled) {
            Text callers = texts[CALLERS_TEXT];
            Text men = texts[MEN_TEXT];
            home.takeCallers(callers, callers.itemCount());
            home.takeMen(men, men.itemCount());
            cards.inviteAllBut(0, home);
            home.live();
            odds.counted = false;
            settled = true;
        }
        return home;
    }

    private boolean noFrostWithout(int burnt) {
        cards.inviteAllBut(burnt, trial);
        trial.live();
        return !trial.hasNamed(FROST);
    }

    /** The cards that had better be burnt, as bits; NONE, where two are too few. */
    private int cardsToBurn(House house) {
        trial.become(house);
        if (noFrostWithout(0)) {
            return 0;
        }
        for (int i = 0; i < cards.size; i++) {
            if (noFrostWithout(1 << i)) {
                return 1 << i;
            }
        }
        for (int i = 0; i < cards.size; i++) {
            for (int j = i + 1; j < cards.size; j++) {
                if (noFrostWithout(1 << i | 1 << j)) {
                    return 1 << i | 1 << j;
                }
            }
        }
        return NONE;
    }

    private int sortsThatFit(int caller) {
        int bits = 0;
        for (int sort = 0; sort < SORTS; sort++) {
            trial.sort[caller] = sort;
            trial.live();
            if (felt.fits(trial)) {
                bits |= 1 << sort;
            }
        }
        return bits;
    }

    private int waitsThatFit(int caller) {
        int bits = 0;
        for (int waits = 1; waits <= MOST_PATIENCE; waits++) {
            trial.waits[caller] = waits;
            trial.live();
            if (felt.fits(trial)) {
                bits |= 1 << waits;
            }
        }
        return bits;
    }

    private void inviteByLots(int seed, int n) {
        int lots = seed;
        for (int i = 0; i < n && trial.callers > 0; i++) {
            lots = nextSeed(lots);
            int day = upperBits(lots) % DAYS;
            lots = nextSeed(lots);
            trial.invite(day, upperBits(lots) % trial.callers);
        }
    }

    private static int nextSeed(int seed) {
        return 1103515245 * seed + 12345;
    }

    private static int upperBits(int seed) {
        return seed >>> 16;
    }

    /** A text of items that have all as many signs, with ; between them. */
    private static final class Text {
        final int[] signs;
        final int most;
        final int[] bytes;
        int size;

        Text(int[] signs, int most) {
            this.signs = signs;
            this.most = most;
            bytes = new int[most * (signs.length + 1) - 1];
            size = 0;
        }

        boolean hasRoom() {
            return size < bytes.length;
        }

        int append(int b) {
            if (hasRoom()) {
                bytes[size] = b;
                size++;
            }
            return size;
        }

        int clear() {
            int had = size;
            size = 0;
            return had;
        }

        int dropLast() {
            if (size > 0) {
                size--;
            }
            return size;
        }

        int firstFault() {
            int width = signs.length + 1;
            for (int at = 0; at < size; at++) {
                int place = at % width;
                boolean goesOn = place == signs.length
                        ? bytes[at] == ';'
                        : at / width < most && meaning(signs[place], bytes[at]) != NONE;
                if (!goesOn) {
                    return at;
                }
            }
            return size == 0 || size % width == signs.length ? NONE : size;
        }

        /** How many items it has: none, if it has a fault. */
        int itemCount() {
            return firstFault() == NONE ? (size + 1) / (signs.length + 1) : 0;
        }

        int value(int item, int place) {
            int at = item * (signs.length + 1) + place;
            return at >= 0 && at < size && within(place, 0, signs.length - 1)
                    ? meaning(signs[place], bytes[at]) : NONE;
        }

        private static int meaning(int sign, int b) {
            switch (sign) {
                case SORT_SIGN:
                    return b == 'r' ? RAIN : b == 'f' ? FROST : b == 'g' ? GALE : b == 's' ? SUNSHINE : NONE;
                case RANK_SIGN: return b == 'b' ? 0 : b == 'j' ? 1 : NONE;
                case FIGURE: return b >= '1' && b <= '9' ? b - '0' : NONE;
                case DAY_SIGN: return b >= 'a' && b <= 'x' ? b - 'a' : NONE;
                default: return NONE;
            }
        }
    }

    /** The cards that were left, in their order. */
    private static final class Cards {
        final int[] day = new int[MOST_CARDS];
        final int[] caller = new int[MOST_CARDS];
        int size;

        int append(int onDay, int forCaller) {
            if (size < MOST_CARDS) {
                day[size] = onDay;
                caller[size] = forCaller;
                size++;
            }
            return size;
        }

        int dropLast() {
            if (size > 0) {
                size--;
            }
            return size;
        }

        void inviteAllBut(int burnt, House house) {
            house.uninviteAll();
            for (int i = 0; i < size; i++) {
                if ((burnt >> i & 1) == 0) {
                    house.invite(day[i], caller[i]);
                }
            }
        }
    }

    /** What was felt of days. */
    private static final class Felt {
        final int[] day = new int[MOST_FELT];
        final int[] warmth = new int[MOST_FELT];
        int size;

        int append(int ofDay, int soMuch) {
            if (size < MOST_FELT) {
                day[size] = ofDay;
                warmth[size] = soMuch;
                size++;
            }
            return size;
        }

        int clear() {
            int had = size;
            size = 0;
            return had;
        }

        boolean fits(House house) {
            for (int i = 0; i < size; i++) {
                if (house.warmthOn(day[i]) != warmth[i]) {
                    return false;
                }
            }
            return true;
        }
    }

    /**
     * Callers, men and invitations, and what comes of them when the days are lived: all that is
     * asked of a day follows from the days on which each caller came in or was sent on.
     */
    private static final class House {
        int callers;
        final int[] sort = new int[MOST_CALLERS];
        final int[] waits = new int[MOST_CALLERS];
        final int[] calls = new int[MOST_CALLERS];
        final int[] force = new int[MOST_CALLERS];
        /** The first day of a card for each; DAYS, where there is none. */
        final int[] invited = new int[MOST_CALLERS];

        int men;
        final int[] rank = new int[MOST_MEN];
        final int[] from = new int[MOST_MEN];
        final int[] until = new int[MOST_MEN];

        final int[] coming = new int[DAYS];
        final int[] cameIn = new int[MOST_CALLERS];
        final int[] sentOn = new int[MOST_CALLERS];
        final int[] named = new int[MOST_CALLERS];

        boolean hasCaller(int c) {
            return within(c, 0, callers - 1);
        }

        boolean hasMan(int m) {
            return within(m, 0, men - 1);
        }

        void takeCallers(Text text, int items) {
            callers = Math.min(items, MOST_CALLERS);
            for (int c = 0; c < callers; c++) {
                sort[c] = text.value(c, 0);
                waits[c] = text.value(c, 1);
                calls[c] = text.value(c, 2);
                force[c] = text.value(c, 3);
            }
        }

        void takeMen(Text text, int items) {
            men = Math.min(items, MOST_MEN);
            for (int m = 0; m < men; m++) {
                rank[m] = text.value(m, 0);
                from[m] = text.value(m, 1);
                until[m] = text.value(m, 2);
            }
        }

        /** Takes over what the other was told, not what came of it. */
        void become(House other) {
            callers = other.callers;
            men = other.men;
            for (int c = 0; c < callers; c++) {
                sort[c] = other.sort[c];
                waits[c] = other.waits[c];
                calls[c] = other.calls[c];
                force[c] = other.force[c];
                invited[c] = other.invited[c];
            }
            for (int m = 0; m < men; m++) {
                rank[m] = other.rank[m];
                from[m] = other.from[m];
                until[m] = other.until[m];
            }
        }

        void uninviteAll() {
            for (int c = 0; c < MOST_CALLERS; c++) {
                invited[c] = DAYS;
            }
        }

        void invite(int day, int c) {
            if (within(c, 0, MOST_CALLERS - 1)) {
                invited[c] = Math.min(invited[c], day);
            }
        }

        void live() {
            gather();
            int step = 0;
            for (int day = 0; day < DAYS; day++) {
                step |= receive(coming[day], day);
                if (step != 0) {
                    step = openDoor(step, day);
                    step = sendWeary(step, day);
                }
            }
        }

        private void gather() {
            for (int day = 0; day < DAYS; day++) {
                coming[day] = 0;
            }
            for (int c = 0; c < callers; c++) {
                cameIn[c] = NONE;
                sentOn[c] = NONE;
                named[c] = NONE;
                if (calls[c] >= 0 && calls[c] < DAYS) {
                    coming[calls[c]] |= 1 << c;
                }
            }
        }

        /** Those that come to the step; gales go in by the back. */
        private int receive(int bits, int day) {
            int step = bits;
            for (int c = 0; c < callers && bits != 0; c++) {
                if ((bits >> c & 1) != 0 && sort[c] == GALE) {
                    letIn(c, day, GALE);
                    step &= ~(1 << c);
                }
            }
            return step;
        }

        private int openDoor(int step, int day) {
            int man = manAt(day);
            if (man == NONE) {
                return step;
            }
            boolean butler = rank[man] == BUTLER;
            int left = butler ? sendSunshines(step, day) : step;
            int who = longestInvited(left, day);
            if (who == NONE) {
                return left;
            }
            letIn(who, day, butler ? sort[who] : (sort[who] + 1) % SORTS);
            return left & ~(1 << who);
        }

        private int sendSunshines(int step, int day) {
            int left = step;
            for (int c = 0; c < callers; c++) {
                if ((step >> c & 1) != 0 && sort[c] == SUNSHINE) {
                    sentOn[c] = day;
                    left &= ~(1 << c);
                }
            }
            return left;
        }

        private int longestInvited(int step, int day) {
            int who = NONE;
            for (int c = 0; c < callers; c++) {
                if ((step >> c & 1) != 0 && invited[c] <= day
                        && (who == NONE || calls[c] < calls[who])) {
                    who = c;
                }
            }
            return who;
        }

        private void letIn(int c, int day, int asSort) {
            cameIn[c] = day;
            named[c] = asSort;
        }

        private int sendWeary(int step, int day) {
            int left = step;
            for (int c = 0; c < callers; c++) {
                if ((step >> c & 1) != 0 && day - calls[c] + 1 >= waits[c]) {
                    sentOn[c] = day;
                    left &= ~(1 << c);
                }
            }
            return left;
        }

        int manAt(int day) {
            for (int m = 0; m < men; m++) {
                if (from[m] <= day && day <= until[m]) {
                    return m;
                }
            }
            return NONE;
        }

        boolean isIn(int c, int day) {
            return cameIn[c] != NONE && cameIn[c] <= day && day < cameIn[c] + force[c];
        }

        int standing(int c, int day) {
            if (day < calls[c]) {
                return NOT_COME;
            }
            if (cameIn[c] != NONE && day >= cameIn[c]) {
                return isIn(c, day) ? IN : OVER;
            }
            return sentOn[c] != NONE && day >= sentOn[c] ? SENT_ON : ON_STEP;
        }

        int warmthOn(int day) {
            int warmth = 0;
            for (int c = 0; c < callers; c++) {
                if (isIn(c, day)) {
                    warmth += warmer(c);
                }
            }
            return warmth;
        }

        private int warmer(int c) {
            return named[c] >= 0 && named[c] < WARMER.length ? WARMER[named[c]] : 0;
        }

        int hatsOn(int day) {
            int hats = 0;
            for (int c = 0; c < callers; c++) {
                if (isIn(c, day) && sort[c] != GALE) {
                    hats++;
                }
            }
            return hats;
        }

        int stepOn(int day) {
            int bits = 0;
            for (int c = 0; c < callers; c++) {
                if (standing(c, day) == ON_STEP) {
                    bits |= 1 << c;
                }
            }
            return bits;
        }

        int total() {
            int total = 0;
            for (int c = 0; c < callers; c++) {
                if (cameIn[c] != NONE) {
                    total += warmer(c) * Math.min(force[c], DAYS - cameIn[c]);
                }
            }
            return total;
        }

        int everIn() {
            return thoseWithADay(cameIn);
        }

        int sentBits() {
            return thoseWithADay(sentOn);
        }

        private int thoseWithADay(int[] days) {
            int bits = 0;
            for (int c = 0; c < callers && c < days.length; c++) {
                if (days[c] != NONE) {
                    bits |= 1 << c;
                }
            }
            return bits;
        }

        int misnamed() {
            int bits = 0;
            for (int c = 0; c < callers; c++) {
                if (named[c] != NONE && named[c] != sort[c]) {
                    bits |= 1 << c;
                }
            }
            return bits;
        }

        boolean hasNamed(int asSort) {
            for (int c = 0; c < callers; c++) {
                if (named[c] == asSort) {
                    return true;
                }
            }
            return false;
        }

        /** Who was let in by the door on the earliest day: one man lets in one a day. */
        int firstByDoor() {
            int who = NONE;
            for (int c = 0; c < callers; c++) {
                if (cameIn[c] != NONE && sort[c] != GALE
                        && (who == NONE || cameIn[c] < cameIn[who])) {
                    who = c;
                }
            }
            return who;
        }
    }

    /** Tables over many trials: kept, since a new one for each call would fill the room. */
    private static final class Odds {
        /** Of a caller and a number of cards: by how many choices of so many it is ever in. */
        final int[][] ways = new int[MOST_CALLERS][MOST_CARDS + 1];
        boolean counted;
        /** Of each patience that fits what was felt: the warmth of the days. */
        final int[][] warmth = new int[MOST_PATIENCE][DAYS];

        void countWays(House house, Cards cards) {
            for (int c = 0; c < MOST_CALLERS; c++) {
                for (int k = 0; k <= MOST_CARDS; k++) {
                    ways[c][k] = 0;
                }
            }
            for (int burnt = 0; burnt < 1 << cards.size; burnt++) {
                cards.inviteAllBut(burnt, house);
                house.live();
                int k = cards.size - Integer.bitCount(burnt);
                for (int c = 0; c < house.callers; c++) {
                    if (house.cameIn[c] != NONE && within(k, 0, MOST_CARDS)) {
                        ways[c][k]++;
                    }
                }
            }
            counted = true;
        }

        /** The chance times 16 to the power of all the cards. */
        long above(int c, int caller, int cardCount) {
            long above = 0;
            for (int k = 0; k <= cardCount && k <= MOST_CARDS; k++) {
                above += ways[caller][k] * power(c, k) * power(SIXTEENTHS - c, cardCount - k);
            }
            return above;
        }

        private static long power(int base, int n) {
            long product = 1;
            for (int i = 0; i < n; i++) {
                product *= base;
            }
            return product;
        }

        int keepFitting(House house, Felt felt, int caller) {
            int rows = 0;
            for (int waits = 1; waits <= MOST_PATIENCE; waits++) {
                house.waits[caller] = waits;
                house.live();
                if (felt.fits(house) && rows < MOST_PATIENCE) {
                    for (int day = 0; day < DAYS; day++) {
                        warmth[rows][day] = house.warmthOn(day);
                    }
                    rows++;
                }
            }
            return rows;
        }

        /** The greatest number of rows that have the same warmth on a day. */
        int greatestAlike(int rows, int day) {
            int greatest = 0;
            for (int i = 0; i < rows; i++) {
                int alike = 0;
                // The first of those that are alike meets all of them from itself on.
                for (int j = i; j < rows; j++) {
                    if (warmth[i][day] == warmth[j][day]) {
                        alike++;
                    }
                }
                greatest = Math.max(greatest, alike);
            }
            return greatest;
        }
    }

    /** A row of a form; lost, where it has none. */
    private static final class Sheet {
        int form = NONE;
        int size;
        final int[] items = new int[MOST_ITEMS];

        boolean isLost() {
            return form == NONE;
        }

        void renew(int asForm, int n) {
            form = asForm;
            size = n;
            for (int i = 0; i < MOST_ITEMS; i++) {
                items[i] = 0;
            }
        }

        int beLost() {
            int had = size;
            form = NONE;
            size = 0;
            return had;
        }

        /** The number of the finding for an item that is treated as of a form; 0, if all is well. */
        int hindrance(int asForm, int i) {
            if (isLost()) {
                return NULL;
            }
            if (form != asForm) {
                return CAST;
            }
            return within(i, 0, size - 1) ? 0 : INDEX;
        }

        boolean hasRun(int i, int n) {
            // i is at most the size before it is taken from it: no int wraps.
            return n >= 0 && within(i, 0, size) && n <= size - i;
        }

        void store(int i, int v) {
            if (within(i, 0, size - 1)) {
                items[i] = form == BYTES ? (byte) v : form == SHORTS ? (short) v : v;
            }
        }
    }
}

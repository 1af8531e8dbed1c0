import java.math.BigInteger;
import java.util.ArrayList;
import java.util.Arrays;
import java.util.List;
import java.util.Random;
import java.util.TreeMap;

/** Random runs of calls, each answer against a model that lives every day anew in the plainest way. */
public final class ModelTest {
    private static int wrong = 0;
    private static long asked = 0;

    public static void main(String[] args) {
        for (int run = 0; run < 1500 && wrong < 20; run++) {
            new Run(run).go();
        }
        System.out.println(asked + " answers asked for, " + wrong + " not as due");
        if (wrong != 0) {
            System.exit(1);
        }
    }

    /** One who calls, or one man: as the text tells it. */
    record Guest(int sort, int patience, int day, int force) { }

    record Man(int rank, int from, int until) { }

    record Card(int day, int caller) { }

    record Feeling(int day, int warmth) { }

    /** What came of a year, written down at the end of each day. */
    static final class Diary {
        final int[][] state;
        final int[] warmth = new int[24];
        final int[] hats = new int[24];
        final int[] door = new int[24];
        final int[] name;
        int firstDay = -1;
        int firstWho = -1;

        Diary(List<Guest> guests, List<Man> men, List<Card> cards) {
            int n = guests.size();
            state = new int[24][n];
            name = new int[n];
            Arrays.fill(name, -1);
            int[] now = new int[n];
            int[] daysIn = new int[n];
            int[] daysOnStep = new int[n];
            boolean[] byDoor = new boolean[n];
            for (int day = 0; day < 24; day++) {
                for (int g = 0; g < n; g++) {
                    if (now[g] == 2 && daysIn[g] == guests.get(g).force()) {
                        now[g] = 3;
                    }
                }
                for (int g = 0; g < n; g++) {
                    if (guests.get(g).day() == day) {
                        boolean gale = guests.get(g).sort() == 2;
                        now[g] = gale ? 2 : 1;
                        name[g] = gale ? 2 : -1;
                    }
                }
                for (int g = 0; g < n; g++) {
                    if (now[g] == 1) {
                        daysOnStep[g]++;
                    }
                }
                door[day] = -1;
                for (int m = men.size() - 1; m >= 0; m--) {
                    if (men.get(m).from() <= day && day <= men.get(m).until()) {
                        door[day] = m;
                    }
                }
                if (door[day] >= 0) {
                    boolean butler = men.get(door[day]).rank() == 0;
                    for (int g = 0; g < n && butler; g++) {
                        if (now[g] == 1 && guests.get(g).sort() == 3) {
                            now[g] = 4;
                        }
                    }
                    int best = -1;
                    for (int g = n - 1; g >= 0; g--) {
                        final int who = g;
                        final int today = day;
                        boolean invited = cards.stream()
                                .anyMatch(c -> c.caller() == who && c.day() <= today);
                        if (now[g] == 1 && invited
                                && (best < 0 || daysOnStep[g] >= daysOnStep[best])) {
                            best = g;
                        }
                    }
                    if (best >= 0) {
                        now[best] = 2;
                        byDoor[best] = true;
                        int sort = guests.get(best).sort();
                        name[best] = butler ? sort : sort == 3 ? 0 : sort + 1;
                        if (firstDay < 0) {
                            firstDay = day;
                            firstWho = best;
                        }
                    }
                }
                for (int g = 0; g < n; g++) {
                    if (now[g] == 1 && daysOnStep[g] == guests.get(g).patience()) {
                        now[g] = 4;
                    }
                    if (now[g] == 2) {
                        daysIn[g]++;
                        warmth[day] += name[g] == 0 ? -1 : name[g] == 1 ? -3 : name[g] == 2 ? -2 : 4;
                        hats[day] += byDoor[g] ? 1 : 0;
                    }
                    state[day][g] = now[g];
                }
            }
        }

        int sum() {
            return Arrays.stream(warmth).sum();
        }

        int everIn() {
            return (int) Arrays.stream(name).filter(x -> x >= 0).count();
        }

        int bitsOf(int day, int what) {
            int bits = 0;
            for (int g = 0; g < name.length; g++) {
                bits |= state[day][g] == what ? 1 << g : 0;
            }
            return bits;
        }
    }

    static final class Row {
        final int form;
        final int[] items;

        Row(int form, int n) {
            this.form = form;
            items = new int[n];
        }

        void set(int i, int v) {
            items[i] = form == 0 ? (v << 24) >> 24 : form == 1 ? (v << 16) >> 16 : v;
        }
    }

    /** The model of an object. */
    static final class Plain {
        final StringBuilder[] texts = {new StringBuilder(), new StringBuilder()};
        final List<Card> cards = new ArrayList<>();
        final List<Feeling> felt = new ArrayList<>();
        final Row[] rows = new Row[4];
        int finding = 0;

        static final String[] ITEM = {"[rfgs][1-9][a-x][1-9]", "[bj][a-x][a-x]"};
        static final int[] MOST = {8, 4};

        boolean well(int text) {
            String s = texts[text].toString();
            return s.isEmpty() || s.matches(ITEM[text] + "(;" + ITEM[text] + "){0," + (MOST[text] - 1) + "}");
        }

        /** The longest head that some end would make well, tried with ends. */
        int fault(int text) {
            if (well(text)) {
                return -1;
            }
            String s = texts[text].toString();
            String[] ends = text == 0
                    ? new String[] {"", "r1a1", "1a1", "a1", "1"} : new String[] {"", "bax", "ax", "x"};
            int longest = 0;
            for (int n = 0; n <= s.length(); n++) {
                for (String end : ends) {
                    String tried = s.substring(0, n) + end;
                    if (tried.matches(ITEM[text] + "(;" + ITEM[text] + "){0," + (MOST[text] - 1) + "}")) {
                        longest = n;
                    }
                }
            }
            return longest;
        }

        List<Guest> guests() {
            List<Guest> list = new ArrayList<>();
            if (well(0) && texts[0].length() > 0) {
                for (String g : texts[0].toString().split(";")) {
                    list.add(new Guest("rfgs".indexOf(g.charAt(0)), g.charAt(1) - 48, g.charAt(2) - 97, g.charAt(3) - 48));
                }
            }
            return list;
        }

        List<Man> men() {
            List<Man> list = new ArrayList<>();
            if (well(1) && texts[1].length() > 0) {
                for (String m : texts[1].toString().split(";")) {
                    list.add(new Man("bj".indexOf(m.charAt(0)), m.charAt(1) - 97, m.charAt(2) - 97));
                }
            }
            return list;
        }

        Diary diary() {
            return new Diary(guests(), men(), cards);
        }

        Diary without(int bits) {
            List<Card> kept = new ArrayList<>();
            for (int i = 0; i < cards.size(); i++) {
                if ((bits >> i & 1) == 0) {
                    kept.add(cards.get(i));
                }
            }
            return new Diary(guests(), men(), kept);
        }

        Diary with(int who, int sort, int patience) {
            List<Guest> list = guests();
            Guest g = list.get(who);
            list.set(who, new Guest(sort < 0 ? g.sort() : sort, patience < 0 ? g.patience() : patience, g.day(), g.force()));
            return new Diary(list, men(), cards);
        }

        boolean fits(Diary d) {
            return felt.stream().allMatch(f -> d.warmth[f.day()] == f.warmth());
        }

        int find(int number) {
            finding = number;
            return -10 - number;
        }

        int card(int day, int caller) {
            if (day < 0 || day > 23 || caller < 0 || caller > 7) {
                return -2;
            }
            if (cards.size() == 8) {
                return -4;
            }
            cards.add(new Card(day, caller));
            return cards.size();
        }

        int read(int s) {
            if (s < 0 || s > 3) {
                return -2;
            }
            if (rows[s] == null) {
                return find(1);
            }
            int came = 0;
            int[] items = rows[s].items;
            for (int i = 0; i < items.length / 2; i++) {
                if (card(items[2 * i], items[2 * i + 1]) < 0) {
                    break;
                }
                came++;
            }
            return came;
        }

        int leave(int day, int what) {
            if (day < 0 || day > 23 || what < 0 || what > 1) {
                return Integer.MIN_VALUE;
            }
            TreeMap<Integer, Integer> byTotal = new TreeMap<>();
            for (int g = guests().size() - 1; g >= 0; g--) {
                List<Card> more = new ArrayList<>(cards);
                more.add(new Card(day, g));
                byTotal.put(new Diary(guests(), men(), more).sum(), g);
            }
            if (byTotal.isEmpty()) {
                return Integer.MIN_VALUE + 1;
            }
            return what == 0 ? byTotal.lastEntry().getValue() : byTotal.lastKey();
        }

        int begin(int man, int what) {
            if (man < 0 || man >= men().size() || what < 0 || what > 1) {
                return -2;
            }
            TreeMap<Integer, Integer> byMany = new TreeMap<>();
            for (int day = 23; day >= 0; day--) {
                List<Man> list = men();
                list.set(man, new Man(list.get(man).rank(), day, list.get(man).until()));
                byMany.put(new Diary(guests(), list, cards).everIn(), day);
            }
            return what == 0 ? byMany.lastEntry().getValue() : byMany.lastKey();
        }

        int patience(int c) {
            if (c < 0 || c >= guests().size()) {
                return -2;
            }
            for (int p = 1; p <= 9; p++) {
                if (with(c, -1, p).name[c] >= 0) {
                    return p;
                }
            }
            return -1;
        }

        int burn(int i) {
            if (i < -1 || i > 1) {
                return -2;
            }
            List<int[]> rowsToBurn = new ArrayList<>();
            rowsToBurn.add(new int[0]);
            for (int a = 0; a < cards.size(); a++) {
                rowsToBurn.add(new int[] {a});
            }
            for (int a = 0; a < cards.size(); a++) {
                for (int b = a + 1; b < cards.size(); b++) {
                    rowsToBurn.add(new int[] {a, b});
                }
            }
            for (int[] row : rowsToBurn) {
                int bits = Arrays.stream(row).map(x -> 1 << x).sum();
                if (Arrays.stream(without(bits).name).noneMatch(x -> x == 1)) {
                    return i < 0 ? row.length : i < row.length ? row[i] : -1;
                }
            }
            return -1;
        }

        int never() {
            int bits = 0;
            for (int i = 0; i < cards.size(); i++) {
                bits |= fits(without(1 << i)) ? 1 << i : 0;
            }
            return bits;
        }

        int was(int c, int what) {
            if (c < 0 || c >= guests().size() || what < 0 || what > 1) {
                return -2;
            }
            int bits = 0;
            for (int x = what; x <= (what == 0 ? 3 : 9); x++) {
                bits |= fits(what == 0 ? with(c, x, -1) : with(c, -1, x)) ? 1 << x : 0;
            }
            return bits;
        }

        int ask(int c) {
            if (c < 0 || c >= guests().size()) {
                return -2;
            }
            List<Diary> fitting = new ArrayList<>();
            for (int p = 1; p <= 9; p++) {
                Diary d = with(c, -1, p);
                if (fits(d)) {
                    fitting.add(d);
                }
            }
            int bestDay = -1;
            int least = 99;
            for (int day = 0; day < 24; day++) {
                TreeMap<Integer, Integer> heaps = new TreeMap<>();
                for (Diary d : fitting) {
                    heaps.merge(d.warmth[day], 1, Integer::sum);
                }
                int greatest = heaps.values().stream().mapToInt(x -> x).max().orElse(0);
                if (greatest < least) {
                    least = greatest;
                    bestDay = day;
                }
            }
            return bestDay;
        }

        long chance(int c, int who, int what) {
            if (c < 0 || c > 16 || who < 0 || who >= guests().size() || what < 0 || what > 1) {
                return Long.MIN_VALUE + 2;
            }
            BigInteger above = BigInteger.ZERO;
            int n = cards.size();
            for (int gone = 0; gone < 1 << n; gone++) {
                if (without(gone).name[who] >= 0) {
                    int k = Integer.bitCount(gone);
                    above = above.add(BigInteger.valueOf(c).pow(n - k).multiply(BigInteger.valueOf(16 - c).pow(k)));
                }
            }
            BigInteger below = BigInteger.valueOf(16).pow(n);
            BigInteger common = above.gcd(below);
            return (what == 0 ? above : below).divide(common).longValueExact();
        }

        int years(int seed, int n, int what) {
            if (n < 0 || n > 8 || what < 0 || what > 1) {
                return Integer.MIN_VALUE;
            }
            List<Card> drawn = new ArrayList<>();
            long lots = seed & 0xffffffffL;
            for (int i = 0; i < n && !guests().isEmpty(); i++) {
                lots = (lots * 1103515245L + 12345L) & 0xffffffffL;
                int day = (int) ((lots / 65536) % 24);
                lots = (lots * 1103515245L + 12345L) & 0xffffffffL;
                drawn.add(new Card(day, (int) ((lots / 65536) % guests().size())));
            }
            Diary d = new Diary(guests(), men(), drawn);
            return what == 0 ? d.everIn() : d.sum();
        }

        int count(int what) {
            Diary d = diary();
            int[] counts = {guests().size(), men().size(), texts[0].length(), texts[1].length(), cards.size(),
                d.everIn(), Integer.bitCount(d.bitsOf(23, 4)), felt.size(), finding};
            return what < 0 || what > 8 ? -2 : counts[what];
        }

        int wrongNames() {
            Diary d = diary();
            int bits = 0;
            for (int g = 0; g < d.name.length; g++) {
                bits |= d.name[g] >= 0 && d.name[g] != guests().get(g).sort() ? 1 << g : 0;
            }
            return bits;
        }

        int coldest() {
            Diary d = diary();
            int least = Arrays.stream(d.warmth).min().orElse(0);
            for (int day = 0; day < 24; day++) {
                if (d.warmth[day] == least) {
                    return day;
                }
            }
            return -1;
        }

        long digest() {
            List<Long> all = new ArrayList<>();
            Diary d = diary();
            for (int i = 0; i <= 7; i++) {
                all.add((long) count(i));
            }
            all.add((long) fault(0));
            all.add((long) fault(1));
            for (int m = 0; m < men().size(); m++) {
                Man x = men().get(m);
                for (int v : new int[] {x.rank(), x.from(), x.until(), begin(m, 0), begin(m, 1)}) {
                    all.add((long) v);
                }
            }
            for (int g = 0; g < guests().size(); g++) {
                Guest x = guests().get(g);
                for (int v : new int[] {x.sort(), x.patience(), x.day(), x.force(), d.state[6][g], d.state[14][g],
                    d.state[23][g], d.name[g], patience(g), was(g, 0), was(g, 1), ask(g)}) {
                    all.add((long) v);
                }
                all.add(chance(5, g, 0));
                all.add(chance(5, g, 1));
            }
            for (int day = 0; day < 24; day++) {
                for (int v : new int[] {d.door[day], d.hats[day], d.bitsOf(day, 1), d.warmth[day]}) {
                    all.add((long) v);
                }
            }
            for (int v : new int[] {coldest(), d.firstDay, d.firstWho, d.bitsOf(23, 4), wrongNames(), d.sum(),
                leave(8, 0), leave(8, 1), burn(-1), burn(0), never(), years(7, 6, 0), years(7, 6, 1)}) {
                all.add((long) v);
            }
            long h = 17;
            for (long v : all) {
                h = 31 * h + v;
            }
            return h;
        }
    }

    /** One run of calls on a new object. */
    static final class Run {
        final int number;
        final Random lots;
        final ButlerWeather x = new ButlerWeather();
        final Plain y = new Plain();
        final int few;

        Run(int number) {
            this.number = number;
            lots = new Random(number);
            few = 1 + lots.nextInt(24);
        }

        void due(String call, long got, long want) {
            asked++;
            if (got != want) {
                wrong++;
                System.out.println("run " + number + " (" + y.texts[0] + " / " + y.texts[1] + " / " + y.cards + "): "
                        + call + " answered " + got + ", due is " + want);
            }
        }

        int any(int high) {
            int odd = lots.nextInt(60);
            return odd == 0 ? -1 : odd == 1 ? high + 1 : odd == 2 ? lots.nextInt() : lots.nextInt(high + 1);
        }

        void type(int text, int b) {
            boolean bad = text < 0 || text > 1 || b < 0 || b > 255;
            int want = bad ? -2 : y.texts[text].length() == (text == 0 ? 39 : 15) ? -4 : 0;
            if (want == 0) {
                y.texts[text].append((char) b);
                want = y.texts[text].length();
            }
            due("type", x.type(text, b), want);
        }

        char anyDay() {
            return (char) ('a' + lots.nextInt(few));
        }

        void tell() {
            int callers = lots.nextInt(9);
            for (int g = 0; g < callers; g++) {
                String item = (g > 0 ? ";" : "") + "rfgs".charAt(lots.nextInt(4)) + (1 + lots.nextInt(9)) + anyDay()
                        + (1 + lots.nextInt(9));
                item.chars().forEach(b -> type(0, b));
            }
            int men = lots.nextInt(5);
            for (int m = 0; m < men; m++) {
                char from = anyDay();
                char until = (char) Math.min('x', lots.nextInt(5) == 0 ? anyDay() : from + lots.nextInt(8));
                String item = (m > 0 ? ";" : "") + "bj".charAt(lots.nextInt(2)) + from + until;
                item.chars().forEach(b -> type(1, b));
            }
        }

        void go() {
            tell();
            for (int i = 0; i < 150 && wrong < 20; i++) {
                int pick = lots.nextInt(100);
                if (pick < 35) {
                    change(lots.nextInt(10));
                } else if (pick < 55) {
                    askSheets(lots.nextInt(6));
                } else if (pick < 80) {
                    askDays(lots.nextInt(12));
                } else {
                    askPlans(lots.nextInt(10));
                }
            }
            if (number % 5 == 0) {
                due("digest", x.digest(), y.digest());
            }
        }

        void change(int which) {
            switch (which) {
                case 0: {
                    int text = any(1);
                    boolean bad = text < 0 || text > 1;
                    int want = bad ? -2 : y.texts[text].length() == 0 ? -3 : y.texts[text].length() - 1;
                    if (want >= 0) {
                        y.texts[text].setLength(want);
                    }
                    due("undo", x.undo(text), want);
                    break;
                }
                case 1: {
                    if (lots.nextInt(4) > 0) {
                        break;
                    }
                    int text = any(1);
                    boolean bad = text < 0 || text > 1;
                    due("wipe", x.wipe(text), bad ? -2 : y.texts[text].length());
                    if (!bad) {
                        y.texts[text].setLength(0);
                    }
                    tell();
                    break;
                }
                case 2: case 3: {
                    int text = lots.nextInt(2);
                    int at = y.texts[text].length() % (text == 0 ? 5 : 4);
                    String[] signs = text == 0 ? new String[] {"rfgs", "123456789", "abcdefghx", "123456789", ";"}
                            : new String[] {"bj", "abcdefgx", "abcdefghix", ";"};
                    String fit = signs[at];
                    type(text, lots.nextInt(12) == 0 ? any(255) : fit.charAt(lots.nextInt(fit.length())));
                    break;
                }
                case 4: case 5: case 6: {
                    int day = lots.nextInt(20) == 0 ? any(23) : lots.nextInt(few);
                    int who = any(7);
                    due("card", x.card(day, who), y.card(day, who));
                    break;
                }
                case 7: {
                    int want = y.cards.isEmpty() ? -3 : y.cards.size() - 1;
                    if (want >= 0) {
                        y.cards.remove(want);
                    }
                    due("back", x.back(), want);
                    break;
                }
                case 8: {
                    int day = any(23);
                    int warmth = lots.nextInt(20) == 0 ? lots.nextInt(100) - 50
                            : day >= 0 && day < 24 && lots.nextInt(3) > 0 ? y.diary().warmth[day] : -lots.nextInt(4);
                    boolean bad = day < 0 || day > 23 || warmth < -40 || warmth > 40;
                    int want = bad ? -2 : y.felt.size() == 8 ? -4 : y.felt.size() + 1;
                    if (want > 0) {
                        y.felt.add(new Feeling(day, warmth));
                    }
                    due("feel", x.feel(day, warmth), want);
                    break;
                }
                default: {
                    if (lots.nextInt(2) == 0) {
                        due("forget", x.forget(), y.felt.size());
                        y.felt.clear();
                    }
                }
            }
        }

        void askSheets(int which) {
            int s = any(3);
            int form = any(2);
            boolean badSheet = s < 0 || s > 3;
            boolean badForm = form < 0 || form > 2;
            switch (which) {
                case 0: {
                    int n = lots.nextInt(8) == 0 ? any(60) : lots.nextInt(30);
                    int want = badSheet || badForm || n > 60 ? -2 : n < 0 ? y.find(5) : n;
                    due("sheet", x.sheet(s, form, n), want);
                    if (want >= 0) {
                        y.rows[s] = new Row(form, n);
                    }
                    break;
                }
                case 1: {
                    if (lots.nextInt(6) == 0) {
                        int want = badSheet ? -2 : y.rows[s] == null ? y.find(1) : y.rows[s].items.length;
                        due("lose", x.lose(s), want);
                        if (want >= 0) {
                            y.rows[s] = null;
                        }
                    } else {
                        due("read", x.read(s), y.read(s));
                    }
                    break;
                }
                case 2: case 3: {
                    if (!badSheet && y.rows[s] != null && lots.nextInt(6) > 0) {
                        form = y.rows[s].form;
                        badForm = false;
                    }
                    int i = lots.nextInt(8) == 0 ? any(60) : lots.nextInt(12);
                    int v = lots.nextInt(4) == 0 ? lots.nextInt() : lots.nextInt(9);
                    int hit = badSheet || badForm ? -2 : y.rows[s] == null ? y.find(1) : y.rows[s].form != form ? y.find(3)
                            : i < 0 || i >= y.rows[s].items.length ? y.find(2) : 1;
                    if (which == 2) {
                        due("put", x.put(s, form, i, v), hit);
                        if (hit == 1) {
                            y.rows[s].set(i, v);
                        }
                    } else {
                        due("get", x.get(s, form, i), hit == 1 ? y.rows[s].items[i] : Integer.MIN_VALUE);
                    }
                    break;
                }
                case 4: {
                    int t = any(3);
                    int i = lots.nextInt(20) == 0 ? lots.nextInt() : lots.nextInt(10) - 1;
                    int j = lots.nextInt(20) == 0 ? lots.nextInt() : lots.nextInt(10) - 1;
                    int n = lots.nextInt(20) == 0 ? lots.nextInt() : lots.nextInt(10) - 1;
                    int want;
                    if (badSheet || t < 0 || t > 3) {
                        want = -2;
                    } else if (y.rows[s] == null || y.rows[t] == null) {
                        want = y.find(1);
                    } else if (y.rows[s].form != y.rows[t].form) {
                        want = y.find(4);
                    } else if (i < 0 || j < 0 || n < 0 || (long) i + n > y.rows[s].items.length
                            || (long) j + n > y.rows[t].items.length) {
                        want = y.find(2);
                    } else {
                        want = 1;
                        int[] old = y.rows[s].items.clone();
                        for (int k = 0; k < n; k++) {
                            y.rows[t].items[j + k] = old[i + k];
                        }
                    }
                    due("copy", x.copy(s, i, t, j, n), want);
                    break;
                }
                default: {
                    int want = badSheet ? -2 : y.rows[s] == null ? y.find(1) : Math.min(24, y.rows[s].items.length);
                    due("write", x.write(s), want);
                    for (int k = 0; k < want; k++) {
                        y.rows[s].set(k, y.diary().warmth[k]);
                    }
                }
            }
        }

        void askDays(int which) {
            int day = any(23);
            boolean badDay = day < 0 || day > 23;
            List<Guest> guests = y.guests();
            List<Man> men = y.men();
            int who = any(Math.max(0, guests.size() - 1));
            boolean badWho = who < 0 || who >= guests.size();
            int what = any(3);
            Diary d = y.diary();
            switch (which) {
                case 0: {
                    int text = any(1);
                    due("fault", x.fault(text), text < 0 || text > 1 ? -2 : y.fault(text));
                    break;
                }
                case 1: {
                    int want = -2;
                    if (!badWho && what >= 0 && what <= 3) {
                        Guest g = guests.get(who);
                        want = new int[] {g.sort(), g.patience(), g.day(), g.force()}[what];
                    }
                    due("caller", x.caller(who, what), want);
                    break;
                }
                case 2: {
                    int m = any(3);
                    int want = -2;
                    if (m >= 0 && m < men.size() && what >= 0 && what <= 2) {
                        want = new int[] {men.get(m).rank(), men.get(m).from(), men.get(m).until()}[what];
                    }
                    due("man", x.man(m, what), want);
                    break;
                }
                case 3: due("stands", x.stands(day, who), badDay || badWho ? -2 : d.state[day][who]); break;
                case 4: due("name", x.name(who), badWho ? -2 : d.name[who]); break;
                case 5: {
                    boolean bad = badDay || what < 0 || what > 2;
                    due("door", x.door(day, what),
                            bad ? -2 : what == 0 ? d.door[day] : what == 1 ? d.hats[day] : d.bitsOf(day, 1));
                    break;
                }
                case 6: due("warmth", x.warmth(day), badDay ? Integer.MIN_VALUE : d.warmth[day]); break;
                case 7: due("coldest", x.coldest(), y.coldest()); break;
                case 8: due("first", x.first(what), what == 0 ? d.firstDay : what == 1 ? d.firstWho : -2); break;
                case 9: due("sent", x.sent(), d.bitsOf(23, 4)); break;
                case 10: due("wrong", x.wrong(), y.wrongNames()); break;
                default: {
                    due("sum", x.sum(), d.sum());
                    int c = any(8);
                    due("count", x.count(c), y.count(c));
                }
            }
        }

        void askPlans(int which) {
            int day = any(23);
            int who = any(Math.max(0, y.guests().size() - 1));
            int what = any(1);
            switch (which) {
                case 0: due("leave", x.leave(day, what), y.leave(day, what)); break;
                case 1: {
                    int m = any(Math.max(0, y.men().size() - 1));
                    due("begin", x.begin(m, what), y.begin(m, what));
                    break;
                }
                case 2: due("patience", x.patience(who), y.patience(who)); break;
                case 3: {
                    int i = any(2) - 1;
                    due("burn", x.burn(i), y.burn(i));
                    break;
                }
                case 4: due("never", x.never(), y.never()); break;
                case 5: case 6: due("was", x.was(who, what), y.was(who, what)); break;
                case 7: due("ask", x.ask(who), y.ask(who)); break;
                case 8: {
                    int c = any(16);
                    due("chance", x.chance(c, who, what), y.chance(c, who, what));
                    break;
                }
                default: {
                    int seed = lots.nextInt();
                    int n = any(8);
                    due("years", x.years(seed, n, what), y.years(seed, n, what));
                }
            }
        }
    }
}

/** Promises 11 to 19 and the terms of days: each sentence that names an edge, by itself. */
public final class EdgesOfDaysTest {
    private static final int NOT_COME = 0, STEP = 1, IN = 2, OVER = 3, SENT = 4;

    public static void main(String[] args) {
        daysOfAllCalls();
        overByForce();
        overFirst();
        coming();
        galesAtOnce();
        menOnDuty();
        theLeastMan();
        sunshinesSent();
        onlyOneIsLetIn();
        longestOnTheStep();
        cardsByThen();
        names();
        patienceEnds();
        doorAheadOfPatience();
        oneRainByDays();
        warmthByNames();
        hats();
        stands();
        name();
        door();
        warmth();
        coldest();
        first();
        sent();
        wrong();
        sum();
        Edge.end();
    }

    private static void standsOn(ButlerWeather x, int c, int from, int until, int want) {
        for (int day = from; day <= until; day++) {
            Edge.due("stands(" + day + ", " + c + ")", x.stands(day, c), want);
        }
    }

    private static void daysOfAllCalls() {
        Edge.sentence("DAYS are 0 to 23.");
        for (int day : new int[] {0, 23}) {
            ButlerWeather x = Edge.house("g9a9", "bax");
            Edge.due("card on " + day, x.card(day, 0), 1);
            Edge.due("stands on " + day, x.stands(day, 0), day == 0 ? IN : OVER);
            Edge.due("door on " + day, x.door(day, 0), 0);
            Edge.due("warmth on " + day, x.warmth(day), day == 0 ? -2 : 0);
            Edge.due("leave on " + day, x.leave(day, 1), -18);
            Edge.due("feel on " + day, x.feel(day, 0), 1);
        }
        for (int day : Edge.outside(0, 23)) {
            Edge.refused("card", Edge::some, x -> x.card(day, 0), Edge.BAD);
            Edge.refused("stands", Edge::some, x -> x.stands(day, 0), Edge.BAD);
            Edge.refused("door", Edge::some, x -> x.door(day, 0), Edge.BAD);
            Edge.refused("warmth", Edge::some, x -> x.warmth(day), Edge.LEAST);
            Edge.refused("leave", Edge::some, x -> x.leave(day, 0), Edge.LEAST);
            Edge.refused("feel", Edge::some, x -> x.feel(day, 0), Edge.BAD);
        }
    }

    // ---- over

    private static void overByForce() {
        Edge.sentence("those that are IN are OVER, if they have been so for as many DAYS as their FORCE");
        for (int force = 1; force <= 9; force++) {
            ButlerWeather x = Edge.house("r9a" + force + ";g1c" + force, "bax", 0, 0);
            standsOn(x, 0, 0, force - 1, IN);
            standsOn(x, 0, force, 23, OVER);
            standsOn(x, 1, 2, 1 + force, IN);
            standsOn(x, 1, 2 + force, 23, OVER);
        }
        // Days are counted from the one on which it was let in, not from the one on which it came.
        ButlerWeather x = Edge.house("r9a2", "bax", 5, 0);
        standsOn(x, 0, 0, 4, STEP);
        standsOn(x, 0, 5, 6, IN);
        standsOn(x, 0, 7, 23, OVER);
        x = Edge.house("g1x1;g1w1;g1p9;g1o9", "");
        standsOn(x, 0, 23, 23, IN);
        standsOn(x, 1, 22, 22, IN);
        standsOn(x, 1, 23, 23, OVER);
        standsOn(x, 2, 15, 23, IN);
        standsOn(x, 3, 14, 22, IN);
        standsOn(x, 3, 23, 23, OVER);
    }

    private static void overFirst() {
        Edge.sentence("On a DAY first those that are IN are OVER");
        ButlerWeather x = Edge.house("r9a1;r9a1;r9a1", "bax", 0, 0, 0, 1, 0, 2);
        for (int day = 0; day < 3; day++) {
            for (int c = 0; c < 3; c++) {
                Edge.due("stands(" + day + ", " + c + ")", x.stands(day, c), c < day ? OVER : c == day ? IN : STEP);
            }
            Edge.due("one alone makes it colder on " + day, x.warmth(day), -1);
            Edge.due("one hat on " + day, x.door(day, 1), 1);
        }
        Edge.due("none is left", x.warmth(3), 0);
        Edge.due("no hat is left", x.door(3, 1), 0);
    }

    // ---- coming

    private static void coming() {
        Edge.sentence("Then CALLERS whose DAY it is come");
        for (int day = 0; day < 24; day++) {
            ButlerWeather x = Edge.house("r9" + (char) ('a' + day) + "1;g9" + (char) ('a' + day) + "9", "");
            standsOn(x, 0, 0, day - 1, NOT_COME);
            standsOn(x, 0, day, Math.min(23, day + 7), STEP);
            standsOn(x, 1, 0, day - 1, NOT_COME);
            standsOn(x, 1, day, Math.min(23, day + 8), IN);
        }
    }

    private static void galesAtOnce() {
        Edge.sentence("a gale is IN at once, by the back; others are on the STEP");
        for (String men : new String[] {"", "bax", "jax", "bbx"}) {
            ButlerWeather x = Edge.house("g1a3;g1a3;f9a3", men, 0, 2, 0, 0);
            Edge.due("no card, no man, all at once", x.stands(0, 0), IN);
            Edge.due("no card, no man, all at once", x.stands(0, 1), IN);
            Edge.due("named as what it is", x.name(0), 2);
            Edge.due("not by the door", x.door(0, 1), men.startsWith("bb") || men.isEmpty() ? 0 : 1);
            Edge.due("a frost is let in beside them, if one is there", x.stands(0, 2),
                    men.startsWith("bb") || men.isEmpty() ? STEP : IN);
            Edge.due("a gale is not sent on", x.sent() & 3, 0);
            Edge.due("a gale is not called wrong", x.wrong() & 3, 0);
        }
        ButlerWeather x = Edge.house("r1b1;f1b1;s1b1", "");
        Edge.due("others are on the step, and sent on from it", x.sent(), 7);
        x = Edge.house("r2b1;f2b1;s2b1", "");
        Edge.due("others are on the step", x.door(1, 2), 7);
    }

    // ---- the men

    private static void menOnDuty() {
        Edge.sentence("from which DAY until which one he is on duty");
        int[][] spans = {{0, 0}, {0, 23}, {23, 23}, {5, 5}, {5, 6}, {0, 22}, {1, 23}};
        for (int[] span : spans) {
            ButlerWeather x = Edge.house("", "b" + (char) ('a' + span[0]) + (char) ('a' + span[1]));
            for (int day = 0; day < 24; day++) {
                Edge.due("door(" + day + ", 0)", x.door(day, 0), span[0] <= day && day <= span[1] ? 0 : Edge.NONE);
            }
        }
        for (String never : new String[] {"bxa", "bba", "bxw"}) {
            ButlerWeather x = Edge.house("r9a9", never, 0, 0);
            for (int day = 0; day < 24; day++) {
                Edge.due("from behind until: door(" + day + ", 0)", x.door(day, 0), Edge.NONE);
            }
            Edge.due("none is let in", x.count(5), 0);
        }
    }

    private static void theLeastMan() {
        Edge.sentence("if any of MEN is on duty, the least such one is at the DOOR");
        ButlerWeather x = Edge.house("r9a9", "jef;bdg;bdd;jxx", 0, 0);
        int[] due = {-1, -1, -1, 1, 0, 0, 1, -1};
        for (int day = 0; day < 8; day++) {
            Edge.due("door(" + day + ", 0)", x.door(day, 0), due[day]);
        }
        Edge.due("door(22, 0)", x.door(22, 0), Edge.NONE);
        Edge.due("door(23, 0)", x.door(23, 0), 3);
        Edge.due("none was there ahead of day 3", x.first(0), 3);
        Edge.due("it is the butler's name", x.name(0), 0);
        Edge.due("the junior, if he is the least", Edge.house("r9a9", "jax;bax", 0, 0).name(0), 1);
        Edge.due("the butler, if he is the least", Edge.house("r9a9", "bax;jax", 0, 0).name(0), 0);
        Edge.due("a butler behind him sends none on", Edge.house("s9a9", "jax;bax", 0, 0).name(0), 0);
        x = Edge.house("r9a9", "", 0, 0);
        standsOn(x, 0, 0, 7, STEP);
        standsOn(x, 0, 8, 23, SENT);
    }

    private static void sunshinesSent() {
        Edge.sentence("if he is a butler, all sunshines on the STEP are SENT on");
        ButlerWeather x = Edge.house("s9a9;s9b9;s9c9;s9d9;r9a9", "bcc;jdx", 0, 0, 0, 1, 0, 2);
        for (int c = 0; c < 3; c++) {
            standsOn(x, c, c, 1, STEP);
            standsOn(x, c, 2, 23, SENT);
        }
        standsOn(x, 3, 3, 10, STEP);
        Edge.due("others stay", x.door(2, 2), 1 << 4);
        x = Edge.house("s9a9;f9a9", "bax", 0, 0, 0, 1);
        Edge.due("one behind it is let in on the same day", x.stands(0, 1), IN);
        Edge.due("the sunshine is not", x.name(0), Edge.NONE);
        x = Edge.house("s9a9;s9a9", "jax", 0, 0, 0, 1);
        Edge.due("a junior lets it in", x.stands(0, 0), IN);
        Edge.due("and the other one", x.stands(1, 1), IN);
        Edge.due("none is sent on", x.sent(), 0);
    }

    private static void onlyOneIsLetIn() {
        Edge.sentence("then he lets IN, of those on the STEP that have a CARD by then, the one");
        ButlerWeather x = Edge.house("r9a9;r9a9;r9a9;r9a9;r9a9;r9a9;r9a9;r9a9", "bax;bax",
                0, 0, 0, 1, 0, 2, 0, 3, 0, 4, 0, 5, 0, 6, 0, 7);
        for (int day = 0; day < 8; day++) {
            Edge.due("one more on " + day, x.door(day, 1), day + 1);
            Edge.due("the others on the step on " + day, x.door(day, 2), 255 & ~((2 << day) - 1));
        }
        Edge.due("all are ever in", x.count(5), 8);
        x = Edge.house("r9a9;f9a9", "bax");
        Edge.due("none without a card", x.count(5), 0);
    }

    private static void longestOnTheStep() {
        Edge.sentence("the one that has stood there longest, of like ones the least");
        ButlerWeather x = Edge.house("r9d9;r9c9;r9b9;r9b9;r9a9", "bdx", 0, 0, 0, 1, 0, 2, 0, 3);
        int[] order = {2, 3, 1, 0};
        for (int i = 0; i < 4; i++) {
            Edge.due("let in on " + (3 + i), x.stands(3 + i, order[i]), IN);
            Edge.due("not ahead of it", x.stands(2 + i, order[i]), STEP);
        }
        Edge.due("the one without a card is never", x.name(4), Edge.NONE);
        // Not the one whose card is the oldest, nor the one whose patience ends first.
        x = Edge.house("r1c9;r9b9", "bcc", 0, 0, 2, 1);
        Edge.due("stood there longest", x.stands(2, 1), IN);
        Edge.due("the other one goes", x.stands(2, 0), SENT);
    }

    private static void cardsByThen() {
        Edge.sentence("that have a CARD by then");
        ButlerWeather x = Edge.house("r9a9;r9b9", "bcc;bdx", 3, 0, 2, 1);
        Edge.due("on day 2 the one with a card", x.stands(2, 1), IN);
        Edge.due("on day 2 the other one waits", x.stands(2, 0), STEP);
        Edge.due("on day 3 it has one", x.stands(3, 0), IN);
    }

    private static void names() {
        Edge.sentence("a butler names it as what it is, a junior as the next sort"
                + " (a rain as a frost, this as a gale, this as a sunshine, this as a rain)");
        Edge.due("a butler's rain", Edge.house("r1a1", "bax", 0, 0).name(0), 0);
        Edge.due("a butler's frost", Edge.house("f1a1", "bax", 0, 0).name(0), 1);
        Edge.due("a butler's gale", Edge.house("g1a1", "bax", 0, 0).name(0), 2);
        Edge.due("a butler's sunshine", Edge.house("s1a1", "bax", 0, 0).name(0), Edge.NONE);
        Edge.due("a junior's rain", Edge.house("r1a1", "jax", 0, 0).name(0), 1);
        Edge.due("a junior's frost", Edge.house("f1a1", "jax", 0, 0).name(0), 2);
        Edge.due("a gale passes him by", Edge.house("g1a1", "jax", 0, 0).name(0), 2);
        Edge.due("a junior's sunshine is the first sort again", Edge.house("s1a1", "jax", 0, 0).name(0), 0);
    }

    // ---- patience

    private static void patienceEnds() {
        Edge.sentence("Then those on the STEP are SENT on that have stood there for as many DAYS as their PATIENCE"
                + " (the one on which they came is counted)");
        for (int patience = 1; patience <= 9; patience++) {
            for (int day : new int[] {0, 5, 14, 15, 22, 23}) {
                ButlerWeather x = Edge.house("f" + patience + (char) ('a' + day) + "9", "bax");
                int gone = day + patience - 1;
                standsOn(x, 0, 0, day - 1, NOT_COME);
                standsOn(x, 0, day, Math.min(23, gone - 1), STEP);
                standsOn(x, 0, gone, 23, SENT);
                Edge.due("sent", x.sent(), gone <= 23 ? 1 : 0);
            }
        }
        ButlerWeather x = Edge.house("s3a9", "");
        standsOn(x, 0, 0, 1, STEP);
        standsOn(x, 0, 2, 23, SENT);
        x = Edge.house("s3a9", "jax");
        standsOn(x, 0, 2, 23, SENT);
        Edge.due("a gale has its force, not its patience", Edge.house("g1a9", "").stands(8, 0), IN);
    }

    private static void doorAheadOfPatience() {
        Edge.sentence("Then, if any of MEN is on duty");
        for (int patience = 1; patience <= 9; patience++) {
            for (int late = 0; late <= 9; late++) {
                ButlerWeather x = Edge.house("r" + patience + "c1", "b" + (char) ('c' + late) + "x", 0, 0);
                Edge.due("patience " + patience + ", a man from " + late + " on", x.name(0),
                        late < patience ? 0 : Edge.NONE);
                Edge.due("patience " + patience + ", a man from " + late + " on", x.sent(), late < patience ? 0 : 1);
            }
        }
        ButlerWeather x = Edge.house("r1a1;r1a1", "bax", 0, 0, 0, 1);
        Edge.due("one is let in on the only day", x.stands(0, 0), IN);
        Edge.due("the other one is sent on", x.stands(0, 1), SENT);
    }

    /** One rain: the day on which it is let in is known at once from when all begins and ends. */
    private static void oneRainByDays() {
        Edge.sentence("Behind a DAY of a CALLER: 0 it has not come yet, 1 it is on the STEP, 2 IN, 3 OVER, 4 SENT on.");
        int[] edges = {0, 1, 8, 22, 23};
        for (int calls : edges) {
            for (int from : edges) {
                for (int until : edges) {
                    for (int card : edges) {
                        for (int patience : new int[] {1, 2, 9}) {
                            oneRain(calls, from, until, card, patience, 1 + (calls + card + patience) % 9);
                        }
                    }
                }
            }
        }
    }

    private static void oneRain(int calls, int from, int until, int card, int patience, int force) {
        ButlerWeather x = Edge.house("r" + patience + (char) ('a' + calls) + force,
                "b" + (char) ('a' + from) + (char) ('a' + until), card, 0);
        int gone = calls + patience - 1;
        int in = Math.max(calls, Math.max(from, card));
        boolean isLetIn = in <= until && in <= gone;
        for (int day = 0; day < 24; day++) {
            int want = day < calls ? NOT_COME
                    : isLetIn && day >= in ? day < in + force ? IN : OVER
                    : !isLetIn && day >= gone ? SENT : STEP;
            Edge.due("stands(" + day + ", 0)", x.stands(day, 0), want);
        }
    }

    // ---- warmth and hats

    private static void warmthByNames() {
        Edge.sentence("It is by 1 colder for each that is IN named a rain, by 3 for a frost, by 2 for a gale,"
                + " by 4 warmer for a sunshine");
        Edge.due("a rain", Edge.house("r1a1", "bax", 0, 0).warmth(0), -1);
        Edge.due("a frost", Edge.house("f1a1", "bax", 0, 0).warmth(0), -3);
        Edge.due("a gale", Edge.house("g1a1", "bax", 0, 0).warmth(0), -2);
        Edge.due("a rain named a frost", Edge.house("r1a1", "jax", 0, 0).warmth(0), -3);
        Edge.due("a frost named a gale", Edge.house("f1a1", "jax", 0, 0).warmth(0), -2);
        Edge.due("a sunshine named a rain", Edge.house("s1a1", "jax", 0, 0).warmth(0), -1);
        Edge.due("a sunshine that was sent on", Edge.house("s1a1", "bax", 0, 0).warmth(0), 0);
        Edge.due("one on the step", Edge.house("s9a1;f9a1;r9a1", "").warmth(0), 0);
        Edge.sentence("all together are the WARMTH of a DAY (below 0, perhaps)");
        ButlerWeather x = Edge.house("f9a9;f9a9;f9a9;f9a9;f9a9;f9a9;f9a9;f9a9", "bax",
                0, 0, 0, 1, 0, 2, 0, 3, 0, 4, 0, 5, 0, 6, 0, 7);
        for (int day = 0; day < 24; day++) {
            int many = day < 8 ? day + 1 : Math.max(0, 16 - day);
            Edge.due("frosts on " + day, x.warmth(day), -3 * many);
        }
        Edge.due("nothing", new ButlerWeather().warmth(0), 0);
    }

    private static void hats() {
        Edge.sentence("HATS are of those that are IN by the DOOR.");
        ButlerWeather x = Edge.house("r9a2;g1a9;s9b1;f1a9", "jax", 0, 0, 0, 2, 0, 1);
        int[] due = {1, 2, 0, 0};
        for (int day = 0; day < 4; day++) {
            Edge.due("hats on " + day, x.door(day, 1), due[day]);
        }
        Edge.due("gales alone", Edge.house("g1a9;g1a9", "bax", 0, 0).door(0, 1), 0);
        Edge.due("a frost named a gale has a hat", Edge.house("f1a1", "jax", 0, 0).door(0, 1), 1);
        Edge.due("those on the step have theirs on", Edge.house("r9a9;f9a9", "bax").door(0, 1), 0);
        x = Edge.house("r9a9;r9a9;r9a9;r9a9;r9a9;r9a9;r9a9;r9a9", "jax",
                0, 0, 0, 1, 0, 2, 0, 3, 0, 4, 0, 5, 0, 6, 0, 7);
        Edge.due("all eight", x.door(7, 1), 8);
        Edge.due("all eight", x.door(8, 1), 8);
        Edge.due("one less", x.door(9, 1), 7);
    }

    // ---- promises 11 to 19

    private static void stands() {
        Edge.sentence("What it is behind a DAY (0 to 4). BAD.");
        Edge.due("the first day of the first", Edge.full().stands(0, 0), STEP);
        Edge.due("the last day of the last", Edge.full().stands(23, 7), IN);
        for (int day : Edge.outside(0, 23)) {
            Edge.refusedInAll("stands(" + day + ", 0)", x -> x.stands(day, 0), Edge.BAD);
        }
        for (int c : Edge.outside(0, 7)) {
            Edge.refusedInAll("stands(0, " + c + ")", x -> x.stands(0, c), Edge.BAD);
        }
        Edge.refused("behind the last", Edge::some, x -> x.stands(0, 3), Edge.BAD);
        Edge.refused("of none", ButlerWeather::new, x -> x.stands(0, 0), Edge.BAD);
        Edge.refused("with a fault", Edge::faulty, x -> x.stands(0, 0), Edge.BAD);
    }

    private static void name() {
        Edge.sentence("Its NAME: as which sort it was let IN (0 r, 1 f, 2 g, 3 s; a gale as 2); NONE: it never is.");
        Edge.due("on the step to the end", Edge.house("r9x9", "").name(0), Edge.NONE);
        Edge.due("sent on", Edge.house("r1a9", "").name(0), Edge.NONE);
        Edge.due("let in on the last day", Edge.house("r9x9", "bax", 23, 0).name(0), 0);
        Edge.due("over long ago", Edge.house("f1a1", "baa", 0, 0).name(0), 1);
        Edge.due("the eighth", Edge.full().name(7), 2);
        Edge.due("a gale of the last day", Edge.house("g1x1", "jax").name(0), 2);
        Edge.sentence("NAME; NONE. BAD.");
        for (int c : Edge.outside(0, 7)) {
            Edge.refusedInAll("name(" + c + ")", x -> x.name(c), Edge.BAD);
        }
        Edge.refused("behind the last", Edge::some, x -> x.name(3), Edge.BAD);
        Edge.refused("of none", ButlerWeather::new, x -> x.name(0), Edge.BAD);
        Edge.refused("with a fault", Edge::faulty, x -> x.name(0), Edge.BAD);
    }

    private static void door() {
        Edge.sentence("Who is at the DOOR (what = 0; NONE), HATS (1), who is on the STEP behind it (2), as bits. BAD.");
        ButlerWeather x = Edge.house("r9a9;f9a9;r1a9;f2a9;s9a9;r9a9;f9a9;r9b9", "bab", 0, 1);
        Edge.due("who", x.door(0, 0), 0);
        Edge.due("hats", x.door(0, 1), 1);
        Edge.due("the step behind the day", x.door(0, 2), 1 + 8 + 32 + 64);
        Edge.due("the step, to the eighth", x.door(1, 2), 1 + 32 + 64 + 128);
        Edge.due("nobody", x.door(2, 0), Edge.NONE);
        Edge.due("the last alone", x.door(8, 2), 128);
        Edge.due("nobody on the step", x.door(9, 2), 0);
        Edge.due("the fourth man", Edge.house("", "baa;baa;baa;jbx").door(23, 0), 3);
        for (int what = 0; what < 3; what++) {
            int asked = what;
            for (int day : Edge.outside(0, 23)) {
                Edge.refusedInAll("door(" + day + ", " + what + ")", y -> y.door(day, asked), Edge.BAD);
            }
        }
        for (int what : Edge.outside(0, 2)) {
            Edge.refusedInAll("door(0, " + what + ")", y -> y.door(0, what), Edge.BAD);
        }
    }

    private static void warmth() {
        Edge.sentence("WARMTH. BAD: the least int.");
        Edge.due("on the first day", Edge.house("g1a1", "").warmth(0), -2);
        Edge.due("on the last day", Edge.house("g1x1", "").warmth(23), -2);
        for (int day : Edge.outside(0, 23)) {
            Edge.refusedInAll("warmth(" + day + ")", x -> x.warmth(day), Edge.LEAST);
        }
    }

    private static void coldest() {
        Edge.sentence("COLDEST: the DAY of the least WARMTH, of like ones the least.");
        Edge.due("nothing, so the least of all", new ButlerWeather().coldest(), 0);
        Edge.due("the last day alone", Edge.house("g1x9", "").coldest(), 23);
        Edge.due("the first day alone", Edge.house("g1a1", "").coldest(), 0);
        for (int day = 0; day < 24; day++) {
            Edge.due("day " + day + " alone", Edge.house("g1" + (char) ('a' + day) + "1", "").coldest(), day);
        }
        Edge.due("two like ones", Edge.house("g1m1;g1f1", "").coldest(), 5);
        Edge.due("two and one", Edge.house("g1b1;g1m1;g1m1", "").coldest(), 12);
        Edge.due("a frost and a gale", Edge.house("g1b1;f9m1", "bax", 12, 1).coldest(), 12);
        Edge.due("with a fault", Edge.house("g1x9;", "").coldest(), 0);
    }

    private static void first() {
        Edge.sentence("FIRST: the first DAY on which anybody is let IN by the DOOR; who; NONE.");
        ButlerWeather x = Edge.house("g1a1;r9b1;r9b1;f9c1", "bax", 5, 3, 5, 2);
        Edge.due("not the gale by the back", x.first(0), 5);
        Edge.due("who", x.first(1), 2);
        Edge.due("on the first day", Edge.house("r1a1", "bax", 0, 0).first(0), 0);
        Edge.due("on the last day", Edge.house("r1x1", "bax", 0, 0).first(0), 23);
        x = Edge.house("r9f1;r9f1;r9f1;r9f1;r9f1;r9f1;r9f1;r9a1", "bax", 0, 0, 0, 7);
        Edge.due("the eighth", x.first(1), 7);
        Edge.due("the eighth", x.first(0), 0);
        for (int what = 0; what < 2; what++) {
            Edge.due("gales alone", Edge.house("g1a1", "bax", 0, 0).first(what), Edge.NONE);
            Edge.due("no callers", new ButlerWeather().first(what), Edge.NONE);
            Edge.due("no card", Edge.house("r9a9", "bax").first(what), Edge.NONE);
        }
        Edge.sentence("FIRST: the DAY (what = 0), who (1); NONE. BAD.");
        for (int what : Edge.outside(0, 1)) {
            Edge.refusedInAll("first(" + what + ")", y -> y.first(what), Edge.BAD);
        }
    }

    private static void sent() {
        Edge.sentence("SENT: CALLERS that are SENT on, as bits.");
        Edge.due("no callers", new ButlerWeather().sent(), 0);
        Edge.due("all eight", Edge.house("r1a1;f1a1;s1a1;r1x1;f9p1;s2w1;r9a1;s1x9", "").sent(), 255);
        Edge.due("the eighth alone", Edge.house("g1a1;g1a1;g1a1;g1a1;g1a1;g1a1;g1a1;r1x1", "").sent(), 128);
        Edge.due("on the step to the end", Edge.house("r2x1;f9q1", "").sent(), 0);
        Edge.due("in or over", Edge.house("r1a1;g1a1", "bax", 0, 0).sent(), 0);
        Edge.due("by a butler on the last day", Edge.house("s9x1", "bxx").sent(), 1);
    }

    private static void wrong() {
        Edge.sentence("WRONG: CALLERS whose NAME is not their sort, as bits.");
        Edge.due("no callers", new ButlerWeather().wrong(), 0);
        Edge.due("those without a name are not", Edge.house("r1a1;f9x1", "jax").wrong(), 0);
        Edge.due("a butler's are not", Edge.house("r9a1;f9a1", "bax", 0, 0, 0, 1).wrong(), 0);
        Edge.due("a gale is not", Edge.house("g9a1", "jax", 0, 0).wrong(), 0);
        ButlerWeather x = Edge.house("r9a1;f9a1;s9a1;r9a1;f9a1;s9a1;r9a1;r9a1", "jax",
                0, 0, 0, 1, 0, 2, 0, 3, 0, 4, 0, 5, 0, 6, 0, 7);
        Edge.due("all eight", x.wrong(), 255);
        x = Edge.house("r9a1;f9a1;s9a1", "baa;jbx", 0, 0, 0, 1);
        Edge.due("the junior's alone", x.wrong(), 2);
    }

    private static void sum() {
        Edge.sentence("SUM: WARMTH of all DAYS together.");
        Edge.due("nothing", new ButlerWeather().sum(), 0);
        Edge.due("days beyond the last are not", Edge.house("g1x9", "").sum(), -2);
        Edge.due("the first day is", Edge.house("g1a1", "").sum(), -2);
        for (ButlerWeather x : new ButlerWeather[] {Edge.full(), Edge.some(), Edge.faulty()}) {
            int all = 0;
            for (int day = 0; day < 24; day++) {
                all += x.warmth(day);
            }
            Edge.due("all days", x.sum(), all);
        }
        Edge.due("eight frosts", Edge.house("f9a9;f9a9;f9a9;f9a9;f9a9;f9a9;f9a9;f9a9", "bax",
                0, 0, 0, 1, 0, 2, 0, 3, 0, 4, 0, 5, 0, 6, 0, 7).sum(), -3 * 9 * 8);
    }
}

/** Promises 20 to 23: each sentence that names an edge, by itself. */
public final class EdgesOfPlansTest {
    public static void main(String[] args) {
        leaveMost();
        leaveTheLeast();
        leaveWhateverRoom();
        leaveNone();
        leaveRefused();
        beginMost();
        beginTheLeast();
        beginRefused();
        waitByPatience();
        waitNone();
        waitRefused();
        burnFewest();
        burnTheLeastRow();
        burnNone();
        burnRefused();
        Edge.end();
    }

    // ---- promise 20

    private static void leaves(String call, ButlerWeather x, int day, int which, int howMuch) {
        Edge.due(call + ": which", x.leave(day, 0), which);
        Edge.due(call + ": how much", x.leave(day, 1), howMuch);
    }

    private static void leaveMost() {
        Edge.sentence("LEAVE on a DAY: the CALLER for which a CARD more (whatever room) makes SUM most");
        leaves("a rain is warmer than a frost", Edge.house("f9a1;r9a1", "bax"), 0, 1, -1);
        leaves("a frost that is over soon", Edge.house("f9a1;r9a4", "bax"), 0, 0, -3);
        leaves("by a junior a frost is warmer than a rain", Edge.house("r9a1;f9a1", "jax"), 0, 1, -2);
        leaves("the last of eight", Edge.house("f1a1;f1a1;f1a1;f1a1;f1a1;f1a1;f1a1;r1a1", "bax"), 0, 7, -1);
        // A card for the rain keeps the frost out, on the only day of a man.
        leaves("makes it warmer", Edge.house("r9a1;f9b9", "bbb", 0, 1), 0, 0, -1);
        leaves("on the last day", Edge.house("r9x9;f9x9", "bxx"), 23, 0, -1);
        leaves("of a day ahead of all", Edge.house("f9x9;r9x9", "bxx"), 0, 1, -1);
    }

    private static void leaveTheLeast() {
        Edge.sentence("makes SUM most, of like ones the least: which; how much");
        leaves("none makes a difference", Edge.house("r1a1;r1a1;r1a1", ""), 0, 0, 0);
        leaves("like ones", Edge.house("f9a1;r9a1;r9a1", "bax"), 0, 1, -1);
        leaves("one that has a card", Edge.house("f9a9;r9a1", "bax", 0, 0), 0, 0, -27);
        leaves("a day too late for all", Edge.house("r1a1;f1a1", "bax"), 1, 0, 0);
        leaves("a day too late for one", Edge.house("r1b1;f1a1", "bax"), 1, 1, 0);
    }

    private static void leaveWhateverRoom() {
        Edge.sentence("for which a CARD more (whatever room)");
        ButlerWeather x = Edge.house("f9a1;r9a1", "bax", 23, 7, 23, 7, 23, 7, 23, 7, 23, 7, 23, 7, 23, 7, 23, 7);
        leaves("full of cards", x, 0, 1, -1);
        Edge.due("none came", x.count(4), 8);
        Edge.due("no room still", x.card(0, 0), Edge.FULL);
        Edge.due("sum is as it was", x.sum(), 0);
    }

    private static void leaveNone() {
        for (int day : new int[] {0, 23}) {
            for (int what = 0; what < 2; what++) {
                int asked = what;
                Edge.sentence("NONE: there are none");
                Edge.due("no callers", Edge.house("", "bax", 0, 0).leave(day, what), Edge.LEAST + 1);
                Edge.due("with a fault", Edge.house("r1a1;", "bax", 0, 0).leave(day, what), Edge.LEAST + 1);
                Edge.due("one caller", Edge.house("r1a1", "").leave(day, what), 0);
                Edge.sentence("how much (1); NONE: the least int and 1 more.");
                Edge.refused("leave of none", ButlerWeather::new, x -> x.leave(day, asked), Edge.LEAST + 1);
            }
        }
    }

    private static void leaveRefused() {
        Edge.sentence("NONE: the least int and 1 more. BAD: the least int.");
        for (int what = 0; what < 2; what++) {
            int asked = what;
            for (int day : Edge.outside(0, 23)) {
                Edge.refusedInAll("leave(" + day + ", " + what + ")", x -> x.leave(day, asked), Edge.LEAST);
            }
        }
        for (int what : Edge.outside(0, 1)) {
            Edge.refusedInAll("leave(0, " + what + ")", x -> x.leave(0, what), Edge.LEAST);
        }
        Edge.changesNothing("leave", x -> x.leave(0, 0) + x.leave(23, 1));
    }

    // ---- promise 21

    private static void begins(String call, ButlerWeather x, int man, int which, int howMany) {
        Edge.due(call + ": which", x.begin(man, 0), which);
        Edge.due(call + ": how many", x.begin(man, 1), howMany);
    }

    private static void beginMost() {
        Edge.sentence("BEGIN of one of MEN: the DAY from which he had better be on duty, in place of his own,"
                + " by which most CALLERS are ever IN");
        // A butler ahead of a junior would send the sunshine on.
        begins("on the day behind the sunshine's", Edge.house("s1a1;r1b1", "bax;jax", 0, 0, 0, 1), 0, 1, 2);
        begins("on the last day", Edge.house("s1w1;r1x1", "bax;jaw", 0, 0, 0, 1), 0, 23, 2);
        // The last day is the butler's, whenever he begins: there is no day behind it to begin on.
        begins("not behind the last day", Edge.house("s1x1", "bax;jax", 0, 0), 0, 0, 0);
        begins("on the first day", Edge.house("r1a1", "bxx", 0, 0), 0, 0, 1);
        begins("the last of four", Edge.house("s1c1;r1d1", "bxa;bxa;bxa;jaa", 0, 0, 0, 1), 3, 0, 0);
        begins("the last of four", Edge.house("s1c1;r1d1", "bxa;bxa;bxa;jxd", 0, 0, 0, 1), 3, 0, 2);
        ButlerWeather x = Edge.house("s1a1;r1b1", "bax;jax", 0, 0, 0, 1);
        x.begin(0, 0);
        Edge.due("his own is as it was", x.man(0, 1), 0);
        Edge.due("what is in is as it was", x.count(5), 1);
    }

    private static void beginTheLeast() {
        Edge.sentence("by which most CALLERS are ever IN, of like ones the least: which; how many");
        begins("no callers", Edge.house("", "bcx"), 0, 0, 0);
        begins("no cards", Edge.house("r9a9", "bcx"), 0, 0, 0);
        begins("gales alone", Edge.house("g9a9;g9a9", "bcx"), 0, 0, 2);
        begins("days 0 to 8 are like", Edge.house("r9a9", "bix", 0, 0), 0, 0, 1);
        begins("until the first day alone", Edge.house("r9a9", "bxa", 0, 0), 0, 0, 1);
        begins("until ahead of all", Edge.house("r9b9", "bxa", 0, 0), 0, 0, 0);
        begins("all eight", Edge.house("r9a9;r9a9;r9a9;r9a9;r9a9;r9a9;r9a9;r9a9", "bxx",
                0, 0, 0, 1, 0, 2, 0, 3, 0, 4, 0, 5, 0, 6, 0, 7), 0, 0, 8);
    }

    private static void beginRefused() {
        Edge.sentence("BEGIN: which (what = 0), how many (1). BAD.");
        for (int what = 0; what < 2; what++) {
            int asked = what;
            for (int m : Edge.outside(0, 3)) {
                Edge.refusedInAll("begin(" + m + ", " + what + ")", x -> x.begin(m, asked), Edge.BAD);
            }
            Edge.refused("behind the last", Edge::some, x -> x.begin(2, asked), Edge.BAD);
            Edge.refused("of none", ButlerWeather::new, x -> x.begin(0, asked), Edge.BAD);
            Edge.refused("with a fault", Edge::faulty, x -> x.begin(0, asked), Edge.BAD);
        }
        for (int what : Edge.outside(0, 1)) {
            Edge.refusedInAll("begin(0, " + what + ")", x -> x.begin(0, what), Edge.BAD);
        }
        Edge.changesNothing("begin", x -> x.begin(0, 0) + x.begin(3, 1));
    }

    // ---- promise 22

    private static void waitByPatience() {
        Edge.sentence("WAIT of a CALLER: the least PATIENCE (1 to 9), in place of its own, by which it is ever IN; NONE.");
        for (int late = 0; late < 9; late++) {
            for (int own : new int[] {1, 9}) {
                ButlerWeather x = Edge.house("r" + own + "a1", "b" + (char) ('a' + late) + "x", 0, 0);
                Edge.due("a man from day " + late + " on", x.patience(0), late + 1);
                Edge.due("its own is as it was", x.caller(0, 1), own);
                x = Edge.house("r" + own + "a1", "bax", late, 0);
                Edge.due("a card from day " + late + " on", x.patience(0), late + 1);
            }
        }
        Edge.due("a gale", Edge.house("g9a1", "").patience(0), 1);
        Edge.due("on the last day", Edge.house("r9x1", "bax", 0, 0).patience(0), 1);
        Edge.due("the eighth", Edge.full().patience(7), 1);
        // Of three on the step one is let in a day.
        ButlerWeather x = Edge.house("r9a1;r9a1;r1a1", "bax", 0, 0, 0, 1, 0, 2);
        Edge.due("behind two others", x.patience(2), 3);
    }

    private static void waitNone() {
        Edge.sentence("by which it is ever IN; NONE.");
        Edge.due("a man a day too late", Edge.house("r9a1", "bjx", 0, 0).patience(0), Edge.NONE);
        Edge.due("a card a day too late", Edge.house("r9a1", "bax", 9, 0).patience(0), Edge.NONE);
        Edge.due("no card", Edge.house("r9a1", "bax").patience(0), Edge.NONE);
        Edge.due("no man", Edge.house("r9a1", "", 0, 0).patience(0), Edge.NONE);
        Edge.due("a sunshine at a butler's door", Edge.house("s9a1", "bax", 0, 0).patience(0), Edge.NONE);
        Edge.due("the days are at an end", Edge.house("r9x1", "baw", 0, 0).patience(0), Edge.NONE);
    }

    private static void waitRefused() {
        Edge.sentence("WAIT; NONE. BAD.");
        for (int c : Edge.outside(0, 7)) {
            Edge.refusedInAll("patience(" + c + ")", x -> x.patience(c), Edge.BAD);
        }
        Edge.refused("behind the last", Edge::some, x -> x.patience(3), Edge.BAD);
        Edge.refused("of none", ButlerWeather::new, x -> x.patience(0), Edge.BAD);
        Edge.refused("with a fault", Edge::faulty, x -> x.patience(0), Edge.BAD);
        Edge.changesNothing("patience", x -> x.patience(0) + x.patience(7));
    }

    // ---- promise 23

    private static void burns(String call, ButlerWeather x, int howMany, int first, int second) {
        Edge.due(call + ": how many", x.burn(Edge.NONE), howMany);
        Edge.due(call + ": the first", x.burn(0), first);
        Edge.due(call + ": the second", x.burn(1), second);
    }

    private static void burnFewest() {
        Edge.sentence("BURN: the fewest CARDS (0 to 2) that had better not be, so that nothing named a frost is ever IN");
        burns("no callers", new ButlerWeather(), 0, Edge.NONE, Edge.NONE);
        burns("no cards", Edge.house("f9a9", "bax"), 0, Edge.NONE, Edge.NONE);
        burns("a frost named a gale", Edge.house("f9a9", "jax", 0, 0), 0, Edge.NONE, Edge.NONE);
        burns("a frost that goes", Edge.house("f1a9", "bax", 1, 0), 0, Edge.NONE, Edge.NONE);
        burns("one card", Edge.house("f1a9", "bax", 0, 0), 1, 0, Edge.NONE);
        burns("a rain named a frost", Edge.house("r1a9", "jax", 0, 0), 1, 0, Edge.NONE);
        burns("two cards", Edge.house("f9a9", "bax", 0, 0, 1, 0), 2, 0, 1);
        burns("a frost on the last day", Edge.house("f1x1", "bax", 0, 0), 1, 0, Edge.NONE);
        burns("one each of two", Edge.house("f9a9;f9a9", "bab", 0, 0, 0, 1), 2, 0, 1);
        ButlerWeather x = Edge.house("f1a9", "bax", 0, 0);
        x.burn(Edge.NONE);
        Edge.due("cards are as they were", x.count(4), 1);
        Edge.due("it is in as it was", x.stands(0, 0), 2);
    }

    private static void burnTheLeastRow() {
        Edge.sentence("of like ones the least row (each more than the one ahead): how many; the i-th; NONE.");
        burns("the last of eight", Edge.house("r9a9;f9a9", "bax", 0, 0, 0, 0, 0, 0, 0, 0, 0, 0, 0, 0, 0, 0, 0, 1),
                1, 7, Edge.NONE);
        burns("the first of eight", Edge.house("r9a9;f9a9", "bax", 0, 1, 0, 0, 0, 0, 0, 0, 0, 0, 0, 0, 0, 0, 0, 0),
                1, 0, Edge.NONE);
        burns("the last two of eight", Edge.house("r9a9;f9a9", "bax", 0, 0, 0, 0, 0, 0, 0, 0, 0, 0, 0, 0, 0, 1, 0, 1),
                2, 6, 7);
        burns("the first and the last", Edge.house("r9a9;f9a9", "bax", 0, 1, 0, 0, 0, 0, 0, 0, 0, 0, 0, 0, 0, 0, 0, 1),
                2, 0, 7);
        burns("either of two", sunshineAheadOfFrost(1, 0), 1, 0, Edge.NONE);
        burns("either of two", sunshineAheadOfFrost(0, 1), 1, 0, Edge.NONE);
        burns("two pairs", sunshineAheadOfFrost(0, 1, 1, 0), 2, 0, 3);
        burns("two pairs", sunshineAheadOfFrost(1, 0, 0, 1), 2, 0, 3);
        burns("two pairs", sunshineAheadOfFrost(1, 0, 1, 0), 2, 0, 2);
        burns("two pairs", sunshineAheadOfFrost(0, 0, 1, 1), 2, 0, 1);
        burns("one is less than a pair ahead of it", sunshineAheadOfFrost(1, 1, 0), 1, 2, Edge.NONE);
        burns("one is less than a pair ahead of it", sunshineAheadOfFrost(0, 0, 1), 1, 2, Edge.NONE);
    }

    /**
     * On day 0 a junior lets the sunshine (0) in, and on day 1 a butler the frost (1); without the
     * one's cards the frost is let in by the junior, as a gale, without the other's not at all.
     */
    private static ButlerWeather sunshineAheadOfFrost(int... cardsFor) {
        ButlerWeather x = Edge.house("s9a9;f9a9", "jaa;bbx");
        for (int c : cardsFor) {
            x.card(0, c);
        }
        return x;
    }

    private static void burnNone() {
        Edge.sentence("how many (i = NONE), the i-th (0, 1; NONE); NONE. BAD.");
        burns("three cards for one", Edge.house("f9a9", "bax", 0, 0, 1, 0, 2, 0), Edge.NONE, Edge.NONE, Edge.NONE);
        burns("three frosts", Edge.house("f9a9;f9a9;f9a9", "bax", 0, 0, 0, 1, 0, 2), Edge.NONE, Edge.NONE, Edge.NONE);
        burns("eight cards for one", Edge.house("f9a9", "bax", 0, 0, 0, 0, 0, 0, 0, 0, 0, 0, 0, 0, 0, 0, 0, 0),
                Edge.NONE, Edge.NONE, Edge.NONE);
        burns("with a fault nothing is in", Edge.house("f9a9;", "bax", 0, 0, 0, 0, 0, 0), 0, Edge.NONE, Edge.NONE);
    }

    private static void burnRefused() {
        Edge.sentence("BURN: how many (i = NONE), the i-th (0, 1; NONE); NONE. BAD.");
        for (int i : Edge.outside(-1, 1)) {
            Edge.refusedInAll("burn(" + i + ")", x -> x.burn(i), Edge.BAD);
        }
        Edge.changesNothing("burn", x -> x.burn(-1) + x.burn(1));
    }
}

import java.util.ArrayList;
import java.util.List;

/** Each promise by itself: ordinary inputs, the edges, and wrong inputs with the refusal due first. */
public final class PromisesTest {
    private static final int NONE = -1, BAD = -2, NOT = -3, FULL = -4;
    private static final int NULL = -11, INDEX = -12, CAST = -13, STORE = -14, SIZE = -15;
    private static final int LEAST = Integer.MIN_VALUE;
    private static final int[] OUTSIDE = {Integer.MIN_VALUE, -1, 1000, Integer.MAX_VALUE};
    private static int wrong = 0;
    private static int asked = 0;

    private static void due(String call, long got, long want) {
        asked++;
        if (got != want) {
            wrong++;
            System.out.println(call + " answered " + got + ", due is " + want);
        }
    }

    private static void typeAll(ButlerWeather x, int text, String signs) {
        for (int i = 0; i < signs.length(); i++) {
            x.type(text, signs.charAt(i));
        }
    }

    private static ButlerWeather house(String callers, String men, int... cards) {
        ButlerWeather x = new ButlerWeather();
        typeAll(x, 0, callers);
        typeAll(x, 1, men);
        for (int i = 0; i + 1 < cards.length; i += 2) {
            x.card(cards[i], cards[i + 1]);
        }
        return x;
    }

    public static void main(String[] args) {
        newObject();
        typing();
        wipingAndUndoing();
        faults();
        callersAndMen();
        cardsAndBack();
        reading();
        standing();
        overAndForce();
        butlersAndJuniors();
        longestOnTheStep();
        doors();
        coldestAndFirst();
        sentWrongAndSum();
        leaving();
        beginning();
        waiting();
        burning();
        feeling();
        neverAndWas();
        asking();
        chances();
        yearsBySeed();
        sheets();
        puttingAndGetting();
        copying();
        writing();
        counting();
        digesting();
        System.out.println(asked + " answers asked for, " + wrong + " not as due");
        if (wrong != 0) {
            System.exit(1);
        }
    }

    private static void newObject() {
        ButlerWeather x = new ButlerWeather();
        for (int what = 0; what <= 8; what++) {
            due("new count " + what, x.count(what), 0);
        }
        for (int s = 0; s < 4; s++) {
            due("new lose " + s, x.lose(s), NULL);
        }
        due("constants", ButlerWeather.NONE, NONE);
        due("constants", ButlerWeather.BAD, BAD);
        due("constants", ButlerWeather.NOT, NOT);
        due("constants", ButlerWeather.FULL, FULL);
    }

    private static void typing() {
        ButlerWeather x = new ButlerWeather();
        for (int text : new int[] {-1, 2, LEAST, Integer.MAX_VALUE}) {
            due("type text", x.type(text, 'r'), BAD);
        }
        due("type below", x.type(0, -1), BAD);
        due("type above", x.type(0, 256), BAD);
        due("type 0", x.type(0, 0), 1);
        due("type 255", x.type(0, 255), 2);
        for (int i = 3; i <= 39; i++) {
            due("type " + i, x.type(0, 'r'), i);
        }
        due("type 40th", x.type(0, 'r'), FULL);
        due("type 40th bad", x.type(0, 256), BAD);
        for (int i = 1; i <= 15; i++) {
            due("type men " + i, x.type(1, 'b'), i);
        }
        due("type men 16th", x.type(1, 'b'), FULL);
        due("bytes", x.count(2), 39);
        due("bytes of men", x.count(3), 15);
    }

    private static void wipingAndUndoing() {
        ButlerWeather x = house("r1a1;f2b2", "bax");
        due("wipe bad", x.wipe(2), BAD);
        due("wipe bad", x.wipe(-1), BAD);
        due("undo bad", x.undo(2), BAD);
        due("undo bad", x.undo(-1), BAD);
        due("undo", x.undo(0), 8);
        due("undo leaves a fault", x.fault(0), 8);
        due("none with a fault", x.count(0), 0);
        due("undo men", x.undo(1), 2);
        due("undo men", x.undo(1), 1);
        due("undo men", x.undo(1), 0);
        due("undo men", x.undo(1), NOT);
        due("wipe", x.wipe(0), 8);
        due("wipe again", x.wipe(0), 0);
        due("undo none", x.undo(0), NOT);
        due("count", x.count(2), 0);
        typeAll(x, 0, "g1a1");
        due("typed anew", x.caller(0, 0), 2);
        due("one", x.count(0), 1);
        x.wipe(0);
        due("wiped behind an answer", x.count(0), 0);
        typeAll(x, 0, "g1a1");
        due("typed behind an answer", x.count(0), 1);
        x.undo(0);
        due("undone behind an answer", x.count(0), 0);
    }

    private static void faultOf(int text, String signs, int want) {
        ButlerWeather x = new ButlerWeather();
        typeAll(x, text, signs);
        due("fault of " + signs, x.fault(text), want);
        int width = text == 0 ? 5 : 4;
        due("items of " + signs, x.count(text), want == NONE ? (signs.length() + 1) / width : 0);
    }

    private static void faults() {
        due("fault bad", new ButlerWeather().fault(2), BAD);
        due("fault bad", new ButlerWeather().fault(-1), BAD);
        faultOf(0, "", NONE);
        faultOf(0, "r1a1", NONE);
        faultOf(0, "s9x9", NONE);
        faultOf(0, "r", 1);
        faultOf(0, "r1", 2);
        faultOf(0, "r1a", 3);
        faultOf(0, "r1a1;", 5);
        faultOf(0, "b1a1", 0);
        faultOf(0, "R1a1", 0);
        faultOf(0, "r0a1", 1);
        faultOf(0, "r:a1", 1);
        faultOf(0, "r1y1", 2);
        faultOf(0, "r1`1", 2);
        faultOf(0, "r1a0", 3);
        faultOf(0, "r1a1,", 4);
        faultOf(0, "r1a1r", 4);
        faultOf(0, "r1a1;;", 5);
        faultOf(0, ";", 0);
        faultOf(0, "r1a1;f2b2;x", 10);
        faultOf(0, "r1a1;f2b2;g3c3;s4d4;r5e5;f6f6;g7g7;s8h8", NONE);
        faultOf(0, "r1a1;f2b2;g3c3;s4d4;r5e5;f6f6;g7g7;s8h", 38);
        faultOf(1, "", NONE);
        faultOf(1, "bax", NONE);
        faultOf(1, "jxa", NONE);
        faultOf(1, "r", 0);
        faultOf(1, "b1", 1);
        faultOf(1, "ba", 2);
        faultOf(1, "bay", 2);
        faultOf(1, "baxx", 3);
        faultOf(1, "bax;", 4);
        faultOf(1, "bab;jcd;bef;jgh", NONE);
        faultOf(1, "bab;jcd;bef;jg", 14);
    }

    private static void callersAndMen() {
        ButlerWeather x = house("r1a9;f2x8;g3b7;s9w1", "bax;jcb");
        int[][] callers = {{0, 1, 0, 9}, {1, 2, 23, 8}, {2, 3, 1, 7}, {3, 9, 22, 1}};
        int[][] men = {{0, 0, 23}, {1, 2, 1}};
        for (int c = 0; c < 4; c++) {
            for (int what = 0; what < 4; what++) {
                due("caller " + c + " " + what, x.caller(c, what), callers[c][what]);
            }
        }
        for (int m = 0; m < 2; m++) {
            for (int what = 0; what < 3; what++) {
                due("man " + m + " " + what, x.man(m, what), men[m][what]);
            }
        }
        for (int out : OUTSIDE) {
            due("caller out", x.caller(out, 0), BAD);
            due("caller what out", x.caller(0, out), BAD);
            due("man out", x.man(out, 0), BAD);
            due("man what out", x.man(0, out), BAD);
        }
        due("caller 4", x.caller(4, 0), BAD);
        due("caller what 4", x.caller(0, 4), BAD);
        due("man 2", x.man(2, 0), BAD);
        due("man what 3", x.man(0, 3), BAD);
    }

    private static void cardsAndBack() {
        ButlerWeather x = new ButlerWeather();
        due("back of none", x.back(), NOT);
        due("card day", x.card(-1, 0), BAD);
        due("card day", x.card(24, 0), BAD);
        due("card caller", x.card(0, -1), BAD);
        due("card caller", x.card(0, 8), BAD);
        for (int i = 1; i <= 8; i++) {
            due("card " + i, x.card(i == 1 ? 0 : 23, i - 1), i);
        }
        due("ninth card", x.card(0, 0), FULL);
        due("ninth card bad", x.card(24, 0), BAD);
        due("cards", x.count(4), 8);
        for (int left = 7; left >= 0; left--) {
            due("back", x.back(), left);
        }
        due("back of none", x.back(), NOT);
        x = house("r9a9", "bax", 0, 0);
        due("in by card", x.stands(0, 0), 2);
        x.back();
        due("not in without", x.stands(0, 0), 1);
        x.card(0, 0);
        due("in by a card behind an answer", x.stands(0, 0), 2);
    }

    private static void reading() {
        ButlerWeather x = house("r9a9", "bax");
        due("read bad", x.read(-1), BAD);
        due("read bad", x.read(4), BAD);
        due("read lost", x.read(3), NULL);
        due("finding", x.count(8), 1);
        x.sheet(0, 2, 0);
        due("read of none", x.read(0), 0);
        x.sheet(0, 2, 1);
        due("read of a half", x.read(0), 0);
        x.sheet(0, 2, 7);
        int[] items = {23, 7, 1, 0, 24, 0, 2};
        for (int i = 0; i < items.length; i++) {
            x.put(0, 2, i, items[i]);
        }
        due("read up to a wrong day", x.read(0), 2);
        due("cards then", x.count(4), 2);
        due("by the card of day 1", x.first(0), 1);
        due("read more", x.read(0), 2);
        due("cards then", x.count(4), 4);
        x.sheet(1, 0, 60);
        due("read as many as there is room for", x.read(1), 4);
        due("read when full", x.read(1), 0);
        due("cards then", x.count(4), 8);
        x.sheet(2, 1, 2);
        x.put(2, 1, 1, -1);
        x.back();
        due("read a wrong caller", x.read(2), 0);
        x.put(2, 1, 1, 8);
        due("read a wrong caller", x.read(2), 0);
        x.put(2, 1, 1, 7);
        due("read shorts", x.read(2), 1);
    }

    private static void standing() {
        ButlerWeather x = house("r2b1", "bax");
        due("not come", x.stands(0, 0), 0);
        due("step", x.stands(1, 0), 1);
        due("sent on", x.stands(2, 0), 4);
        due("sent on for good", x.stands(23, 0), 4);
        due("day", x.stands(-1, 0), BAD);
        due("day", x.stands(24, 0), BAD);
        due("caller", x.stands(0, 1), BAD);
        due("caller", x.stands(0, -1), BAD);
        due("never in", x.name(0), NONE);
        due("name bad", x.name(1), BAD);
        due("name bad", x.name(-1), BAD);
        x = house("r1x9", "");
        due("on the last day", x.stands(22, 0), 0);
        due("on the last day", x.stands(23, 0), 4);
        x = house("r2x9", "");
        due("still on the step", x.stands(23, 0), 1);
        due("not sent", x.sent(), 0);
    }

    private static void overAndForce() {
        ButlerWeather x = house("g5c1;g5c3;g9x9", "");
        due("gale", x.stands(1, 0), 0);
        due("gale in", x.stands(2, 0), 2);
        due("gale over", x.stands(3, 0), 3);
        due("gale in", x.stands(4, 1), 2);
        due("gale over", x.stands(5, 1), 3);
        due("last gale", x.stands(23, 2), 2);
        due("named", x.name(1), 2);
        due("two gales", x.warmth(2), -4);
        due("one gale", x.warmth(4), -2);
        due("none", x.warmth(5), 0);
        due("last day alone", x.sum(), -2 - 6 - 2);
        due("warmth bad", x.warmth(-1), LEAST);
        due("warmth bad", x.warmth(24), LEAST);
    }

    private static void butlersAndJuniors() {
        String all = "r9a9;f9b9;g9c9;s9d9";
        ButlerWeather x = house(all, "jax", 0, 0, 0, 1, 0, 2, 0, 3);
        int[] misheard = {1, 2, 2, 0};
        for (int c = 0; c < 4; c++) {
            due("junior's name of " + c, x.name(c), misheard[c]);
        }
        due("wrong", x.wrong(), 1 + 2 + 8);
        due("warmth by names", x.warmth(3), -3 - 2 - 2 - 1);
        x = house(all, "bax", 0, 0, 0, 1, 0, 2, 0, 3);
        int[] heard = {0, 1, 2, NONE};
        for (int c = 0; c < 4; c++) {
            due("butler's name of " + c, x.name(c), heard[c]);
        }
        due("none wrong", x.wrong(), 0);
        due("sunshine is sent on in spite of a card", x.sent(), 8);
        x = house("f9a2;s9b3", "jbx", 0, 0, 2, 1);
        due("frost as gale", x.warmth(1), -2);
        due("and sunshine as rain", x.warmth(2), -3);
        x = house("g9a2", "jax", 0, 0);
        due("gales pass the junior by", x.wrong(), 0);
        x = house("s9a2", "bcd", 0, 0);
        due("sunshine waits for a man", x.stands(1, 0), 1);
        due("sunshine is sent on by him", x.stands(2, 0), 4);
    }

    private static void longestOnTheStep() {
        ButlerWeather x = house("r9c9;r9b9;r9b9;r9a9", "jcx", 0, 0, 0, 1, 0, 2);
        due("who has a card and stood longest, the least", x.stands(2, 1), 2);
        due("then", x.stands(3, 2), 2);
        due("then", x.stands(4, 0), 2);
        due("without a card", x.stands(7, 3), 1);
        due("its patience ends", x.stands(8, 3), 4);
        x = house("r1a9;r1a9", "bax", 0, 0, 0, 1);
        due("let in on the day of its patience", x.stands(0, 0), 2);
        due("the other one goes", x.stands(0, 1), 4);
        x = house("r3a9", "bax", 3, 0);
        due("a card too late", x.name(0), NONE);
        x = house("r3a9", "bax", 2, 0);
        due("a card in time", x.stands(2, 0), 2);
    }

    private static void doors() {
        ButlerWeather x = house("r9a3;g9a9;f9b2", "jcd;bac;bxx;jzz", 0, 0, 1, 2);
        x.wipe(1);
        typeAll(x, 1, "jcd;bac;bxx;jba");
        int[] men = {1, 1, 0, 0, NONE};
        int[] hats = {1, 2, 2, 0, 0};
        for (int day = 0; day < 5; day++) {
            due("door " + day, x.door(day, 0), men[day]);
            due("hats " + day, x.door(day, 1), hats[day]);
            due("step " + day, x.door(day, 2), 0);
        }
        due("from and until the last day", x.door(23, 0), 2);
        due("and not ahead of it", x.door(22, 0), NONE);
        for (int out : OUTSIDE) {
            due("door day", x.door(out, 0), BAD);
            due("door what", x.door(0, out), BAD);
        }
        due("door day", x.door(24, 0), BAD);
        due("door what", x.door(0, 3), BAD);
        x = house("r3a9;r9b9;s2b9", "");
        int[] steps = {1, 7, 2, 2};
        for (int day = 0; day < 4; day++) {
            due("steps " + day, x.door(day, 2), steps[day]);
        }
    }

    private static void coldestAndFirst() {
        ButlerWeather x = house("g9a9;r9d2;f9d2", "bax", 5, 1, 5, 2);
        due("coldest", x.coldest(), 6);
        due("first day", x.first(0), 5);
        due("first who", x.first(1), 1);
        due("first bad", x.first(2), BAD);
        due("first bad", x.first(-1), BAD);
        x.back();
        x.back();
        due("first none", x.first(0), NONE);
        due("first none", x.first(1), NONE);
        due("like days, the least", x.coldest(), 0);
        x = house("s9a9;g9k3", "jbc", 0, 0);
        due("a gale is colder than a sunshine as rain", x.coldest(), 10);
        due("a sunshine as rain is colder than none", house("s9a9", "jbc", 0, 0).coldest(), 1);
        x = house("f9b9;r9a9", "bax", 0, 0, 0, 1);
        due("first is not the least", x.first(1), 1);
        due("first is not the least", x.first(0), 0);
    }

    private static void sentWrongAndSum() {
        ButlerWeather x = house("r1a9;f9a9;s9v9;r9x9", "jax", 3, 1);
        due("sent", x.sent(), 1);
        due("wrong", x.wrong(), 2);
        due("sum", x.sum(), -2 * 9);
        x = house("f9w9", "bax", 22, 0);
        due("sum ends with the days", x.sum(), -6);
        x = house("g1a1;g1b2", "");
        due("sum", x.sum(), -6);
        x = house("g1a1;g1b", "");
        due("sum with a fault", x.sum(), 0);
    }

    private static void leaving() {
        ButlerWeather x = house("f9c9;r9c2;g9c1;s9e3", "jax");
        // A rain would be named a frost, a frost a gale, a sunshine a rain.
        due("leave", x.leave(2, 0), 2);
        due("a gale needs none", x.leave(2, 1), -2);
        x = house("f9c9;r9c2", "bax", 2, 0);
        due("leave", x.leave(2, 0), 0);
        due("leave", x.leave(2, 1), -27);
        due("leave", x.leave(23, 1), -27);
        x = house("f9c9;r9c2", "bax");
        due("the warmer", x.leave(2, 0), 1);
        due("the warmer", x.leave(2, 1), -2);
        due("too late, the least", x.leave(12, 0), 0);
        due("too late", x.leave(12, 1), 0);
        for (int i = 0; i < 8; i++) {
            x.card(23, 7);
        }
        due("whatever room", x.leave(2, 1), -2);
        due("cards are as they were", x.count(4), 8);
        due("leave bad", x.leave(-1, 0), LEAST);
        due("leave bad", x.leave(24, 0), LEAST);
        due("leave bad", x.leave(0, 2), LEAST);
        due("leave bad", x.leave(0, -1), LEAST);
        due("leave none", house("", "bax").leave(0, 0), LEAST + 1);
        due("leave none", house("r", "bax").leave(0, 1), LEAST + 1);
        due("leave bad ahead of none", house("", "bax").leave(24, 0), LEAST);
    }

    private static void beginning() {
        ButlerWeather x = house("r2c9;r2c9;s2h1;g1a1", "jxx;bbx", 0, 0, 0, 1, 0, 2);
        due("his own day", x.man(1, 1), 1);
        due("the junior from day 0", x.begin(0, 0), 0);
        due("all are in then", x.begin(0, 1), 4);
        due("the butler whenever", x.begin(1, 0), 0);
        due("but the sunshine", x.begin(1, 1), 3);
        due("men are as they were", x.man(0, 1), 23);
        x = house("s9a1;r1e9", "bcx;jae", 0, 0, 0, 1);
        due("the butler had better be late", x.begin(0, 0), 1);
        due("both", x.begin(0, 1), 2);
        due("begin bad", x.begin(2, 0), BAD);
        due("begin bad", x.begin(-1, 0), BAD);
        due("begin bad", x.begin(0, 2), BAD);
        due("begin bad", x.begin(0, -1), BAD);
    }

    private static void waiting() {
        ButlerWeather x = house("r1a1;r1a1;g1b1;s1a9", "bcx", 0, 0, 0, 1, 0, 3);
        due("wait", x.patience(0), 3);
        // With the least patience the other one is gone by then.
        due("wait", x.patience(1), 3);
        due("a gale", x.patience(2), 1);
        due("sunshine", x.patience(3), NONE);
        due("its own is as it was", x.caller(0, 1), 1);
        due("wait bad", x.patience(4), BAD);
        due("wait bad", x.patience(-1), BAD);
        due("nine days", house("r1a1", "bix", 0, 0).patience(0), 9);
        due("ten days", house("r1a1", "bjx", 0, 0).patience(0), NONE);
    }

    private static void burnt(ButlerWeather x, int many, int first, int second) {
        due("burn how many", x.burn(NONE), many);
        due("burn first", x.burn(0), first);
        due("burn second", x.burn(1), second);
    }

    private static void burning() {
        burnt(house("f9a9", "bax"), 0, NONE, NONE);
        burnt(house("f9a9", "bax", 5, 0), 1, 0, NONE);
        burnt(house("f9a9;r9a9", "bax", 0, 1, 5, 0), 1, 1, NONE);
        burnt(house("f9a9;r9a9", "bax", 0, 1, 5, 0, 6, 1, 4, 0), 2, 1, 3);
        burnt(house("f9a9", "bax", 0, 0, 1, 0, 2, 0), NONE, NONE, NONE);
        burnt(house("r9a9;g9a9", "jax", 0, 1, 0, 0), 1, 1, NONE);
        burnt(house("f9a9", "jax", 0, 0), 0, NONE, NONE);
        burnt(house("r9a9;f9a9", "jaa;bbb", 0, 0, 0, 1), 1, 0, NONE);
        // Without the one's card the other one comes in, on the only day of a man.
        burnt(house("f9a9;f9a9", "baa", 0, 0, 0, 1), 2, 0, 1);
        due("burn bad", house("", "").burn(-2), BAD);
        due("burn bad", house("", "").burn(2), BAD);
    }

    private static void feeling() {
        ButlerWeather x = new ButlerWeather();
        due("feel bad", x.feel(-1, 0), BAD);
        due("feel bad", x.feel(24, 0), BAD);
        due("feel bad", x.feel(0, -41), BAD);
        due("feel bad", x.feel(0, 41), BAD);
        for (int i = 1; i <= 8; i++) {
            due("feel", x.feel(i, i % 2 == 0 ? 40 : -40), i);
        }
        due("felt", x.count(7), 8);
        due("feel full", x.feel(0, 0), FULL);
        due("feel bad ahead of full", x.feel(24, 0), BAD);
        due("forget", x.forget(), 8);
        due("forget", x.forget(), 0);
        due("feel anew", x.feel(0, 0), 1);
    }

    private static void neverAndWas() {
        ButlerWeather x = house("r9a2;f9a2", "bax", 0, 0, 1, 1, 0, 0);
        due("never with nothing felt", x.never(), 7);
        x.feel(1, -4);
        due("one of two cards alone", x.never(), 1 + 4);
        x.feel(0, -1);
        due("still", x.never(), 1 + 4);
        x.forget();
        x.feel(1, -1);
        due("the frost's card never was", x.never(), 2);
        due("then it was no frost", x.was(1, 0), 8);
        due("sunshine would have been sent on, patience too short", x.was(1, 1), 2);
        due("its own is as it was", x.caller(1, 0), 1);
        x.forget();
        x.feel(1, -3);
        // Day 1: the other one makes -3 with a gale on days 0 and 1 beside the rain.
        due("a gale", x.was(1, 0), 4);
        due("none", x.was(1, 1), 0);
        x.feel(1, -2);
        due("felt so and not so", x.was(1, 0), 0);
        x.forget();
        due("all sorts", x.was(0, 0), 15);
        due("all of 1 to 9", x.was(0, 1), 1022);
        due("was bad", x.was(2, 0), BAD);
        due("was bad", x.was(-1, 0), BAD);
        due("was bad", x.was(0, 2), BAD);
        due("was bad", x.was(0, -1), BAD);
        due("never with a fault", house("r", "").never(), 0);
    }

    private static void asking() {
        // In on days 3 (by a patience of 4 and more), 3 to 5.
        ButlerWeather x = house("r1a3", "bdx", 3, 0);
        due("ask", x.ask(0), 3);
        x.feel(3, -1);
        due("all alike then", x.ask(0), 0);
        x.feel(3, 0);
        due("none left", x.ask(0), 0);
        x.forget();
        due("day 1 tells most", house("r1a9", "bbx", 0, 0).ask(0), 1);
        // The rains are let in on days 0 and 1, the frost on day 3, if each waits so long.
        x = house("r9a1;r9a1;f9b4", "bab;bdx", 0, 0, 0, 1, 0, 2);
        due("in any case", x.ask(0), 0);
        due("by 1 alone not on day 1", x.ask(1), 1);
        due("by 1 to 2 not on day 3", x.ask(2), 3);
        x.feel(3, -3);
        due("what was felt is out", x.ask(2), 0);
        due("by 9 alone it is in", house("r1a9", "bix", 0, 0).ask(0), 8);
        due("by 1 alone it is not", house("r1a9", "bbb", 0, 0).ask(0), 1);
        // Two days at the door: by a patience of 1 to 3 it is never in; on day 1 no man is there.
        x = house("r9a9;r1a9", "bcc;bgx", 0, 0, 0, 1);
        due("one at the door first", x.ask(1), 6);
        due("ask bad", x.ask(2), BAD);
        due("ask bad", x.ask(-1), BAD);
    }

    private static void chanceOf(ButlerWeather x, int c, int caller, long above, long below) {
        due("chance above", x.chance(c, caller, 0), above);
        due("chance below", x.chance(c, caller, 1), below);
    }

    private static void chances() {
        long bad = Long.MIN_VALUE + 2;
        ButlerWeather x = house("r1a1;g1a1;r1a1", "bax", 0, 0, 0, 2);
        chanceOf(x, 0, 0, 0, 1);
        chanceOf(x, 16, 0, 1, 1);
        chanceOf(x, 8, 0, 1, 2);
        chanceOf(x, 3, 0, 3, 16);
        chanceOf(x, 3, 1, 1, 1);
        chanceOf(x, 4, 2, 3, 16);
        chanceOf(x, 16, 2, 0, 1);
        chanceOf(house("r1a1", ""), 5, 0, 0, 1);
        chanceOf(house("g1a1", ""), 0, 0, 1, 1);
        x = house("r1a1", "bax", 0, 0, 0, 0, 0, 0, 0, 0, 0, 0, 0, 0, 0, 0, 0, 0);
        // By eight cards for one: all less the chance that none of them is.
        chanceOf(x, 1, 0, 4294967296L - 2562890625L, 4294967296L);
        chanceOf(x, 15, 0, 4294967295L, 4294967296L);
        due("chance bad", x.chance(-1, 0, 0), bad);
        due("chance bad", x.chance(17, 0, 0), bad);
        due("chance bad", x.chance(0, 1, 0), bad);
        due("chance bad", x.chance(0, -1, 0), bad);
        due("chance bad", x.chance(0, 0, 2), bad);
        due("chance bad", x.chance(0, 0, -1), bad);
        x.back();
        chanceOf(x, 8, 0, 127, 128);
        typeAll(x, 0, ";r1a1");
        chanceOf(x, 8, 1, 0, 1);
    }

    private static void yearsBySeed() {
        // By seed 0: 12345, of upper bits 0: day 0; then a lot of callers.
        ButlerWeather x = house("r9a9", "bax", 0, 0);
        due("no cards in place of those told", x.years(0, 0, 0), 0);
        due("no cards in place of those told", x.years(0, 0, 1), 0);
        due("by a card of day 0", x.years(0, 1, 0), 1);
        due("by a card of day 0", x.years(0, 1, 1), -9);
        due("cards are as they were", x.count(4), 1);
        twoCallersByLots();
        int next = 1103515245 * -5 + 12345;
        int day = (next >>> 16) % 24;
        due("a seed below 0", x.years(-5, 1, 0), day <= 8 ? 1 : 0);
        due("no callers", house("", "bax").years(0, 8, 0), 0);
        due("no callers", house("", "bax").years(0, 8, 1), 0);
        due("a gale", house("g1a2", "").years(9, 0, 1), -4);
        due("years bad", x.years(0, -1, 0), LEAST);
        due("years bad", x.years(0, 9, 0), LEAST);
        due("years bad", x.years(0, 0, 2), LEAST);
        due("years bad", x.years(0, 0, -1), LEAST);
    }

    /** Each card by two lots, worked out in longs: its day, then one of two callers. */
    private static void twoCallersByLots() {
        ButlerWeather x = house("f9a1;r9a9", "bax");
        long seed = 77;
        int[] first = {99, 99};
        for (int n = 1; n <= 8; n++) {
            seed = (seed * 1103515245L + 12345L) % 4294967296L;
            int day = (int) (seed / 65536 % 24);
            seed = (seed * 1103515245L + 12345L) % 4294967296L;
            int who = (int) (seed / 65536 % 2);
            first[who] = Math.min(first[who], day);
            boolean both = first[0] <= 8 && first[1] <= 8;
            // Let in on one day and at the end of their patience, one of them is sent on.
            boolean clash = first[0] == 8 && first[1] == 8;
            int in = clash ? 1 : both ? 2 : first[0] <= 8 || first[1] <= 8 ? 1 : 0;
            int sum = (first[0] <= 8 ? -3 : 0) + (first[1] <= 8 && !clash ? -9 : 0);
            due("years of " + n, x.years(77, n, 0), in);
            due("years of " + n, x.years(77, n, 1), sum);
        }
    }

    private static void sheets() {
        ButlerWeather x = new ButlerWeather();
        due("sheet", x.sheet(0, 0, 60), 60);
        due("sheet", x.sheet(3, 2, 0), 0);
        due("sheet bad", x.sheet(-1, 0, 0), BAD);
        due("sheet bad", x.sheet(4, 0, 0), BAD);
        due("sheet bad", x.sheet(0, -1, 0), BAD);
        due("sheet bad", x.sheet(0, 3, 0), BAD);
        due("sheet bad", x.sheet(0, 0, 61), BAD);
        due("sheet bad ahead of size", x.sheet(4, 0, -1), BAD);
        due("no finding yet", x.count(8), 0);
        due("sheet size", x.sheet(0, 0, -1), SIZE);
        due("finding", x.count(8), 5);
        due("sheet size", x.sheet(1, 0, LEAST), SIZE);
        due("it had", x.lose(0), 60);
        due("lost", x.lose(0), NULL);
        due("finding", x.count(8), 1);
        due("never made", x.lose(1), NULL);
        due("empty", x.lose(3), 0);
        due("lose bad", x.lose(4), BAD);
        due("lose bad", x.lose(-1), BAD);
        x.sheet(0, 2, 3);
        x.put(0, 2, 2, 7);
        x.sheet(0, 2, 3);
        due("new again", x.get(0, 2, 2), 0);
        x.put(0, 2, 0, 7);
        x.sheet(0, 2, 3);
        due("new again", x.get(0, 2, 0), 0);
        x.put(0, 2, 2, 7);
        x.lose(0);
        x.sheet(0, 2, 3);
        due("new behind lost", x.get(0, 2, 2), 0);
    }

    private static void puttingAndGetting() {
        ButlerWeather x = new ButlerWeather();
        for (int form = 0; form < 3; form++) {
            x.sheet(form, form, 4);
            int[] values = {0x12345678, -1, 0x8080, 0x80};
            int[][] kept = {{0x78, -1, -128, -128}, {0x5678, -1, -32640, 128},
                {0x12345678, -1, 0x8080, 0x80}};
            for (int i = 0; i < 4; i++) {
                due("put", x.put(form, form, i, values[i]), 1);
                due("get", x.get(form, form, i), kept[form][i]);
            }
        }
        due("put bad", x.put(-1, 0, 0, 0), BAD);
        due("put bad", x.put(4, 0, 0, 0), BAD);
        due("put bad", x.put(0, -1, 0, 0), BAD);
        due("put bad ahead of null", x.put(3, 3, 0, 0), BAD);
        due("get bad", x.get(4, 0, 0), LEAST);
        due("get bad", x.get(0, 3, 0), LEAST);
        due("no finding yet", x.count(8), 0);
        due("put null", x.put(3, 0, 0, 0), NULL);
        due("finding", x.count(8), 1);
        due("put cast ahead of index", x.put(0, 1, 9, 0), CAST);
        due("finding", x.count(8), 3);
        due("put index", x.put(0, 0, 4, 0), INDEX);
        due("finding", x.count(8), 2);
        due("put index", x.put(0, 0, -1, 0), INDEX);
        due("get cast", x.get(0, 2, 0), LEAST);
        due("finding", x.count(8), 3);
        due("get null", x.get(3, 2, 0), LEAST);
        due("finding", x.count(8), 1);
        due("get index", x.get(2, 2, 4), LEAST);
        due("finding", x.count(8), 2);
        x.get(2, 2, 0);
        x.get(9, 9, 9);
        due("the latest stays", x.count(8), 2);
    }

    private static void copying() {
        ButlerWeather x = new ButlerWeather();
        x.sheet(0, 2, 5);
        x.sheet(1, 2, 3);
        x.sheet(2, 1, 5);
        for (int i = 0; i < 5; i++) {
            x.put(0, 2, i, i + 1);
        }
        due("copy", x.copy(0, 3, 1, 1, 2), 1);
        int[] there = {0, 4, 5};
        for (int i = 0; i < 3; i++) {
            due("copied", x.get(1, 2, i), there[i]);
        }
        due("copy over itself", x.copy(0, 0, 0, 1, 4), 1);
        int[] moved = {1, 1, 2, 3, 4};
        for (int i = 0; i < 5; i++) {
            due("as they were", x.get(0, 2, i), moved[i]);
        }
        due("copy none at the end", x.copy(0, 5, 1, 3, 0), 1);
        due("copy bad", x.copy(4, 0, 3, 0, -1), BAD);
        due("copy bad", x.copy(3, 0, -1, 0, -1), BAD);
        due("copy null", x.copy(3, 0, 0, 0, 0), NULL);
        due("copy null ahead of all", x.copy(0, -1, 3, 0, 0), NULL);
        due("copy store ahead of index", x.copy(0, -1, 2, 0, 0), STORE);
        due("finding", x.count(8), 4);
        int max = Integer.MAX_VALUE;
        int[][] off = {{-1, 0, 1}, {0, -1, 1}, {0, 0, -1}, {0, 0, 4}, {6, 0, 0}, {0, 4, 0},
            {5, 0, 1}, {0, 3, 1}, {1, 0, max}, {max, 0, max}, {LEAST, 0, max}, {0, max, 1},
            {max, max, LEAST}};
        for (int[] o : off) {
            due("copy index", x.copy(0, o[0], 1, o[1], o[2]), INDEX);
        }
        due("finding", x.count(8), 2);
        for (int i = 0; i < 3; i++) {
            due("unchanged", x.get(1, 2, i), there[i]);
        }
    }

    private static void writing() {
        ButlerWeather x = house("g1b2;g1b1", "");
        due("write bad", x.write(-1), BAD);
        due("write bad", x.write(4), BAD);
        due("write null", x.write(0), NULL);
        due("finding", x.count(8), 1);
        for (int form = 0; form < 3; form++) {
            x.sheet(0, form, 60);
            x.put(0, form, 24, 99);
            due("write", x.write(0), 24);
            int[] days = {0, -4, -2, 0};
            for (int i = 0; i < 4; i++) {
                due("written", x.get(0, form, i), days[i]);
            }
            due("no more", x.get(0, form, 24), 99);
        }
        x.sheet(1, 2, 2);
        due("write few", x.write(1), 2);
        due("written", x.get(1, 2, 1), -4);
        x = house("g1a2", "");
        x.sheet(1, 2, 2);
        x.write(1);
        due("written from day 0 on", x.get(1, 2, 0), -2);
        x.sheet(1, 2, 0);
        due("write none", x.write(1), 0);
    }

    private static void counting() {
        ButlerWeather x = house("r9a9;g1a1;r1b1", "bax;jax", 0, 0, 9, 7);
        x.feel(0, 0);
        x.lose(0);
        int[] counts = {3, 2, 14, 7, 2, 2, 1, 1, 1};
        for (int what = 0; what <= 8; what++) {
            due("count " + what, x.count(what), counts[what]);
        }
        due("count bad", x.count(9), BAD);
        due("count bad", x.count(-1), BAD);
        x.type(0, ';');
        due("with a fault none", x.count(0), 0);
        due("with a fault its bytes", x.count(2), 15);
        due("with a fault none is in", x.count(5), 0);
    }

    private static void digesting() {
        ButlerWeather x = new ButlerWeather();
        long h = 17;
        for (int i = 0; i < 8; i++) {
            h = 31 * h;
        }
        h = 31 * (31 * h - 1) - 1;
        for (int day = 0; day < 24; day++) {
            h = ((31 * h - 1) * 31 * 31) * 31;
        }
        // coldest, first twice, sent, wrong, sum, leave twice, burn twice, never, years twice
        int[] rest = {0, -1, -1, 0, 0, 0, LEAST + 1, LEAST + 1, 0, -1, 0, 0, 0};
        for (int r : rest) {
            h = 31 * h + r;
        }
        due("digest of nothing", x.digest(), h);
        x.lose(0);
        due("a finding is not in it", x.digest(), h);
        x.card(3, 3);
        if (x.digest() == h) {
            due("a card changes it", 0, 1);
        }
        x = house("r5c4;f7a3;s3b9;g2d1", "jcd;bab;bfk", 2, 0, 0, 1, 3, 2, 2, 1);
        x.feel(0, -3);
        due("digest of many", x.digest(), folded(x));
        x.forget();
        x.back();
        due("digest of many", x.digest(), folded(x));
    }

    /** The digest as the document tells it, of what the calls answer. */
    private static long folded(ButlerWeather x) {
        List<Long> all = new ArrayList<>();
        for (int what = 0; what < 8; what++) {
            all.add((long) x.count(what));
        }
        add(all, x.fault(0), x.fault(1));
        for (int m = 0; m < x.count(1); m++) {
            add(all, x.man(m, 0), x.man(m, 1), x.man(m, 2), x.begin(m, 0), x.begin(m, 1));
        }
        for (int c = 0; c < x.count(0); c++) {
            add(all, x.caller(c, 0), x.caller(c, 1), x.caller(c, 2), x.caller(c, 3));
            add(all, x.stands(6, c), x.stands(14, c), x.stands(23, c), x.name(c), x.patience(c));
            add(all, x.was(c, 0), x.was(c, 1), x.ask(c), x.chance(5, c, 0), x.chance(5, c, 1));
        }
        for (int day = 0; day < 24; day++) {
            add(all, x.door(day, 0), x.door(day, 1), x.door(day, 2), x.warmth(day));
        }
        add(all, x.coldest(), x.first(0), x.first(1), x.sent(), x.wrong(), x.sum());
        add(all, x.leave(8, 0), x.leave(8, 1), x.burn(-1), x.burn(0), x.never());
        add(all, x.years(7, 6, 0), x.years(7, 6, 1));
        long h = 17;
        for (long v : all) {
            h = 31 * h + v;
        }
        return h;
    }

    private static void add(List<Long> all, long... values) {
        for (long v : values) {
            all.add(v);
        }
    }
}

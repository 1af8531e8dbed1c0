/** Promises 1 to 10 and the terms of texts and cards: each sentence that names an edge, by itself. */
public final class EdgesOfTextsTest {
    private static final String EIGHT = "r1a1;f2b2;g3c3;s4d4;r5e5;f6f6;g7w7;s9x9";
    private static final String FOUR = "bax;jxa;bbc;jxx";

    public static void main(String[] args) {
        newObjects();
        lengthsOfTexts();
        manyCallersAndMen();
        between();
        signsOfCallers();
        signsOfMen();
        faultsOfTexts();
        faultyIsEmpty();
        type();
        wipe();
        undo();
        fault();
        caller();
        man();
        cards();
        cardsForWhom();
        cardsFromThenOn();
        back();
        readWhole();
        readAsLongAsMayBe();
        readBehindThoseThere();
        readRefused();
        callsOfOneObject();
        Edge.end();
    }

    // ---- promise 1

    private static void newObjects() {
        Edge.sentence("No CALLERS, no MEN, no CARDS; all SHEETS are LOST.");
        ButlerWeather x = new ButlerWeather();
        for (int what = 0; what <= 8; what++) {
            Edge.due("count " + what, x.count(what), 0);
        }
        for (int text = 0; text < 2; text++) {
            Edge.due("fault " + text, x.fault(text), Edge.NONE);
            Edge.due("undo " + text, x.undo(text), Edge.NOT);
        }
        Edge.due("caller", x.caller(0, 0), Edge.BAD);
        Edge.due("man", x.man(0, 0), Edge.BAD);
        Edge.due("back", x.back(), Edge.NOT);
        Edge.due("forget", x.forget(), 0);
        for (int day = 0; day < 24; day++) {
            Edge.due("door of " + day, x.door(day, 0), Edge.NONE);
            Edge.due("hats of " + day, x.door(day, 1), 0);
            Edge.due("step of " + day, x.door(day, 2), 0);
            Edge.due("warmth of " + day, x.warmth(day), 0);
        }
        for (int s = 0; s < 4; s++) {
            Edge.due("lose " + s, new ButlerWeather().lose(s), Edge.NULL);
        }
        ButlerWeather used = Edge.full();
        Edge.due("another one is new in spite of a used one", new ButlerWeather().digest(), x.digest());
        Edge.due("and the used one stays", used.count(0), 8);
    }

    // ---- the texts

    private static void lengthsOfTexts() {
        Edge.sentence("CALLERS are a text of up to 39 bytes (text 0)");
        lengthOf(0, 39, 'r');
        Edge.sentence("MEN are a text of up to 15 bytes (text 1)");
        lengthOf(1, 15, 'b');
    }

    private static void lengthOf(int text, int most, int b) {
        ButlerWeather x = new ButlerWeather();
        for (int i = 1; i <= most; i++) {
            Edge.due("type " + i, x.type(text, b), i);
        }
        Edge.due("one too many", x.type(text, b), Edge.FULL);
        Edge.due("bytes", x.count(2 + text), most);
        Edge.due("bytes of the other", x.count(3 - text), 0);
        Edge.due("room in the other", x.type(1 - text, b), 1);
        Edge.due("undo", x.undo(text), most - 1);
        Edge.due("the last one anew", x.type(text, b), most);
        Edge.due("full again", x.type(text, b), Edge.FULL);
    }

    private static void manyCallersAndMen() {
        Edge.sentence("8 at most (0 on), with ; between them: r");
        for (int n = 0; n <= 8; n++) {
            ButlerWeather x = Edge.house(EIGHT.substring(0, Math.max(0, 5 * n - 1)), FOUR);
            Edge.due(n + " callers", x.count(0), n);
            Edge.due("the last of " + n, x.caller(n - 1, 3), n == 0 ? Edge.BAD : n == 8 ? 9 : n);
            Edge.due("none behind " + n, x.caller(n, 3), Edge.BAD);
            Edge.due("none ahead", x.caller(-1, 3), Edge.BAD);
        }
        Edge.sentence("4 at most (0 on), with ; between them: b");
        int[] until = {23, 0, 2, 23};
        for (int n = 0; n <= 4; n++) {
            ButlerWeather x = Edge.house(EIGHT, FOUR.substring(0, Math.max(0, 4 * n - 1)));
            Edge.due(n + " men", x.count(1), n);
            Edge.due("the last of " + n, x.man(n - 1, 2), n == 0 ? Edge.BAD : until[n - 1]);
            Edge.due("none behind " + n, x.man(n, 2), Edge.BAD);
            Edge.due("none ahead", x.man(-1, 2), Edge.BAD);
        }
        Edge.sentence("here also of the first byte of a ninth CALLER, of a fifth of MEN");
        // Eight and four fill the texts: what would begin one more is refused ahead of it.
        ButlerWeather x = Edge.house(EIGHT, FOUR);
        Edge.due("eight are well", x.fault(0), Edge.NONE);
        Edge.due("four are well", x.fault(1), Edge.NONE);
        Edge.due("a ninth", x.type(0, ';'), Edge.FULL);
        Edge.due("a fifth", x.type(1, ';'), Edge.FULL);
        Edge.due("eight are well", x.fault(0), Edge.NONE);
        Edge.due("four are well", x.fault(1), Edge.NONE);
        Edge.due("eight", x.count(0), 8);
        Edge.due("four", x.count(1), 4);
    }

    private static void between() {
        Edge.sentence("with ; between them: r (a rain), f (a frost), g (a gale) or s (a sunshine)");
        for (int b = 0; b < 256; b++) {
            faultBehind(0, "r1a1", b, b == ';' ? 5 : 4);
        }
        Edge.sentence("with ; between them: b (a butler) or j (a junior)");
        for (int b = 0; b < 256; b++) {
            faultBehind(1, "bax", b, b == ';' ? 4 : 3);
        }
    }

    private static void faultBehind(int text, String ahead, int b, int want) {
        ButlerWeather x = new ButlerWeather();
        Edge.typeAll(x, text, ahead);
        x.type(text, b);
        Edge.due("fault of " + ahead + " and byte " + b, x.fault(text), want);
    }

    private static void signsOfCallers() {
        Edge.sentence("r (a rain), f (a frost), g (a gale) or s (a sunshine)");
        for (int b = 0; b < 256; b++) {
            int sort = "rfgs".indexOf(b);
            faultBehind(0, "", b, sort < 0 ? 0 : 1);
            valueOf("", b, "1a1", 0, sort < 0 ? Edge.BAD : sort);
        }
        Edge.sentence("a figure 1 to 9, its PATIENCE");
        for (int b = 0; b < 256; b++) {
            boolean figure = b >= 49 && b <= 57;
            faultBehind(0, "r", b, figure ? 2 : 1);
            valueOf("r", b, "a1", 1, figure ? b - 48 : Edge.BAD);
        }
        Edge.sentence("a letter a to x, the DAY on which it calls (0 to 23)");
        for (int b = 0; b < 256; b++) {
            boolean letter = b >= 97 && b <= 120;
            faultBehind(0, "r1", b, letter ? 3 : 2);
            valueOf("r1", b, "1", 2, letter ? b - 97 : Edge.BAD);
        }
        Edge.sentence("and a figure 1 to 9, its FORCE");
        for (int b = 0; b < 256; b++) {
            boolean figure = b >= 49 && b <= 57;
            faultBehind(0, "r1a", b, figure ? Edge.NONE : 3);
            valueOf("r1a", b, "", 3, figure ? b - 48 : Edge.BAD);
        }
    }

    private static void valueOf(String ahead, int b, String behind, int what, int want) {
        ButlerWeather x = new ButlerWeather();
        Edge.typeAll(x, 0, ahead);
        x.type(0, b);
        Edge.typeAll(x, 0, behind);
        Edge.due(what + " of " + ahead + ", byte " + b + ", " + behind, x.caller(0, what), want);
    }

    private static void signsOfMen() {
        Edge.sentence("b (a butler) or j (a junior), and two letters a to x");
        for (int b = 0; b < 256; b++) {
            faultBehind(1, "", b, b == 'b' || b == 'j' ? 1 : 0);
            boolean letter = b >= 97 && b <= 120;
            faultBehind(1, "b", b, letter ? 2 : 1);
            faultBehind(1, "ja", b, letter ? Edge.NONE : 2);
        }
        ButlerWeather x = Edge.house("", "bax;jxa");
        int[][] due = {{0, 0, 23}, {1, 23, 0}};
        for (int m = 0; m < 2; m++) {
            for (int what = 0; what < 3; what++) {
                Edge.due("man " + m + " " + what, x.man(m, what), due[m][what]);
            }
        }
    }

    private static void faultsOfTexts() {
        Edge.sentence("the place of the first byte with which it cannot go on");
        // A wrong byte at each place, and then another: the first is told, whatever comes behind.
        for (int at = 0; at < 39; at++) {
            ButlerWeather x = Edge.house(EIGHT.substring(0, at) + "?" + EIGHT.substring(at + 1), "");
            Edge.due("wrong at " + at, x.fault(0), at);
            x = Edge.house(EIGHT.substring(0, at) + "!".repeat(39 - at), "");
            Edge.due("wrong from " + at, x.fault(0), at);
        }
        for (int at = 0; at < 15; at++) {
            ButlerWeather x = Edge.house("", FOUR.substring(0, at) + "?" + FOUR.substring(at + 1));
            Edge.due("wrong at " + at, x.fault(1), at);
        }
        Edge.sentence("(an empty one is well; of one that is not ended, its end)");
        Edge.due("empty", new ButlerWeather().fault(0), Edge.NONE);
        Edge.due("empty", new ButlerWeather().fault(1), Edge.NONE);
        for (int n = 1; n <= 39; n++) {
            Edge.due("head of " + n, Edge.house(EIGHT.substring(0, n), "").fault(0), n % 5 == 4 ? Edge.NONE : n);
        }
        for (int n = 1; n <= 15; n++) {
            Edge.due("head of " + n, Edge.house("", FOUR.substring(0, n)).fault(1), n % 4 == 3 ? Edge.NONE : n);
        }
    }

    private static void faultyIsEmpty() {
        Edge.sentence("With a FAULT a text is as if it was empty.");
        ButlerWeather x = Edge.house("g1a9;r1a9;", "bax", 0, 1);
        ButlerWeather without = Edge.house("", "bax", 0, 1);
        sameDays("callers with a fault", x, without);
        Edge.due("none", x.count(0), 0);
        Edge.due("its bytes are there", x.count(2), 10);
        Edge.due("men are there", x.count(1), 1);
        Edge.due("cards are there", x.count(4), 1);
        x.undo(0);
        Edge.due("well again", x.count(0), 2);
        Edge.due("and in", x.stands(0, 1), 2);
        x.type(1, ';');
        without = Edge.house("g1a9;r1a9", "", 0, 1);
        sameDays("men with a fault", x, without);
        Edge.due("no man", x.man(0, 0), Edge.BAD);
        Edge.due("no man", x.begin(0, 0), Edge.BAD);
        Edge.due("callers are there", x.count(0), 2);
        Edge.due("and the rain is not in", x.stands(0, 1), 4);
        Edge.due("its bytes are there", x.count(3), 4);
    }

    private static void sameDays(String call, ButlerWeather x, ButlerWeather y) {
        for (int day = 0; day < 24; day++) {
            for (int what = 0; what < 3; what++) {
                Edge.due(call + ": door " + day + " " + what, x.door(day, what), y.door(day, what));
            }
            Edge.due(call + ": warmth " + day, x.warmth(day), y.warmth(day));
            Edge.due(call + ": leave " + day, x.leave(day, 0), y.leave(day, 0));
        }
        for (int c = 0; c < 3; c++) {
            Edge.due(call + ": caller " + c, x.caller(c, 0), y.caller(c, 0));
            Edge.due(call + ": stands " + c, x.stands(5, c), y.stands(5, c));
            Edge.due(call + ": name " + c, x.name(c), y.name(c));
            Edge.due(call + ": patience " + c, x.patience(c), y.patience(c));
            Edge.due(call + ": was " + c, x.was(c, 0), y.was(c, 0));
            Edge.due(call + ": ask " + c, x.ask(c), y.ask(c));
            Edge.due(call + ": chance " + c, x.chance(5, c, 0), y.chance(5, c, 0));
        }
        Edge.due(call + ": sum", x.sum(), y.sum());
        Edge.due(call + ": sent", x.sent(), y.sent());
        Edge.due(call + ": first", x.first(0), y.first(0));
        Edge.due(call + ": years", x.years(7, 8, 1), y.years(7, 8, 1));
        Edge.due(call + ": ever in", x.count(5), y.count(5));
    }

    // ---- promises 2 to 7

    private static void type() {
        Edge.sentence("A byte (0 to 255) comes behind a text: how many. BAD; FULL.");
        ButlerWeather x = new ButlerWeather();
        Edge.due("the least byte", x.type(0, 0), 1);
        Edge.due("the greatest byte", x.type(0, 255), 2);
        Edge.due("the least byte", x.type(1, 0), 1);
        Edge.due("the greatest byte", x.type(1, 255), 2);
        for (int b : Edge.outside(0, 255)) {
            Edge.refusedInAll("type(0, " + b + ")", y -> y.type(0, b), Edge.BAD);
            Edge.refusedInAll("type(1, " + b + ")", y -> y.type(1, b), Edge.BAD);
        }
        // 370 is 114, an r, and 256 more.
        Edge.refusedInAll("type(0, 370)", y -> y.type(0, 370), Edge.BAD);
        for (int text : Edge.outside(0, 1)) {
            Edge.refusedInAll("type(" + text + ", r)", y -> y.type(text, 'r'), Edge.BAD);
        }
        Edge.refused("full of callers", Edge::full, y -> y.type(0, ';'), Edge.FULL);
        Edge.refused("full of men", Edge::full, y -> y.type(1, ';'), Edge.FULL);
    }

    private static void wipe() {
        Edge.sentence("A text is empty: how many bytes it had. BAD.");
        ButlerWeather x = Edge.full();
        Edge.due("wipe the full one", x.wipe(0), 39);
        Edge.due("no bytes", x.count(2), 0);
        Edge.due("no callers", x.count(0), 0);
        Edge.due("well", x.fault(0), Edge.NONE);
        Edge.due("men are there", x.count(1), 4);
        Edge.due("cards are there", x.count(4), 8);
        Edge.due("wipe the empty one", x.wipe(0), 0);
        Edge.due("wipe the full one", x.wipe(1), 15);
        Edge.due("no men", x.count(1), 0);
        Edge.due("wipe the empty one", x.wipe(1), 0);
        Edge.due("wipe a faulty one", Edge.faulty().wipe(0), 5);
        Edge.due("typed anew from its beginning", x.type(0, 's'), 1);
        for (int text : Edge.outside(0, 1)) {
            Edge.refusedInAll("wipe(" + text + ")", y -> y.wipe(text), Edge.BAD);
        }
    }

    private static void undo() {
        Edge.sentence("The last byte of a text is undone: how many are left. BAD; NOT: it is empty.");
        ButlerWeather x = Edge.full();
        for (int left = 38; left >= 0; left--) {
            Edge.due("undo", x.undo(0), left);
            Edge.due("fault with " + left, x.fault(0), left == 0 || left % 5 == 4 ? Edge.NONE : left);
        }
        Edge.due("undo of none", x.undo(0), Edge.NOT);
        Edge.due("men are there", x.count(3), 15);
        for (int left = 14; left >= 0; left--) {
            Edge.due("undo", x.undo(1), left);
        }
        Edge.due("undo of none", x.undo(1), Edge.NOT);
        Edge.refused("undo(0)", ButlerWeather::new, y -> y.undo(0), Edge.NOT);
        Edge.refused("undo(1)", ButlerWeather::new, y -> y.undo(1), Edge.NOT);
        for (int text : Edge.outside(0, 1)) {
            Edge.refusedInAll("undo(" + text + ")", y -> y.undo(text), Edge.BAD);
        }
    }

    private static void fault() {
        Edge.sentence("The FAULT of a text; NONE. BAD.");
        Edge.due("well", Edge.full().fault(0), Edge.NONE);
        Edge.due("well", Edge.full().fault(1), Edge.NONE);
        Edge.due("fault", Edge.faulty().fault(0), 5);
        Edge.due("fault", Edge.faulty().fault(1), 2);
        for (int text : Edge.outside(0, 1)) {
            Edge.refusedInAll("fault(" + text + ")", y -> y.fault(text), Edge.BAD);
        }
    }

    private static void caller() {
        Edge.sentence("Its sort (what = 0: 0 r, 1 f, 2 g, 3 s), PATIENCE (1), DAY (2), FORCE (3). BAD.");
        ButlerWeather x = Edge.house(EIGHT, "");
        int[][] due = {{0, 1, 0, 1}, {1, 2, 1, 2}, {2, 3, 2, 3}, {3, 4, 3, 4},
            {0, 5, 4, 5}, {1, 6, 5, 6}, {2, 7, 22, 7}, {3, 9, 23, 9}};
        for (int c = 0; c < 8; c++) {
            for (int what = 0; what < 4; what++) {
                Edge.due("caller " + c + " " + what, x.caller(c, what), due[c][what]);
            }
        }
        for (int what = 0; what < 4; what++) {
            int asked = what;
            for (int c : Edge.outside(0, 7)) {
                Edge.refusedInAll("caller(" + c + ", " + what + ")", y -> y.caller(c, asked), Edge.BAD);
            }
            Edge.refused("behind the last", Edge::some, y -> y.caller(3, asked), Edge.BAD);
            Edge.refused("of none", ButlerWeather::new, y -> y.caller(0, asked), Edge.BAD);
            Edge.refused("with a fault", Edge::faulty, y -> y.caller(0, asked), Edge.BAD);
        }
        for (int what : Edge.outside(0, 3)) {
            Edge.refusedInAll("caller(0, " + what + ")", y -> y.caller(0, what), Edge.BAD);
        }
    }

    private static void man() {
        Edge.sentence("His sort (what = 0: 0 b, 1 j), from which DAY (1), until which one (2) he is on duty. BAD.");
        ButlerWeather x = Edge.house("", FOUR);
        int[][] due = {{0, 0, 23}, {1, 23, 0}, {0, 1, 2}, {1, 23, 23}};
        for (int m = 0; m < 4; m++) {
            for (int what = 0; what < 3; what++) {
                Edge.due("man " + m + " " + what, x.man(m, what), due[m][what]);
            }
        }
        for (int what = 0; what < 3; what++) {
            int asked = what;
            for (int m : Edge.outside(0, 3)) {
                Edge.refusedInAll("man(" + m + ", " + what + ")", y -> y.man(m, asked), Edge.BAD);
            }
            Edge.refused("behind the last", Edge::some, y -> y.man(2, asked), Edge.BAD);
            Edge.refused("of none", ButlerWeather::new, y -> y.man(0, asked), Edge.BAD);
            Edge.refused("with a fault", Edge::faulty, y -> y.man(0, asked), Edge.BAD);
        }
        for (int what : Edge.outside(0, 2)) {
            Edge.refusedInAll("man(0, " + what + ")", y -> y.man(0, what), Edge.BAD);
        }
    }

    // ---- promises 8 to 10

    private static void cards() {
        Edge.sentence("CARDS, 8 at most (0 on)");
        ButlerWeather x = new ButlerWeather();
        for (int i = 1; i <= 8; i++) {
            Edge.due("card " + i, x.card(23, 7), i);
            Edge.due("cards", x.count(4), i);
        }
        Edge.due("a ninth", x.card(0, 0), Edge.FULL);
        Edge.due("cards", x.count(4), 8);
        Edge.due("one back", x.back(), 7);
        Edge.due("room for one", x.card(0, 0), 8);
        Edge.sentence("A CARD more: how many. BAD; FULL.");
        for (int day : Edge.outside(0, 23)) {
            Edge.refusedInAll("card(" + day + ", 0)", y -> y.card(day, 0), Edge.BAD);
        }
        for (int c : Edge.outside(0, 7)) {
            Edge.refusedInAll("card(0, " + c + ")", y -> y.card(0, c), Edge.BAD);
        }
        Edge.refused("a ninth", Edge::full, y -> y.card(0, 0), Edge.FULL);
        Edge.refused("a ninth", Edge::full, y -> y.card(23, 7), Edge.FULL);
    }

    private static void cardsForWhom() {
        Edge.sentence("on a DAY for a CALLER (0 to 7)");
        for (int c = 0; c < 8; c++) {
            Edge.due("card for " + c + " of none", new ButlerWeather().card(0, c), 1);
            Edge.due("card for " + c + " of three", Edge.some().card(23, c), 3);
        }
        Edge.due("card for an eighth", new ButlerWeather().card(0, 8), Edge.BAD);
        Edge.due("card for less than none", new ButlerWeather().card(0, -1), Edge.BAD);
        ButlerWeather x = Edge.house("r9a1;r9a1", "bax", 0, 2, 0, 7);
        Edge.due("a card for one that is not there lets none in", x.count(5), 0);
        Edge.typeAll(x, 0, ";r9a1");
        Edge.due("it has it when it is there", x.stands(0, 2), 2);
        Edge.due("it alone", x.count(5), 1);
    }

    private static void cardsFromThenOn() {
        Edge.sentence("which has one from then on");
        for (int day = 0; day <= 8; day++) {
            ButlerWeather x = Edge.house("r9a9", "bax", day, 0);
            Edge.due("in on " + day, x.first(0), day);
            Edge.due("ahead of it", day == 0 ? 0 : x.stands(day - 1, 0), day == 0 ? 0 : 1);
        }
        Edge.due("a day too late", Edge.house("r9a9", "bax", 9, 0).first(0), Edge.NONE);
        Edge.due("long ahead", Edge.house("r9x9", "bax", 0, 0).first(0), 23);
        Edge.due("on the last day", Edge.house("r9x9", "bax", 23, 0).first(0), 23);
        Edge.due("the earlier of two", Edge.house("r9a9", "bax", 7, 0, 3, 0).first(0), 3);
        Edge.due("the earlier of two", Edge.house("r9a9", "bax", 3, 0, 7, 0).first(0), 3);
        ButlerWeather x = Edge.house("r9a9", "bax", 7, 0, 3, 0);
        x.back();
        Edge.due("the other one is left", x.first(0), 7);
    }

    private static void back() {
        Edge.sentence("The last CARD is undone: how many are left. NOT: there is none.");
        ButlerWeather x = Edge.house("r9a9", "bax", 0, 0, 8, 1, 5, 0, 2, 0, 1, 1, 7, 7, 6, 6, 0, 0);
        int[] in = {0, 0, 0, 0, 0, 0, 0, Edge.NONE};
        for (int left = 7; left >= 0; left--) {
            Edge.due("back", x.back(), left);
            Edge.due("first with " + left, x.first(0), in[7 - left]);
        }
        Edge.due("back of none", x.back(), Edge.NOT);
        x = Edge.house("r9a9", "bax", 8, 0, 5, 0, 2, 0);
        int[] then = {5, 8, Edge.NONE};
        for (int left = 2; left >= 0; left--) {
            Edge.due("back", x.back(), left);
            Edge.due("first with " + left, x.first(0), then[2 - left]);
        }
        Edge.refused("back()", ButlerWeather::new, ButlerWeather::back, Edge.NOT);
        Edge.refused("back()", () -> Edge.house("r9a9", "bax"), ButlerWeather::back, Edge.NOT);
    }

    private static ButlerWeather sheetOf(ButlerWeather x, int form, int... items) {
        x.sheet(3, form, items.length);
        for (int i = 0; i < items.length; i++) {
            x.put(3, form, i, items[i]);
        }
        return x;
    }

    private static void readWhole() {
        Edge.sentence("its items, two for each, as many as are whole");
        for (int form = 0; form < 3; form++) {
            for (int n = 0; n <= 16; n++) {
                ButlerWeather x = sheetOf(new ButlerWeather(), form, new int[n]);
                Edge.due("read of " + n, x.read(3), n / 2);
                Edge.due("cards of " + n, x.count(4), n / 2);
            }
        }
        Edge.due("day, then caller", sheetOf(Edge.house("r9a9;f9a9", "bax"), 2, 3, 1, 5).read(3), 1);
        ButlerWeather x = sheetOf(Edge.house("r9a9;f9a9", "bax"), 2, 3, 1, 5);
        x.read(3);
        Edge.due("on day 3", x.first(0), 3);
        Edge.due("for caller 1", x.first(1), 1);
        Edge.due("the sheet stays", x.lose(3), 3);
    }

    private static void readAsLongAsMayBe() {
        Edge.sentence("as long as each may be: how many");
        int[][] wrong = {{24, 0}, {-1, 0}, {0, 8}, {0, -1}};
        for (int form = 0; form < 3; form++) {
            for (int[] w : wrong) {
                for (int ahead = 0; ahead < 4; ahead++) {
                    int[] items = new int[10];
                    items[2 * ahead] = w[0];
                    items[2 * ahead + 1] = w[1];
                    ButlerWeather x = sheetOf(new ButlerWeather(), form, items);
                    Edge.due("read up to a wrong one", x.read(3), ahead);
                    Edge.due("cards", x.count(4), ahead);
                }
            }
        }
        Edge.due("the greatest that may be", sheetOf(new ButlerWeather(), 0, 23, 7, 0, 0).read(3), 2);
        // 256 is 0 in a byte, 65536 in a short.
        Edge.due("256 as a byte", sheetOf(new ButlerWeather(), 0, 256, 256).read(3), 1);
        Edge.due("256 as a short", sheetOf(new ButlerWeather(), 1, 256, 0).read(3), 0);
        Edge.due("65536 as an int", sheetOf(new ButlerWeather(), 2, 0, 65536).read(3), 0);
        Edge.due("eight of thirty", sheetOf(new ButlerWeather(), 2, new int[60]).read(3), 8);
        Edge.due("eight of nine", sheetOf(new ButlerWeather(), 2, new int[18]).read(3), 8);
    }

    private static void readBehindThoseThere() {
        Edge.sentence("CARDS from a SHEET");
        for (int there = 0; there <= 8; there++) {
            ButlerWeather x = new ButlerWeather();
            for (int i = 0; i < there; i++) {
                x.card(i, i);
            }
            sheetOf(x, 1, 5, 5, 6, 6, 7, 7);
            Edge.due("read behind " + there, x.read(3), Math.min(3, 8 - there));
            Edge.due("cards", x.count(4), Math.min(8, there + 3));
        }
        ButlerWeather x = sheetOf(Edge.house("r9a9;f9a9", "bax", 4, 0), 1, 2, 1);
        Edge.due("one comes", x.read(3), 1);
        Edge.due("it counts", x.stands(2, 1), 2);
        Edge.due("so does the one that was there", x.stands(4, 0), 2);
        Edge.due("the one that came is the last", x.back(), 1);
        Edge.due("the other one is left", x.first(1), 0);
    }

    private static void readRefused() {
        Edge.sentence("as long as each may be: how many. BAD; NULL.");
        for (int s : Edge.outside(0, 3)) {
            Edge.refusedInAll("read(" + s + ")", y -> y.read(s), Edge.BAD);
        }
        Edge.refusedInAll("read(3)", y -> y.read(3), Edge.NULL);
        Edge.refused("read(0)", ButlerWeather::new, y -> y.read(0), Edge.NULL);
        Edge.due("an empty one is not lost", sheetOf(new ButlerWeather(), 0).read(3), 0);
    }

    // ---- what it is

    private static void callsOfOneObject() {
        Edge.sentence("An object is used for at most 512 calls after it has been made");
        ButlerWeather x = Edge.full();
        int calls = 85;
        long first = x.digest();
        for (calls++; calls < 511; calls++) {
            x.years(calls, calls % 9, calls % 2);
        }
        Edge.due("the 512th", x.digest(), first);
    }
}

import java.math.BigInteger;
import java.util.ArrayList;
import java.util.List;
import java.util.function.ToLongFunction;

/** Promises 31 to 38, the terms of sheets, findings and refusals: each sentence that names an edge, by itself. */
public final class EdgesOfSheetsTest {
    public static void main(String[] args) {
        sheetsAreLostAtFirst();
        itemsAreNoughtAtFirst();
        sheetRefused();
        lose();
        putLowestBits();
        putRefused();
        get();
        copyAsTheyWere();
        copyItems();
        copyRefused();
        copyIndex();
        write();
        writeRefused();
        findings();
        refusalsInOrder();
        refusalsOfLeastInt();
        refusalsChangeNothing();
        counts();
        countEverInAndSent();
        countLatestFinding();
        countRefused();
        digestOfAll();
        digestOfDays();
        digestThatWraps();
        askedBetween();
        Edge.end();
    }

    // ---- promise 31

    private static void sheetsAreLostAtFirst() {
        Edge.sentence("SHEETS 0 .. 3 are LOST (at first) or a row of a FORM: 0 bytes, 1 shorts, 2 ints, of 0 to 60 items");
        for (int s = 0; s < 4; s++) {
            ButlerWeather x = new ButlerWeather();
            Edge.due("lost: read", x.read(s), Edge.NULL);
            Edge.due("lost: write", x.write(s), Edge.NULL);
            Edge.due("lost: put", x.put(s, 0, 0, 0), Edge.NULL);
            Edge.due("lost: get", x.get(s, 0, 0), Edge.LEAST);
            Edge.due("lost: copy", x.copy(s, 0, s, 0, 0), Edge.NULL);
            Edge.due("lost: lose", x.lose(s), Edge.NULL);
            for (int form = 0; form < 3; form++) {
                for (int n : new int[] {0, 1, 59, 60}) {
                    Edge.due("sheet", x.sheet(s, form, n), n);
                    for (int other = 0; other < 3; other++) {
                        Edge.due("the last item as of " + other, x.put(s, other, n - 1, 1),
                                other != form ? Edge.CAST : n == 0 ? Edge.INDEX : 1);
                    }
                    Edge.due("behind the last", x.put(s, form, n, 1), Edge.INDEX);
                    Edge.due("it had", x.lose(s), n);
                }
            }
            for (int other = 0; other < 4; other++) {
                Edge.due("the others are lost", x.lose(other), Edge.NULL);
            }
        }
    }

    private static void itemsAreNoughtAtFirst() {
        Edge.sentence("of 0 to 60 items (0 at first)");
        for (int form = 0; form < 3; form++) {
            ButlerWeather x = new ButlerWeather();
            x.sheet(0, form, 60);
            for (int i = 0; i < 60; i++) {
                Edge.due("item " + i, x.get(0, form, i), 0);
                x.put(0, form, i, -1);
            }
            x.sheet(0, form, 60);
            for (int i = 0; i < 60; i++) {
                Edge.due("item " + i + " of a new one", x.get(0, form, i), 0);
                x.put(0, form, i, -1);
            }
            // A shorter one, then a longer one: what was behind the shorter one's end is gone.
            x.sheet(0, form, 1);
            x.sheet(0, form, 60);
            for (int i = 0; i < 60; i++) {
                Edge.due("item " + i + " of a longer one", x.get(0, form, i), 0);
            }
        }
    }

    private static void sheetRefused() {
        Edge.sentence("A SHEET is a new row of a FORM with n items: n. BAD: SHEET, FORM, above 60; SIZE.");
        for (int s : Edge.outside(0, 3)) {
            Edge.refusedInAll("sheet(" + s + ", 0, 1)", x -> x.sheet(s, 0, 1), Edge.BAD);
            Edge.refusedInAll("sheet(" + s + ", 0, -1)", x -> x.sheet(s, 0, -1), Edge.BAD);
        }
        for (int form : Edge.outside(0, 2)) {
            Edge.refusedInAll("sheet(0, " + form + ", 1)", x -> x.sheet(0, form, 1), Edge.BAD);
            Edge.refusedInAll("sheet(0, " + form + ", -1)", x -> x.sheet(0, form, -1), Edge.BAD);
        }
        for (int n : new int[] {61, 256, 65536, Edge.MOST}) {
            Edge.refusedInAll("sheet(0, 0, " + n + ")", x -> x.sheet(0, 0, n), Edge.BAD);
        }
        for (int n : new int[] {-1, -60, -256, Edge.LEAST}) {
            Edge.refusedInAll("sheet(0, 0, " + n + ")", x -> x.sheet(0, 0, n), Edge.SIZE);
            Edge.refusedInAll("sheet(3, 2, " + n + ")", x -> x.sheet(3, 2, n), Edge.SIZE);
        }
        ButlerWeather x = Edge.some();
        Edge.due("another form in place of the one there", x.sheet(0, 2, 3), 3);
        Edge.due("it has the new form", x.put(0, 0, 0, 1), Edge.CAST);
        Edge.due("it has the new form", x.put(0, 2, 2, 1), 1);
        Edge.due("none in place of four", x.sheet(0, 2, 0), 0);
        Edge.due("empty, not lost", x.lose(0), 0);
    }

    // ---- promise 32

    private static void lose() {
        Edge.sentence("It is LOST: how many items it had. BAD; NULL.");
        for (int s = 0; s < 4; s++) {
            ButlerWeather x = Edge.some();
            x.sheet(3, 0, 60);
            Edge.due("it had", x.lose(s), s == 3 ? 60 : 4);
            Edge.due("again", x.lose(s), Edge.NULL);
            Edge.due("it is lost", x.put(s, s % 3, 0, 0), Edge.NULL);
            for (int other = 0; other < 4; other++) {
                Edge.due("the others are there", x.lose(other), other == s ? Edge.NULL : other == 3 ? 60 : 4);
            }
        }
        for (int s : Edge.outside(0, 3)) {
            Edge.refusedInAll("lose(" + s + ")", x -> x.lose(s), Edge.BAD);
        }
        Edge.refusedInAll("lose(3)", x -> x.lose(3), Edge.NULL);
    }

    // ---- promises 33, 34

    private static void putLowestBits() {
        Edge.sentence("Item i, treated as of a FORM, becomes v (the lowest bits that it has): 1.");
        int[] values = {0, 1, -1, 127, 128, -128, -129, 255, 256, 32767, 32768, -32768, -32769, 65535, 65536,
            Edge.MOST, Edge.LEAST, 0x12345678};
        int[] asBytes = {0, 1, -1, 127, -128, -128, 127, -1, 0, -1, 0, 0, -1, -1, 0, -1, 0, 0x78};
        int[] asShorts = {0, 1, -1, 127, 128, -128, -129, 255, 256, 32767, -32768, -32768, 32767, -1, 0, -1, 0, 0x5678};
        int[][] due = {asBytes, asShorts, values};
        for (int form = 0; form < 3; form++) {
            ButlerWeather x = new ButlerWeather();
            x.sheet(2, form, 3);
            for (int v = 0; v < values.length; v++) {
                Edge.due("put " + values[v], x.put(2, form, 1, values[v]), 1);
                Edge.due("get " + values[v], x.get(2, form, 1), due[form][v]);
                Edge.due("the one ahead", x.get(2, form, 0), 0);
                Edge.due("the one behind", x.get(2, form, 2), 0);
            }
        }
    }

    private static void putRefused() {
        Edge.sentence("becomes v (the lowest bits that it has): 1. BAD; NULL; CAST; INDEX.");
        for (int s : Edge.outside(0, 3)) {
            Edge.refusedInAll("put(" + s + ", 0, 0, 9)", x -> x.put(s, 0, 0, 9), Edge.BAD);
        }
        for (int form : Edge.outside(0, 2)) {
            Edge.refusedInAll("put(0, " + form + ", 0, 9)", x -> x.put(0, form, 0, 9), Edge.BAD);
            Edge.refusedInAll("of a lost one: put(3, " + form + ", 0, 9)", x -> x.put(3, form, 0, 9), Edge.BAD);
        }
        for (int form = 0; form < 3; form++) {
            int asked = form;
            Edge.refusedInAll("put(3, " + form + ", 0, 9)", x -> x.put(3, asked, 0, 9), Edge.NULL);
            Edge.refusedInAll("put(3, " + form + ", -1, 9)", x -> x.put(3, asked, -1, 9), Edge.NULL);
            int other = (form + 1) % 3;
            Edge.refused("put as of another", Edge::some, x -> x.put(asked, other, 0, 9), Edge.CAST);
            Edge.refused("put as of another, no such item", Edge::some, x -> x.put(asked, other, 4, 9), Edge.CAST);
            Edge.refused("put as of another, no such item", Edge::some, x -> x.put(asked, other, -1, 9), Edge.CAST);
            for (int i : Edge.outside(0, 3)) {
                Edge.refused("put item " + i, Edge::full, x -> x.put(asked, asked, i, 9), Edge.INDEX);
            }
        }
        Edge.due("the first item", Edge.some().put(0, 0, 0, 9), 1);
        Edge.due("the last item", Edge.some().put(0, 0, 3, 9), 1);
    }

    private static void gets(String call, int s, int form, int i, int finding) {
        ButlerWeather x = Edge.some();
        ButlerWeather twin = Edge.some();
        Edge.due(call, x.get(s, form, i), Edge.LEAST);
        Edge.due(call + ": count(8)", x.count(8), finding);
        Edge.alike(call, x, twin);
    }

    private static void get() {
        Edge.sentence("Item i of it. BAD: the least int; so are NULL, CAST, INDEX (count() 8 tells).");
        // The latest finding of this one is 4, and stays so where it is BAD.
        for (int s : Edge.outside(0, 3)) {
            gets("no such sheet", s, 0, 0, 4);
        }
        for (int form : Edge.outside(0, 2)) {
            gets("no such form", 0, form, 0, 4);
            gets("no such form of a lost one", 3, form, 0, 4);
        }
        for (int form = 0; form < 3; form++) {
            gets("lost", 3, form, 0, 1);
            gets("lost, no such item", 3, form, -1, 1);
            gets("another form", form, (form + 1) % 3, 0, 3);
            gets("another form, no such item", form, (form + 2) % 3, 4, 3);
            for (int i : Edge.outside(0, 3)) {
                gets("no such item", form, form, i, 2);
            }
        }
        ButlerWeather x = Edge.some();
        Edge.due("the first", x.get(2, 2, 0), 5);
        Edge.due("the last", x.get(2, 2, 3), -7);
        x.put(2, 2, 0, Edge.LEAST);
        Edge.due("the least int itself", x.get(2, 2, 0), Edge.LEAST);
        Edge.due("is no finding", x.count(8), 4);
    }

    // ---- promise 35

    private static ButlerWeather counted(int form, int n) {
        ButlerWeather x = new ButlerWeather();
        x.sheet(0, form, n);
        for (int i = 0; i < n; i++) {
            x.put(0, form, i, i + 1);
        }
        return x;
    }

    private static void copyAsTheyWere() {
        Edge.sentence("n items of SHEET s, from i on, come to SHEET t (perhaps s, as they were), from j on: 1.");
        for (int form = 0; form < 3; form++) {
            for (int i = 0; i <= 5; i++) {
                for (int j = 0; j <= 5; j++) {
                    for (int n = 0; n <= 5 - Math.max(i, j); n++) {
                        ButlerWeather x = counted(form, 5);
                        Edge.due("copy " + n + " from " + i + " to " + j, x.copy(0, i, 0, j, n), 1);
                        for (int k = 0; k < 5; k++) {
                            Edge.due("item " + k, x.get(0, form, k), k >= j && k < j + n ? k - j + i + 1 : k + 1);
                        }
                    }
                }
            }
        }
    }

    private static void copyItems() {
        Edge.sentence("n items of SHEET s, from i on, come to SHEET t");
        for (int form = 0; form < 3; form++) {
            ButlerWeather x = counted(form, 60);
            x.sheet(3, form, 60);
            Edge.due("all sixty", x.copy(0, 0, 3, 0, 60), 1);
            for (int i = 0; i < 60; i++) {
                Edge.due("item " + i, x.get(3, form, i), i + 1);
                Edge.due("item " + i + " stays", x.get(0, form, i), i + 1);
            }
            x.sheet(1, form, 2);
            Edge.due("the last to the last", x.copy(0, 59, 1, 1, 1), 1);
            Edge.due("the first stays", x.get(1, form, 0), 0);
            Edge.due("the last", x.get(1, form, 1), 60);
            x.put(0, form, 59, 9);
            Edge.due("a copy is by itself", x.get(1, form, 1), 60);
            Edge.due("none from the end to the end", x.copy(0, 60, 1, 2, 0), 1);
            x.sheet(2, form, 0);
            Edge.due("none of none", x.copy(2, 0, 2, 0, 0), 1);
            Edge.due("none of none", x.copy(2, 0, 0, 60, 0), 1);
        }
    }

    private static void copyRefused() {
        Edge.sentence("BAD: the SHEETS; NULL: s, t; STORE; INDEX: below 0, not so many.");
        for (int s : Edge.outside(0, 3)) {
            Edge.refusedInAll("copy(" + s + ", 0, 0, 0, 0)", x -> x.copy(s, 0, 0, 0, 0), Edge.BAD);
            Edge.refusedInAll("copy(0, 0, " + s + ", 0, 0)", x -> x.copy(0, 0, s, 0, 0), Edge.BAD);
            Edge.refusedInAll("copy(" + s + ", -1, 3, 0, 0)", x -> x.copy(s, -1, 3, 0, 0), Edge.BAD);
            Edge.refusedInAll("copy(3, -1, " + s + ", 0, 0)", x -> x.copy(3, -1, s, 0, 0), Edge.BAD);
        }
        for (int s = 0; s < 3; s++) {
            int other = s;
            Edge.refusedInAll("copy(3, 0, " + s + ", 0, 0)", x -> x.copy(3, 0, other, 0, 0), Edge.NULL);
            Edge.refusedInAll("copy(" + s + ", 0, 3, 0, 0)", x -> x.copy(other, 0, 3, 0, 0), Edge.NULL);
            Edge.refusedInAll("copy(3, -1, " + s + ", 0, 99)", x -> x.copy(3, -1, other, 0, 99), Edge.NULL);
            Edge.refusedInAll("copy(" + s + ", 99, 3, 0, -1)", x -> x.copy(other, 99, 3, 0, -1), Edge.NULL);
            int next = (s + 1) % 3;
            Edge.refused("unlike forms", Edge::some, x -> x.copy(other, 0, next, 0, 1), Edge.STORE);
            Edge.refused("unlike forms", Edge::full, x -> x.copy(next, 0, other, 0, 0), Edge.STORE);
            Edge.refused("unlike forms, below 0", Edge::some, x -> x.copy(other, -1, next, 0, 1), Edge.STORE);
            Edge.refused("unlike forms, not so many", Edge::full, x -> x.copy(other, 0, next, 0, 5), Edge.STORE);
        }
        Edge.refusedInAll("copy(3, 0, 3, 0, 0)", x -> x.copy(3, 0, 3, 0, 0), Edge.NULL);
    }

    private static void copyIndex() {
        Edge.sentence("INDEX: below 0, not so many.");
        int max = Edge.MOST;
        int least = Edge.LEAST;
        int[][] off = {{-1, 0, 1}, {-1, 0, 0}, {0, -1, 1}, {0, -1, 0}, {0, 0, -1}, {2, 2, -1}, {4, 4, -1},
            {0, 0, 5}, {1, 0, 4}, {0, 1, 4}, {4, 0, 1}, {0, 4, 1}, {5, 0, 0}, {0, 5, 0}, {3, 3, 2},
            {max, 0, 1}, {0, max, 1}, {0, 0, max}, {max, 0, max}, {1, 1, max}, {0, max, max}, {max, max, max},
            {least, 0, 1}, {0, least, 1}, {0, 0, least}, {least, 0, max}, {max, max, least}, {least, least, least},
            {5, 0, -1}, {max, 0, 2}, {max, 0, least}};
        for (int[] o : off) {
            for (int s = 0; s < 3; s++) {
                int same = s;
                Edge.refused("copy " + o[2] + " from " + o[0] + " to " + o[1], Edge::some,
                        x -> x.copy(same, o[0], same, o[1], o[2]), Edge.INDEX);
            }
        }
        Edge.refused("not so many there", EdgesOfSheetsTest::shortAndLong, x -> x.copy(0, 0, 1, 0, 3), Edge.INDEX);
        Edge.refused("not so many here", EdgesOfSheetsTest::shortAndLong, x -> x.copy(1, 0, 0, 0, 3), Edge.INDEX);
        Edge.due("so many", shortAndLong().copy(0, 2, 1, 0, 2), 1);
        Edge.due("so many", shortAndLong().copy(1, 0, 0, 2, 2), 1);
    }

    private static ButlerWeather shortAndLong() {
        ButlerWeather x = counted(2, 4);
        x.sheet(1, 2, 2);
        return x;
    }

    // ---- promise 36

    private static void write() {
        Edge.sentence("WARMTH of DAYS 0 on comes to a SHEET from item 0 on, as many as there are items, 24 at most: how many.");
        for (int form = 0; form < 3; form++) {
            for (int n : new int[] {0, 1, 23, 24, 25, 60}) {
                ButlerWeather x = Edge.house("f9a9;f9a9;f9a9;f9a9;g1x9", "bax", 0, 0, 0, 1, 0, 2, 0, 3);
                x.sheet(3, form, n);
                for (int i = 0; i < n; i++) {
                    x.put(3, form, i, 99);
                }
                Edge.due("write of " + n, x.write(3), Math.min(24, n));
                for (int i = 0; i < n; i++) {
                    Edge.due("item " + i, x.get(3, form, i), i < 24 ? x.warmth(i) : 99);
                }
                Edge.due("it has as many as it had", x.lose(3), n);
            }
        }
        ButlerWeather x = Edge.house("g1a1;g1x1", "");
        x.sheet(0, 0, 24);
        x.write(0);
        Edge.due("the first day", x.get(0, 0, 0), -2);
        Edge.due("the last day", x.get(0, 0, 23), -2);
        Edge.due("a day between", x.get(0, 0, 12), 0);
    }

    private static void writeRefused() {
        Edge.sentence("as many as there are items, 24 at most: how many. BAD; NULL.");
        for (int s : Edge.outside(0, 3)) {
            Edge.refusedInAll("write(" + s + ")", x -> x.write(s), Edge.BAD);
        }
        Edge.refusedInAll("write(3)", x -> x.write(3), Edge.NULL);
    }

    // ---- findings and refusals

    private static void findings() {
        Edge.sentence("FINDINGS (answers -10 less the number; they change nothing but count() 8): 1 NULL: the SHEET is LOST;"
                + " 2 INDEX: there is no such item; 3 CAST: it has another FORM; 4 STORE: unlike FORMS; 5 SIZE: below 0.");
        Edge.refusedInAll("lost", x -> x.lose(3), -11);
        Edge.refused("no such item", Edge::some, x -> x.put(0, 0, 4, 0), -12);
        Edge.refused("another form", Edge::some, x -> x.put(0, 1, 0, 0), -13);
        Edge.refused("unlike forms", Edge::some, x -> x.copy(0, 0, 1, 0, 0), -14);
        Edge.refusedInAll("below 0", x -> x.sheet(0, 0, -1), -15);
    }

    private static void refusalsInOrder() {
        Edge.sentence("Refusals, the first that fits, in the order told at each act: BAD -2 (a number not as told, no such"
                + " thing), NULL, NOT -3 (as told), FULL -4, other FINDINGS.");
        Edge.due("type: BAD, FULL", Edge.full().type(0, 256), Edge.BAD);
        Edge.due("type: BAD, FULL", Edge.full().type(1, -1), Edge.BAD);
        Edge.due("card: BAD, FULL", Edge.full().card(24, 0), Edge.BAD);
        Edge.due("card: BAD, FULL", Edge.full().card(0, 8), Edge.BAD);
        Edge.due("feel: BAD, FULL", Edge.full().feel(24, 0), Edge.BAD);
        Edge.due("feel: BAD, FULL", Edge.full().feel(0, 41), Edge.BAD);
        Edge.due("leave: BAD, NONE", new ButlerWeather().leave(24, 0), Edge.LEAST);
        Edge.due("leave: BAD, NONE", new ButlerWeather().leave(0, 2), Edge.LEAST);
        Edge.due("sheet: BAD, SIZE", new ButlerWeather().sheet(4, 0, -1), Edge.BAD);
        Edge.due("sheet: BAD, SIZE", new ButlerWeather().sheet(0, 3, -1), Edge.BAD);
        Edge.due("put: BAD, NULL", new ButlerWeather().put(0, 3, 0, 0), Edge.BAD);
        Edge.due("put: NULL, INDEX", new ButlerWeather().put(0, 0, -1, 0), Edge.NULL);
        Edge.due("put: BAD, INDEX", Edge.some().put(0, 3, 4, 0), Edge.BAD);
        Edge.due("put: CAST, INDEX", Edge.some().put(0, 1, 4, 0), Edge.CAST);
        Edge.due("copy: BAD, NULL", new ButlerWeather().copy(0, 0, 4, 0, 0), Edge.BAD);
        Edge.due("copy: BAD, NULL", new ButlerWeather().copy(4, 0, 0, 0, 0), Edge.BAD);
        Edge.due("copy: NULL, INDEX", Edge.some().copy(0, -1, 3, 0, 0), Edge.NULL);
        Edge.due("copy: STORE, INDEX", Edge.some().copy(0, -1, 1, 0, 0), Edge.STORE);
        Edge.due("burn: BAD, NONE", Edge.house("f9a9", "bax", 0, 0, 0, 0, 0, 0).burn(2), Edge.BAD);
    }

    private static void refusalsOfLeastInt() {
        Edge.sentence("Where it is told at an act, BAD is the least int");
        for (ButlerWeather x : new ButlerWeather[] {new ButlerWeather(), Edge.some(), Edge.faulty(), Edge.full()}) {
            Edge.due("warmth", x.warmth(24), Edge.LEAST);
            Edge.due("leave", x.leave(24, 0), Edge.LEAST);
            Edge.due("years", x.years(0, 9, 0), Edge.LEAST);
            Edge.due("get", x.get(4, 0, 0), Edge.LEAST);
            Edge.due("stands, where it is not told", x.stands(24, 0), Edge.BAD);
            Edge.due("door, where it is not told", x.door(24, 0), Edge.BAD);
            Edge.due("begin, where it is not told", x.begin(4, 0), Edge.BAD);
            Edge.due("burn, where it is not told", x.burn(2), Edge.BAD);
            Edge.due("put, where it is not told", x.put(4, 0, 0, 0), Edge.BAD);
        }
    }

    private static void refusalsChangeNothing() {
        Edge.sentence("They change nothing (FINDINGS but count() 8).");
        // All refusals one behind the other, on one object: the last finding is all that is new.
        ButlerWeather x = Edge.full();
        Edge.due("type", x.type(0, 256), Edge.BAD);
        Edge.due("type", x.type(0, 'r'), Edge.FULL);
        Edge.due("wipe", x.wipe(2), Edge.BAD);
        Edge.due("undo", x.undo(2), Edge.BAD);
        Edge.due("card", x.card(24, 0), Edge.BAD);
        Edge.due("card", x.card(0, 0), Edge.FULL);
        Edge.due("read", x.read(4), Edge.BAD);
        Edge.due("feel", x.feel(0, 41), Edge.BAD);
        Edge.due("feel", x.feel(0, 0), Edge.FULL);
        Edge.due("years", x.years(0, 9, 0), Edge.LEAST);
        Edge.due("sheet", x.sheet(0, 0, 61), Edge.BAD);
        Edge.due("lose", x.lose(4), Edge.BAD);
        Edge.due("put", x.put(0, 3, 0, 9), Edge.BAD);
        Edge.due("get", x.get(0, 3, 0), Edge.LEAST);
        Edge.due("copy", x.copy(0, 0, 4, 0, 1), Edge.BAD);
        Edge.due("write", x.write(4), Edge.BAD);
        Edge.due("the latest finding is as it was", x.count(8), 4);
        Edge.due("read", x.read(3), Edge.NULL);
        Edge.due("the latest finding", x.count(8), 1);
        Edge.due("sheet", x.sheet(0, 0, -1), Edge.SIZE);
        Edge.due("the latest finding", x.count(8), 5);
        Edge.due("put", x.put(0, 1, 0, 9), Edge.CAST);
        Edge.due("the latest finding", x.count(8), 3);
        Edge.due("write", x.write(3), Edge.NULL);
        Edge.due("put", x.put(0, 0, 4, 9), Edge.INDEX);
        Edge.due("the latest finding", x.count(8), 2);
        Edge.alike("all refusals", x, Edge.full());
    }

    // ---- promise 37

    private static void counts() {
        Edge.sentence("0 CALLERS, 1 MEN, 2, 3 bytes of texts, 4 CARDS");
        int[] ofFull = {8, 4, 39, 15, 8};
        int[] ofSome = {3, 2, 14, 7, 2};
        int[] ofFaulty = {0, 0, 5, 2, 1};
        for (int what = 0; what < 5; what++) {
            Edge.due("of a new one: " + what, new ButlerWeather().count(what), 0);
            Edge.due("of a full one: " + what, Edge.full().count(what), ofFull[what]);
            Edge.due("of some: " + what, Edge.some().count(what), ofSome[what]);
            Edge.due("with faults: " + what, Edge.faulty().count(what), ofFaulty[what]);
        }
        Edge.sentence("7 FELT");
        Edge.due("of a new one", new ButlerWeather().count(7), 0);
        Edge.due("of a full one", Edge.full().count(7), 8);
        Edge.due("of some", Edge.some().count(7), 1);
    }

    private static void countEverInAndSent() {
        Edge.sentence("5 how many are ever IN, 6 how many are SENT on");
        ButlerWeather x = Edge.house("g1a1;g1a1;g1a1;g1a1;g1a1;g1a1;g1x1;g1x1", "");
        Edge.due("all eight in", x.count(5), 8);
        Edge.due("none sent on", x.count(6), 0);
        x = Edge.house("r1a1;r1a1;s1a1;s9a1;f1a1;f1a1;f1x1;f1x1", "bax");
        Edge.due("none in", x.count(5), 0);
        Edge.due("all eight sent on", x.count(6), 8);
        x = Edge.house("r1a1;r1a1;g1a1;r9x1", "bax", 0, 0);
        Edge.due("two in", x.count(5), 2);
        Edge.due("one sent on, one on the step", x.count(6), 1);
        Edge.due("with a fault none", Edge.house("g1a1;", "").count(5), 0);
        Edge.due("with a fault none", Edge.house("r1a1;", "").count(6), 0);
        Edge.due("of a new one", new ButlerWeather().count(5), 0);
        Edge.due("of a new one", new ButlerWeather().count(6), 0);
    }

    private static void countLatestFinding() {
        Edge.sentence("8 the number of the latest FINDING (0 before any). BAD.");
        ButlerWeather x = new ButlerWeather();
        Edge.due("before any", x.count(8), 0);
        x.type(2, 0);
        x.undo(0);
        x.back();
        x.chance(0, 0, 0);
        x.leave(0, 0);
        x.lose(4);
        Edge.due("refusals that are none", x.count(8), 0);
        x.lose(0);
        Edge.due("NULL", x.count(8), 1);
        x.sheet(0, 0, 1);
        Edge.due("what is well leaves it", x.count(8), 1);
        x.sheet(0, 0, -1);
        Edge.due("SIZE", x.count(8), 5);
        x.get(0, 0, 1);
        Edge.due("INDEX", x.count(8), 2);
        x.get(0, 1, 1);
        Edge.due("CAST", x.count(8), 3);
        x.sheet(1, 1, 1);
        x.copy(0, 0, 1, 0, 1);
        Edge.due("STORE", x.count(8), 4);
        x.get(0, 0, 0);
        x.put(0, 0, 0, 1);
        x.digest();
        Edge.due("what is well leaves it", x.count(8), 4);
        Edge.due("another object has none", new ButlerWeather().count(8), 0);
    }

    private static void countRefused() {
        Edge.sentence("(0 before any). BAD.");
        for (int what : Edge.outside(0, 8)) {
            Edge.refusedInAll("count(" + what + ")", x -> x.count(what), Edge.BAD);
        }
    }

    // ---- promise 38

    private static void digestOfAll() {
        Edge.sentence("h is 17; h becomes 31 h and each of: count() 0 to 7; of texts fault()");
        for (ButlerWeather x : new ButlerWeather[] {new ButlerWeather(), Edge.some(), Edge.faulty(), Edge.full()}) {
            long h = x.digest();
            Edge.due("digest", folded(x), h);
            Edge.due("digest again", x.digest(), h);
        }
        ButlerWeather x = Edge.some();
        long h = x.digest();
        x.lose(3);
        Edge.due("count() 8 is not in it", x.digest(), h);
        x.lose(0);
        Edge.due("nor are sheets", x.digest(), h);
        Edge.changesNothing("digest", ButlerWeather::digest);
    }

    private static void digestOfDays() {
        Edge.sentence("of CALLERS caller() 0 to 3, stands(6, it), stands(14, it), stands(23, it), name(), patience(),"
                + " was() 0, 1, ask(), chance(5, it), above, below; of DAYS 0 to 23 door() 0 to 2, warmth()");
        for (int day = 0; day < 24; day++) {
            char sign = (char) ('a' + day);
            ButlerWeather x = Edge.house("g1" + sign + "1;f2" + sign + "1;s1a1", "b" + sign + "x;jac", day, 1, 0, 2);
            Edge.due("on day " + day, x.digest(), folded(x));
            x.feel(day, -2);
            Edge.due("felt on day " + day, x.digest(), folded(x));
        }
        Edge.sentence("of MEN man() 0 to 2, begin() 0, 1");
        ButlerWeather x = Edge.house("s1d1;r1e1", "bax;jae;bbb;jaa", 0, 0, 0, 1);
        Edge.due("he had better be late", x.begin(0, 0), 4);
        Edge.due("four men", x.digest(), folded(x));
        Edge.sentence("leave(8, 0 and 1), burn(NONE), burn(0), never(), years(7, 6, 0 and 1)");
        x = Edge.house("f9i1;r9i1;s9a1", "bdx", 8, 1, 8, 0, 3, 7);
        Edge.due("leave", x.leave(8, 1), -4);
        Edge.due("burn", x.burn(0), 1);
        Edge.due("all of these", x.digest(), folded(x));
    }

    private static void digestThatWraps() {
        Edge.sentence("as longs that wrap");
        BigInteger h = BigInteger.valueOf(17);
        ButlerWeather x = Edge.full();
        for (long v : told(x)) {
            h = h.multiply(BigInteger.valueOf(31)).add(BigInteger.valueOf(v));
        }
        Edge.due("the lowest 64 bits", x.digest(), h.longValue());
        Edge.due("it is more than they hold", h.bitLength() > 64 ? 1 : 0, 1);
    }

    // ---- not promised

    /** What was asked ahead of a change is not what is answered behind it. */
    private static void askedBetween() {
        Edge.sentence("How the state is held inside the object is free");
        ButlerWeather quiet = new ButlerWeather();
        ButlerWeather asked = new ButlerWeather();
        List<ToLongFunction<ButlerWeather>> changes = changes();
        for (int i = 0; i < changes.size(); i++) {
            Edge.due("change " + i, changes.get(i).applyAsLong(asked), changes.get(i).applyAsLong(quiet));
            ButlerWeather again = new ButlerWeather();
            for (int k = 0; k <= i; k++) {
                changes.get(k).applyAsLong(again);
            }
            Edge.due("behind change " + i, asked.digest(), again.digest());
            Edge.due("behind change " + i, asked.digest(), folded(again));
        }
        Edge.due("at the end", asked.digest(), quiet.digest());
    }

    private static List<ToLongFunction<ButlerWeather>> changes() {
        List<ToLongFunction<ButlerWeather>> all = new ArrayList<>();
        typing(all, 0, "r9x3;f3b9;s9a2;g1a4");
        typing(all, 1, "jac;bbx");
        for (int i = 0; i < 8; i++) {
            int n = i;
            all.add(x -> x.card(n % 4, 7 - n));
        }
        all.add(ButlerWeather::back);
        all.add(x -> x.feel(0, -5));
        all.add(x -> x.sheet(0, 0, 2));
        all.add(x -> x.read(0));
        all.add(x -> x.undo(1));
        all.add(x -> x.type(1, 'c'));
        all.add(ButlerWeather::forget);
        // Some call later now, some earlier, and there are more of them.
        all.add(x -> x.wipe(0));
        typing(all, 0, "r9a2;f9x1;s9c2;f9a1;s9a1;g9a1;r9a1;f9c1");
        all.add(ButlerWeather::back);
        all.add(x -> x.card(0, 7));
        all.add(x -> x.undo(0));
        all.add(x -> x.wipe(1));
        all.add(x -> x.type(0, '9'));
        typing(all, 1, "baa;jbx");
        for (int i = 0; i < 9; i++) {
            all.add(ButlerWeather::back);
        }
        return all;
    }

    private static void typing(List<ToLongFunction<ButlerWeather>> all, int text, String signs) {
        for (int b : signs.toCharArray()) {
            all.add(x -> x.type(text, b));
        }
    }

    private static long folded(ButlerWeather x) {
        long h = 17;
        for (long v : told(x)) {
            h = 31 * h + v;
        }
        return h;
    }

    /** All that is in the digest, in its order, as the calls tell it. */
    private static List<Long> told(ButlerWeather x) {
        List<Long> all = new ArrayList<>();
        for (int what = 0; what < 8; what++) {
            add(all, x.count(what));
        }
        add(all, x.fault(0), x.fault(1));
        int men = x.count(1);
        for (int m = 0; m < men; m++) {
            add(all, x.man(m, 0), x.man(m, 1), x.man(m, 2), x.begin(m, 0), x.begin(m, 1));
        }
        int callers = x.count(0);
        for (int c = 0; c < callers; c++) {
            add(all, x.caller(c, 0), x.caller(c, 1), x.caller(c, 2), x.caller(c, 3));
            add(all, x.stands(6, c), x.stands(14, c), x.stands(23, c), x.name(c), x.patience(c));
            add(all, x.was(c, 0), x.was(c, 1), x.ask(c), x.chance(5, c, 0), x.chance(5, c, 1));
        }
        for (int day = 0; day < 24; day++) {
            add(all, x.door(day, 0), x.door(day, 1), x.door(day, 2), x.warmth(day));
        }
        add(all, x.coldest(), x.first(0), x.first(1), x.sent(), x.wrong(), x.sum());
        add(all, x.leave(8, 0), x.leave(8, 1), x.burn(-1), x.burn(0), x.never());
        add(all, x.years(7, 6, 0), x.years(7, 6, 1));
        return all;
    }

    private static void add(List<Long> all, long... values) {
        for (long v : values) {
            all.add(v);
        }
    }
}

import java.io.IOException;
import java.nio.file.Files;
import java.nio.file.Path;
import java.util.LinkedHashMap;
import java.util.List;
import java.util.Map;
import java.util.function.Supplier;
import java.util.function.ToLongFunction;

/** What the tests of edges share: each answer is asked for under a sentence of the document. */
final class Edge {
    static final int NONE = -1, BAD = -2, NOT = -3, FULL = -4;
    static final int NULL = -11, INDEX = -12, CAST = -13, STORE = -14, SIZE = -15;
    static final int LEAST = Integer.MIN_VALUE, MOST = Integer.MAX_VALUE;
    static final long BAD_LONG = Long.MIN_VALUE + 2;

    private static final Map<String, Integer> ASKED = new LinkedHashMap<>();
    private static final String DOCUMENT = readDocument();
    private static String words = "";
    private static int wrong = 0;

    private Edge() { }

    /** What is asked from here on belongs to these words, which the document must have. */
    static void sentence(String ofDocument) {
        words = ofDocument;
        ASKED.putIfAbsent(words, 0);
        if (DOCUMENT != null && !DOCUMENT.contains(words)) {
            fault("the document has no such words");
        }
    }

    /** In one line; null where it is not at hand: the answers are asked for without it too. */
    private static String readDocument() {
        try {
            return Files.readString(Path.of("../shared/DOC.md")).replaceAll("\\s+", " ");
        } catch (IOException e) {
            System.out.println("../shared/DOC.md can't be read: its words are not looked at");
            return null;
        }
    }

    static void due(String call, long got, long want) {
        ASKED.merge(words, 1, Integer::sum);
        if (got != want) {
            fault(call + " answered " + got + ", due is " + want);
        }
    }

    private static void fault(String what) {
        wrong++;
        System.out.println("'" + words + "': " + what);
    }

    /** Ends the test; a sentence of which nothing was asked is a fault too. */
    static void end() {
        ASKED.forEach((sentence, answers) -> {
            if (answers == 0) {
                words = sentence;
                fault("nothing was asked");
            }
        });
        int all = ASKED.values().stream().mapToInt(n -> n).sum();
        System.out.println(ASKED.size() + " sentences, " + all + " answers asked for, " + wrong + " not as due");
        if (wrong != 0) {
            System.exit(1);
        }
    }

    static void typeAll(ButlerWeather x, int text, String signs) {
        for (int i = 0; i < signs.length(); i++) {
            x.type(text, signs.charAt(i));
        }
    }

    static ButlerWeather house(String callers, String men, int... cards) {
        ButlerWeather x = new ButlerWeather();
        typeAll(x, 0, callers);
        typeAll(x, 1, men);
        for (int i = 0; i + 1 < cards.length; i += 2) {
            x.card(cards[i], cards[i + 1]);
        }
        return x;
    }

    /** All is full: 8 callers, 4 men, 8 cards, 8 felt; sheets of each form, the last one lost. */
    static ButlerWeather full() {
        ButlerWeather x = house("r9a3;f9a9;g1c4;s3b5;r2d2;f8c2;s9h8;g9x9", "bcf;jgk;blp;jqx",
                0, 0, 2, 1, 3, 2, 7, 4, 6, 5, 8, 6, 9, 3, 1, 7);
        for (int i = 0; i < 8; i++) {
            x.feel(0, 0);
        }
        sheetsOfEachForm(x);
        return x;
    }

    /** Some of all, room for more. */
    static ButlerWeather some() {
        ButlerWeather x = house("r5c4;f7a3;s3b9", "jcd;bab", 2, 0, 0, 1);
        x.feel(0, -3);
        sheetsOfEachForm(x);
        return x;
    }

    /** Both texts have a fault. */
    static ButlerWeather faulty() {
        ButlerWeather x = house("r5c4;", "jc", 2, 0);
        sheetsOfEachForm(x);
        return x;
    }

    private static void sheetsOfEachForm(ButlerWeather x) {
        for (int form = 0; form < 3; form++) {
            x.sheet(form, form, 4);
            x.put(form, form, 0, 5);
            x.put(form, form, 1, 1);
            x.put(form, form, 3, -7);
        }
        // A finding is known, so that it is seen if a refusal that is none changes it.
        x.copy(0, 0, 1, 0, 0);
    }

    /** Refused as is due, whatever state it is in, and nothing is changed but, by a finding, count() 8. */
    static void refusedInAll(String call, ToLongFunction<ButlerWeather> asked, long want) {
        refused(call + " of a new one", ButlerWeather::new, asked, want);
        refused(call + " of some", Edge::some, asked, want);
        refused(call + " with faults", Edge::faulty, asked, want);
        refused(call + " of a full one", Edge::full, asked, want);
    }

    static void refused(String call, Supplier<ButlerWeather> made, ToLongFunction<ButlerWeather> asked, long want) {
        ButlerWeather x = made.get();
        ButlerWeather twin = made.get();
        due(call, asked.applyAsLong(x), want);
        boolean finding = want <= NULL && want >= SIZE;
        due(call + ", then count(8)", x.count(8), finding ? -10 - want : twin.count(8));
        alike(call, x, twin);
    }

    /** What is only asked leaves all as it was. */
    static void changesNothing(String call, ToLongFunction<ButlerWeather> asked) {
        for (Supplier<ButlerWeather> made : List.<Supplier<ButlerWeather>>of(Edge::some, Edge::full)) {
            ButlerWeather x = made.get();
            ButlerWeather twin = made.get();
            long first = asked.applyAsLong(x);
            due(call + " again", asked.applyAsLong(x), first);
            due(call + ", then count(8)", x.count(8), twin.count(8));
            alike(call, x, twin);
        }
    }

    /** All that can be seen of one is as of the other, to the last byte and card; count() 8 alone is free. */
    static void alike(String call, ButlerWeather x, ButlerWeather twin) {
        due(call + ", then digest()", x.digest(), twin.digest());
        for (int s = 0; s < 4; s++) {
            for (int form = 0; form < 3; form++) {
                for (int i = 0; i < 5; i++) {
                    due(call + ", then get " + s + " " + form + " " + i, x.get(s, form, i), twin.get(s, form, i));
                }
            }
        }
        for (int i = 0; i < 9; i++) {
            due(call + ", then back()", x.back(), twin.back());
            due(call + ", then digest()", x.digest(), twin.digest());
        }
        for (int text = 0; text < 2; text++) {
            for (int i = 0; i <= 39; i++) {
                due(call + ", then undo " + text, x.undo(text), twin.undo(text));
                due(call + ", then fault " + text, x.fault(text), twin.fault(text));
            }
        }
        due(call + ", then forget()", x.forget(), twin.forget());
        for (int s = 0; s < 4; s++) {
            due(call + ", then lose " + s, x.lose(s), twin.lose(s));
        }
    }

    /** Numbers that are not low to high: the nearest, the farthest, and those that a byte or a short would take. */
    static int[] outside(int low, int high) {
        return new int[] {low - 1, high + 1, LEAST, MOST, low - 256, low + 256, low + 65536, low - 65536};
    }
}

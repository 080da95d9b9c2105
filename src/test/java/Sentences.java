import java.io.IOException;
import java.nio.file.Path;
import java.util.ArrayList;
import java.util.List;
import java.util.function.Supplier;
import java.util.function.ToLongFunction;

/**
 * What the tests of sentences share. A sentence of the document is told to the letter, with the number of its promise,
 * ahead of the answers that are due by it; at the end each of the document's words must have been told so.
 */
abstract class Sentences {
    static final String RING = "puppet 3;string 0 to 1;string 1 to 2;string 2 to 0;";
    static final String LIMBS_10 = "puppet 6;puppet 4;";
    /** Limbs 0 to 5 count the beats. */
    static final String COUNTER = "puppet 6;rule 0 : me = 0;rule 1 : not me = up 0;rule 2 : not me = up 0 * up 1;"
            + "rule 3 : not me = up 0 * up 1 * up 2;rule 4 : not me = up 0 * up 1 * up 2 * up 3;"
            + "rule 5 : not me = up 0 * up 1 * up 2 * up 3 * up 4;";

    /** Numbers of what busy() has not. */
    static final int[] NO_LIMBS = {-1, 3, 10, 32, Integer.MIN_VALUE, Integer.MAX_VALUE};
    static final int[] NO_STRINGS = {-1, 3, 16, 32, Integer.MIN_VALUE, Integer.MAX_VALUE};
    static final int[] NO_POSES = {-1, 8, 15, 1024, Integer.MIN_VALUE, Integer.MAX_VALUE};
    static final int[] NO_ROWS = {-1, 4, Integer.MIN_VALUE, Integer.MAX_VALUE};

    private static final Document DOC = document();
    private static int sentences;
    private static int answers;
    private static int wrong;
    private static int promise;
    private static String words = "";
    private static boolean empty;

    private static Document document() {
        try {
            return new Document(Path.of("../shared/DOC.md"));
        } catch (IOException e) {
            throw new IllegalStateException("the document can't be read", e);
        }
    }

    // ---- sentences and answers

    static void sentence(int ofPromise, String told) {
        endSentence();
        promise = ofPromise;
        words = told;
        empty = true;
        sentences++;
        if (!DOC.tell(ofPromise, told)) {
            wrong("the document does not say so");
        }
    }

    private static void endSentence() {
        if (empty) {
            wrong("no answer is asked for it");
        }
    }

    static void due(String call, long got, long want) {
        answers++;
        empty = false;
        if (got != want) {
            wrong(call + " answered " + got + ", due is " + want);
        }
    }

    private static void wrong(String what) {
        wrong++;
        System.out.println("promise " + promise + ", \"" + words + "\": " + what);
    }

    static void close() {
        endSentence();
        for (String left : DOC.untold()) {
            wrong++;
            System.out.println("no test tells of promise " + left);
        }
        System.out.println(wrong == 0 ? sentences + " sentences hold, by " + answers + " answers" : wrong + " are wrong");
        System.exit(wrong == 0 ? 0 : 1);
    }

    // ---- troupes and rows

    static void feedText(StringHands x, String text) {
        for (int i = 0; i < text.length(); i += 20) {
            int[] w = new int[5];
            for (int j = 0; j < 20; j++) {
                int b = i + j < text.length() ? text.charAt(i + j) : ' ';
                w[j / 4] |= b << 24 - j % 4 * 8;
            }
            x.feed(w[0], w[1], w[2], w[3], w[4]);
        }
    }

    static int read(StringHands x, String text) {
        feedText(x, text);
        return x.troupe(text.length());
    }

    static StringHands told(String text) {
        StringHands x = new StringHands();
        if (read(x, text) < 0) {
            wrong("'" + text + "' has fault " + x.fault(0) + " at " + x.fault(1));
        }
        return x;
    }

    static void fill(StringHands x, int row, long... numbers) {
        x.numbers(row, 3, numbers.length);
        for (int i = 0; i < numbers.length; i++) {
            x.write(row, i, numbers[i]);
        }
    }

    /** A text is read, with so many lines. */
    static void lines(String text, int n) {
        due("troupe '" + text + "'", read(new StringHands(), text), n);
    }

    /** A text has a fault of a kind at a place. */
    static void faulty(String text, int kind, int place) {
        StringHands x = new StringHands();
        due("troupe '" + text + "'", read(x, text), -30 - kind);
        due("fault(0) of '" + text + "'", x.fault(0), kind);
        due("fault(1) of '" + text + "'", x.fault(1), place);
    }

    // ---- what a call leaves as it is

    /** In the midst of things: something can be undone, rows 0 to 2 stand, image 0 was made. */
    static StringHands stirred() {
        StringHands x = told("puppet 2;puppet 1;string 0 to 1;string 1 to 2 times 2;string 2 to 0 turned;"
                + "need 2 2;rule 0 : pulls > 0;up 1;life 9;");
        x.nudge(0);
        x.beat(2);
        x.image(0);
        x.cut(1);
        x.swap(1);
        fill(x, 0, 1025, 2048, 0);
        fill(x, 1, 2, -1, 100, 1, 201);
        fill(x, 2, 1, 4, 2, 7);
        return x;
    }

    /** The same with a text on the tape. */
    static StringHands busy() {
        StringHands x = stirred();
        feedText(x, "puppet 2;up 1;life 3;");
        return x;
    }

    /** All that can be asked of an object; behind it the object is spent. */
    static List<Long> seen(StringHands x) {
        List<Long> all = new ArrayList<>();
        look(x, all);
        for (int row = 0; row < 4; row++) {
            for (int what = 0; what < 4; what++) {
                all.add((long) x.judge(row, what));
            }
            all.add((long) x.begins(row, -1));
            all.add((long) x.rehearse(row));
            all.add((long) x.fits(row, 2));
        }
        for (int i = 0; i < 10 && x.undo(1) >= 0; i++) {
            lookShort(x, all);
        }
        for (int i = 0; i < 2; i++) {
            all.add((long) x.restore(i));
            lookShort(x, all);
        }
        all.add((long) x.troupe(x.count(8)));
        look(x, all);
        return all;
    }

    private static void look(StringHands x, List<Long> all) {
        for (int what = 0; what < 10; what++) {
            all.add((long) x.count(what));
        }
        all.add((long) x.fault(0));
        all.add((long) x.fault(1));
        for (int l = 0; l < x.count(1); l++) {
            for (int what = 0; what < 9; what++) {
                all.add((long) x.limb(l, what));
            }
        }
        for (int k = 0; k < x.count(2); k++) {
            for (int what = 0; what < 6; what++) {
                all.add((long) x.string(k, what));
            }
        }
    }

    private static void lookShort(StringHands x, List<Long> all) {
        for (int what = 1; what < 6; what++) {
            all.add((long) x.count(what));
        }
        for (int k = 0; k < x.count(2); k++) {
            all.add((long) x.string(k, 0));
            all.add((long) x.string(k, 4));
            all.add((long) x.string(k, 5));
        }
        for (int l = 0; l < x.count(1); l++) {
            all.add((long) x.limb(l, 8));
        }
    }

    /** A call on an object so made answers so, and all else is as on one where it wasn't made. */
    static void leaves(String call, Supplier<StringHands> made, ToLongFunction<StringHands> asked, long want) {
        StringHands x = made.get();
        due(call, asked.applyAsLong(x), want);
        same(call, x, made.get());
    }

    static void same(String call, StringHands x, StringHands y) {
        if (!seen(x).equals(seen(y))) {
            wrong(call + " changed something");
        }
    }

    /** The same on an object in the midst of things. */
    static void leaves(String call, ToLongFunction<StringHands> asked, long want) {
        leaves(call, Sentences::busy, asked, want);
    }
}

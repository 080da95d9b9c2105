/** Promises 46 to 50: rows of numbers, images, counts. */
final class RowSentences extends Sentences {
    static void all() {
        numbers();
        write();
        image();
        restore();
        count();
        refused();
    }

    private static void numbers() {
        sentence(46, "ROWS OF NUMBERS 0 to 3 are MISSING at first");
        StringHands x = told("puppet 2;");
        for (int row = 0; row < 4; row++) {
            due("write(" + row + ", 0, 0)", x.write(row, 0, 0), -6);
            due("judge(" + row + ", 0)", x.judge(row, 0), -6);
            due("perform(" + row + ")", x.perform(row), -6);
            due("begins(" + row + ", 0)", x.begins(row, 0), -6);
            due("rehearse(" + row + ")", x.rehearse(row), -6);
            due("fits(" + row + ", 0)", x.fits(row, 0), -6);
            due("film(" + row + ")", x.film(row), -6);
        }
        due("another one is no row", x.film(4), -2);
        sentence(46, "or have 0 to 40 numbers of 8 bits (sort 0), 16 (1), 32 (2), 64 (3).");
        long[] bounds = {Byte.MAX_VALUE, Short.MAX_VALUE, Integer.MAX_VALUE, Long.MAX_VALUE};
        for (int sort = 0; sort < 4; sort++) {
            due("numbers(" + sort + ", " + sort + ", 40)", x.numbers(sort, sort, 40), 0);
            due("the highest", x.write(sort, 39, bounds[sort]), bounds[sort]);
            due("one above it", x.write(sort, 39, bounds[sort] + 1), -bounds[sort] - 1);
            due("the lowest", x.write(sort, 39, -bounds[sort] - 1), -bounds[sort] - 1);
            due("one below it", x.write(sort, 39, -bounds[sort] - 2), bounds[sort]);
            due("no 41st", x.write(sort, 40, 0), -7);
            due("none at all", x.numbers(sort, sort, 0), 0);
            due("no first", x.write(sort, 0, 0), -7);
            due("but it isn't missing", x.perform(sort), 0);
        }
        sentence(46, "A ROW OF NUMBERS has n numbers of a sort, all 0 (in place of another one): 0.");
        due("numbers(3, 3, 2)", x.numbers(3, 3, 2), 0);
        x.write(3, 0, 1L << 40);
        x.write(3, 1, 5);
        due("in place of it", x.numbers(3, 0, 3), 0);
        due("all 0: limb 0 is nudged three times", x.judge(3, 2), 1);
        due("all can be", x.judge(3, 0), -1);
        due("of the other sort", x.write(3, 2, 256), 0);
        due("not one more", x.write(3, 3, 0), -7);
        due("fewer", x.numbers(3, 0, 1), 0);
        due("not two", x.write(3, 1, 0), -7);
        due("more again", x.numbers(3, 2, 40), 0);
        due("all 0", x.judge(3, 2), 0);
        due("other rows stay", x.write(2, 0, 0), -7);
        sentence(46, "-2: no such ROW, sort");
        for (int row : NO_ROWS) {
            leaves("numbers(" + row + ", 0, 1)", y -> y.numbers(row, 0, 1), -2);
        }
        int[] badSort = {-1, 4, Integer.MIN_VALUE, Integer.MAX_VALUE};
        for (int sort : badSort) {
            leaves("numbers(0, " + sort + ", 1)", y -> y.numbers(0, sort, 1), -2);
        }
        sentence(46, "-3, and the ROW stays: n is below 0 or above 40.");
        int[] badCount = {-1, 41, Integer.MIN_VALUE, Integer.MAX_VALUE};
        for (int n : badCount) {
            leaves("numbers(1, 0, " + n + ")", y -> y.numbers(1, 0, n), -3);
            leaves("numbers(3, 0, " + n + ")", y -> y.numbers(3, 0, n), -3);
        }
        sentence(46, "(Of several that which the call tells first; all these ahead of NONE.)");
        due("a row, n", x.numbers(4, 0, 41), -2);
        due("a sort, n", x.numbers(0, 4, 41), -2);
    }

    private static void write() {
        sentence(47, "Number i of a ROW OF NUMBERS is v, cut to its sort: as it is there.");
        long[][] sortGivenThere = {{0, 200, -56}, {0, 255, -1}, {0, 256, 0}, {0, -129, 127}, {0, Long.MIN_VALUE, 0},
            {0, Long.MAX_VALUE, -1}, {1, 40000, -25536}, {1, 65535, -1}, {1, 65536, 0}, {1, 200, 200}, {1, Long.MAX_VALUE, -1},
            {2, 1L << 31, Integer.MIN_VALUE}, {2, (1L << 32) - 1, -1}, {2, 1L << 32, 0}, {2, 65536, 65536}, {2, Long.MAX_VALUE, -1},
            {3, 1L << 32, 1L << 32}, {3, Long.MAX_VALUE, Long.MAX_VALUE}, {3, Long.MIN_VALUE, Long.MIN_VALUE}, {3, -1, -1}};
        StringHands x = told("puppet 2;rule 1 : 1 = 1;");
        for (long[] w : sortGivenThere) {
            x.numbers(0, (int) w[0], 1);
            due("write " + w[1] + " of sort " + w[0], x.write(0, 0, w[1]), w[2]);
            // As a deed 0 nudges limb 0, -1 is a beat, in which limb 1 comes up, and others can't be.
            due("it is there", x.judge(0, 2), w[2] == 0 ? 1 : w[2] == -1 ? 2 : 0);
            due("it is there", x.judge(0, 0), w[2] == 0 || w[2] == -1 ? -1 : 0);
        }
        x.numbers(0, 2, 3);
        due("write(0, 2, 1)", x.write(0, 2, 1), 1);
        due("that one alone", x.judge(0, 2), 2);
        due("write(0, 2, 0)", x.write(0, 2, 0), 0);
        due("in place of it", x.judge(0, 2), 1);
        sentence(47, "-2: no such ROW; -6; -7.");
        for (int row : NO_ROWS) {
            leaves("write(" + row + ", 0, 1)", y -> y.write(row, 0, 1), -2);
        }
        leaves("write(3, 0, 1)", y -> y.write(3, 0, 1), -6);
        int[] badPlace = {-1, 5, 39, 40, Integer.MIN_VALUE, Integer.MAX_VALUE};
        for (int i : badPlace) {
            leaves("write(1, " + i + ", 1)", y -> y.write(1, i, 1), -7);
        }
        sentence(47, "(Of several that which the call tells first; all these ahead of NONE.)");
        due("a row that is missing, its number", busy().write(3, 99, 0), -6);
        due("no row, its number", busy().write(4, 99, 0), -2);
    }

    /** All that an image holds is otherwise than at first. */
    private static StringHands stirredRing() {
        StringHands x = told(RING + "life 7;rule 2 : up 0 = 1;need 1 2;string 2 to 1 times 3 turned;up 0;");
        x.beat(1);
        x.moves(0, 2);
        x.cut(1);
        x.swap(0);
        return x;
    }

    private static void image() {
        sentence(48, "An IMAGE is made: 0.");
        StringHands x = stirredRing();
        due("image(0)", x.image(0), 0);
        due("image(1)", x.image(1), 0);
        due("what can be undone stays", x.count(5), 4);
        x.nudge(0);
        due("image(1) anew", x.image(1), 0);
        int pose = x.count(4);
        x.strike(7 - pose);
        x.restore(1);
        due("the later one", x.count(4), pose);
        x.restore(0);
        due("the other one", x.count(4), pose ^ 1);
        due("of a new object", new StringHands().image(0), 0);
        sentence(48, "-2.");
        int[] bad = {-1, 2, Integer.MIN_VALUE, Integer.MAX_VALUE};
        for (int i : bad) {
            leaves("image(" + i + ")", y -> y.image(i), -2);
        }
    }

    private static void restore() {
        sentence(49, "IMAGES 0 to 1: THE TROUPE, THE POSE, strings, WEAR, places");
        StringHands x = stirredRing();
        int next = x.next(5);
        x.image(0);
        due("another troupe", read(x, "puppet 1;life 3;"), 2);
        x.nudge(0);
        x.image(1);
        due("rings of the other troupe", x.rings(-1), 2);
        due("restore(0)", x.restore(0), 0);
        due("limbs", x.count(1), 3);
        due("lines", x.count(9), 9);
        due("life", x.count(6), 7);
        due("rules", x.count(7), 1);
        due("need", x.limb(1, 4), 2);
        due("times", x.string(3, 2), 3);
        due("turned", x.string(3, 3), 1);
        due("pose", x.count(4), 6);
        due("whole", x.count(3), 3);
        due("one that was cut", x.string(1, 4), 0);
        due("from", x.string(0, 0), 2);
        due("to", x.string(0, 1), 1);
        due("wear", x.string(0, 5), 1);
        due("place", x.limb(0, 8), 1);
        due("next", x.next(5), next);
        due("later", x.later(5, 1), next);
        sentence(49, "All that is in an IMAGE is as it was: 0.");
        x.strike(0);
        x.tie(1);
        x.moves(0, 0);
        x.swap(1);
        due("restore(0)", x.restore(0), 0);
        due("pose", x.count(4), 6);
        due("one that was cut", x.string(1, 4), 0);
        due("from", x.string(0, 0), 2);
        due("place", x.limb(2, 8), 2);
        due("restore(1)", x.restore(1), 0);
        due("limbs", x.count(1), 1);
        due("pose", x.count(4), 1);
        due("rests of the other troupe", x.rests(-1), 2);
        StringHands alike = told(RING);
        alike.image(0);
        read(alike, RING + "rule 2 : up 1 = 0;");
        due("rests of one with strings alike", alike.rests(-1), 0);
        alike.restore(0);
        due("rests of the first again", alike.rests(-1), 2);
        x.nudge(0);
        due("again", x.restore(1), 0);
        due("pose", x.count(4), 1);
        fill(x, 2, 0);
        feedText(x, "A");
        due("restore(0)", x.restore(0), 0);
        due("rows are in none", x.judge(2, 0), -1);
        due("nor is the tape", x.count(8), 20);
        sentence(49, "nothing can be UNDONE behind");
        x.nudge(0);
        x.restore(0);
        due("count(5)", x.count(5), 0);
        due("undo(1)", x.undo(1), -3);
        sentence(49, "(none at first).");
        due("restore(0)", new StringHands().restore(0), -5);
        due("restore(1)", new StringHands().restore(1), -5);
        sentence(49, "-2; -5: none was made.");
        int[] bad = {-1, 2, 32, Integer.MIN_VALUE, Integer.MAX_VALUE};
        for (int i : bad) {
            leaves("restore(" + i + ")", y -> y.restore(i), -2);
        }
        leaves("restore(1)", y -> y.restore(1), -5);
        leaves("behind another text", () -> {
            StringHands y = busy();
            y.troupe(40);
            return y;
        }, y -> y.restore(1), -5);
    }

    private static void count() {
        StringHands x = told("puppet 2;puppet 1;string 0 to 1;string 1 to 2;up 2;life 4;rule 0 : me = 1;rule 2 : me = 1;rule 2 : 1 = 1;");
        x.cut(0);
        x.nudge(1);
        x.nudge(0);
        x.feed(0, 0, 0, 0, 0);
        sentence(50, "0 PUPPETS, 1 LIMBS, 2 strings, 3 WHOLE ones, 4 THE POSE, 5 calls that can be UNDONE");
        int[] want = {2, 3, 2, 1, 7, 3, 4, 2, 20, 9};
        for (int what = 0; what < 6; what++) {
            due("count(" + what + ")", x.count(what), want[what]);
        }
        sentence(50, "6 LIFE (0: none), 7 RULES, 8 bytes on THE TAPE, 9 LINES.");
        for (int what = 6; what < 10; what++) {
            due("count(" + what + ")", x.count(what), want[what]);
        }
        due("no life", told("puppet 1;").count(6), 0);
        due("no rules", told("puppet 1;").count(7), 0);
        due("no bytes behind a text", told("puppet 1;").count(8), 0);
        due("one line", told("puppet 1;").count(9), 1);
        sentence(50, "NONE for others.");
        int[] others = {-1, 10, 11, Integer.MIN_VALUE, Integer.MAX_VALUE};
        for (int what : others) {
            leaves("count(" + what + ")", y -> y.count(what), -1);
        }
    }

    private static void refused() {
        sentence(7, "Refused calls answer by a code and change nothing: -2 there is none such;");
        leaves("nudge(3)", x -> x.nudge(3), -2);
        sentence(8, "-3 a number can't be;");
        leaves("strike(8)", x -> x.strike(8), -3);
        sentence(34, "-4 too many;");
        leaves("begins of 13", () -> {
            StringHands x = busy();
            x.numbers(0, 0, 13);
            return x;
        }, x -> x.begins(0, 0), -4);
        sentence(10, "-5 it can't be now;");
        leaves("cut(1)", x -> x.cut(1), -5);
        sentence(16, "-6 a ROW OF NUMBERS is MISSING;");
        leaves("perform(3)", x -> x.perform(3), -6);
        sentence(47, "-7 it has no such number;");
        leaves("write(1, 5, 0)", x -> x.write(1, 5, 0), -7);
    }
}

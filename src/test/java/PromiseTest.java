/** For each promise of the document: ordinary inputs, the edges that it names, and wrong inputs. */
public final class PromiseTest {
    private static int wrong;
    private static int promise;

    private static void due(String call, long got, long want) {
        if (got != want) {
            wrong++;
            System.out.println("promise " + promise + ": " + call + " answered " + got + ", due is " + want);
        }
    }

    private static int feedText(StringHands x, String text) {
        int fed = 0;
        for (int i = 0; i < text.length(); i += 20) {
            int[] w = new int[5];
            for (int j = 0; j < 20; j++) {
                int b = i + j < text.length() ? text.charAt(i + j) : ' ';
                w[j / 4] |= b << 24 - j % 4 * 8;
            }
            fed = x.feed(w[0], w[1], w[2], w[3], w[4]);
        }
        return fed;
    }

    private static int read(StringHands x, String text) {
        feedText(x, text);
        return x.troupe(text.length());
    }

    private static StringHands told(String text) {
        StringHands x = new StringHands();
        int lines = read(x, text);
        if (lines < 0) {
            wrong++;
            System.out.println("promise " + promise + ": '" + text + "' has fault " + x.fault(0) + " at " + x.fault(1));
        }
        return x;
    }

    private static void fill(StringHands x, int row, long... numbers) {
        due("numbers", x.numbers(row, 3, numbers.length), 0);
        for (int i = 0; i < numbers.length; i++) {
            due("write", x.write(row, i, numbers[i]), numbers[i]);
        }
    }

    /** A fault's kind and place, and that all stays. */
    private static void faulty(String text, int kind, int place) {
        StringHands x = told("puppet 1;up 0;");
        x.nudge(0);
        due("troupe '" + text + "'", read(x, text), -30 - kind);
        due("fault(0) of '" + text + "'", x.fault(0), kind);
        due("fault(1) of '" + text + "'", x.fault(1), place);
        due("limbs behind a fault", x.count(1), 1);
        due("lines behind a fault", x.count(9), 2);
        due("pose behind a fault", x.count(4), 0);
        due("undo behind a fault", x.count(5), 1);
        due("tape behind a fault", x.count(8), 0);
    }

    private static final String RING = "puppet 3;string 0 to 1;string 1 to 2;string 2 to 0;";
    private static final String LIMBS_10 = "puppet 6;puppet 4;";

    /** Limbs 0 to 5 count the beats. */
    private static final String COUNTER = "puppet 6;rule 0 : me = 0;rule 1 : not me = up 0;rule 2 : not me = up 0 * up 1;"
            + "rule 3 : not me = up 0 * up 1 * up 2;rule 4 : not me = up 0 * up 1 * up 2 * up 3;"
            + "rule 5 : not me = up 0 * up 1 * up 2 * up 3 * up 4;";

    /**
     * Limbs 0 to 5 count, limb 6 makes them even, 7 and 8 both see whether they are: with any nudge among
     * them all begins anew, so that no nudge is a short way.
     */
    private static final String GUARDED = LIMBS_10 + seven("string %d to 7;") + seven("string %d to 8;") + "up 7;up 8;"
            + "rule 0:up 7*up 8*(1-me)=1;rule 1:up 7*up 8=1 and not me=up 0;rule 2:up 7*up 8=1 and not me=up 0*up 1;"
            + "rule 3:up 7*up 8=1 and not me=up 0*up 1*up 2;rule 4:up 7*up 8=1 and not me=up 0*up 1*up 2*up 3;"
            + "rule 5:up 7*up 8=1 and not me=up 0*up 1*up 2*up 3*up 4;rule 6:up 7*up 8=1 and not me=1-up 0+up 0*up 1*(1-up 2)"
            + "+up 0*up 1*up 2*up 3*(1-up 4);rule 7:pulls*(pulls-2)*(pulls-4)*(pulls-6)=0;"
            + "rule 8:pulls*(pulls-2)*(pulls-4)*(pulls-6)=0;";

    private static String seven(String line) {
        StringBuilder t = new StringBuilder();
        for (int l = 0; l < 7; l++) {
            t.append(String.format(line, l));
        }
        return t.toString();
    }

    private static void newObject() {
        promise = 1;
        StringHands x = new StringHands();
        for (int what = 0; what < 10; what++) {
            due("count(" + what + ")", x.count(what), 0);
        }
        due("fault(0)", x.fault(0), 0);
        due("fault(1)", x.fault(1), -1);
        due("limb(0, 0)", x.limb(0, 0), -2);
        due("string(0, 0)", x.string(0, 0), -2);
        due("restore(1)", x.restore(1), -5);
        due("film(3)", x.film(3), -6);
        due("NONE", StringHands.NONE, -1);
    }

    private static void tape() {
        promise = 2;
        StringHands x = new StringHands();
        for (int i = 1; i <= 45; i++) {
            due("feed", x.feed(0x20202020, 0x20202020, 0x20202020, 0x20202020, 0x20202020), 20 * i);
        }
        due("feed over 900", x.feed(0, 0, 0, 0, 0), -5);
        due("count(8)", x.count(8), 900);
        due("troupe(900)", x.troupe(900), 0);
        due("feed", x.feed(0x7570FF80, -1, 0, 1, 2), 20);
        due("troupe", x.troupe(20), -31);
        due("bytes above 127", x.fault(1), 2);
        x.feed(0x6C696665, 0x20373B20, 0x20202020, 0x20202020, 0x20202041);
        due("troupe: the bytes' order", x.troupe(19), 1);
        due("life", x.count(6), 7);
        x.feed(0x6C696665, 0x20373B20, 0x20202020, 0x20202020, 0x20202041);
        due("troupe: the last byte", x.troupe(20), -31);
        due("fault(1)", x.fault(1), 19);
    }

    private static void readTroupe() {
        promise = 3;
        StringHands x = new StringHands();
        feedText(x, "puppet 2; up 1; life 5;");
        due("troupe(-1)", x.troupe(-1), -3);
        due("troupe(41)", x.troupe(41), -3);
        due("tape stays", x.count(8), 40);
        due("fault stays", x.fault(0), 0);
        due("troupe(15)", x.troupe(15), 2);
        due("tape", x.count(8), 0);
        due("life is not told", x.count(6), 0);
        due("pose", x.count(4), 2);
        x.nudge(0);
        x.swap(0);
        due("troupe(1)", x.troupe(1), -3);
        due("undo stays", x.count(5), 2);
        due("anew", read(x, RING), 4);
        due("nothing can be undone", x.undo(1), -3);
        due("place", x.limb(0, 8), 0);
        due("blanks alone", read(x, " \n  "), 0);
        due("limbs", x.count(1), 0);
        due("no blanks", read(x, "puppet2;string0to1times3turned;"), 2);
        due("times", x.string(0, 2), 3);
        due("turned", x.string(0, 3), 1);
        due("line feeds", read(x, "puppet\n2\n;\nup\n0;\n"), 2);
        due("later ones", read(x, "puppet 2;need 0 9;need 0 2;life 9;life 3;rule 1:me=1;rule 1:me=0;up 0;up 0;"), 9);
        due("need", x.limb(0, 4), 2);
        due("life", x.count(6), 3);
        due("rules", x.count(7), 1);
        due("next", x.next(0), 2);
        due("16 strings", read(x, "puppet 2;" + "string 0 to 1;".repeat(16)), 17);
        due("ten limbs", read(x, LIMBS_10), 2);
        due("digits", read(x, "puppet 002;life 099;"), 2);
        due("900 bytes", read(x, "puppet 2;" + "up 0;".repeat(178) + "\n"), 179);
        due("troupe(0)", x.troupe(0), 0);
        due("no limbs then", x.count(1), 0);
        due("ten rules", read(x, LIMBS_10 + tenRules()), 12);
        due("each has its own", x.next(1), 2);
        due("rules of an earlier text are gone", read(x, LIMBS_10), 2);
        due("rules", x.count(7), 0);
        due("next", x.next(1), 1);
    }

    private static String tenRules() {
        StringBuilder t = new StringBuilder();
        for (int l = 0; l < 10; l++) {
            t.append("rule ").append(l).append(" : up ").append((l + 9) % 10).append(" = 1;");
        }
        return t.toString();
    }

    private static void faults() {
        promise = 4;
        faulty(";".repeat(900), 2, 0);
        faulty("puppet1;rule0:me" + "*1".repeat(442), 2, 900);
        faulty("z", 2, 0);
        faulty("`", 1, 0);
        faulty("{", 1, 0);
        faulty("/", 1, 0);
        faulty("xuppet 1;", 2, 0);
        faulty("puppex 1;", 2, 0);
        faulty("up", 2, 2);
        faulty("puppet 1;rule 0 : mee = 1;", 2, 18);
        faulty("puppet 1;rule 0 : me == 1;", 2, 22);
        faulty("Puppet 1;", 1, 0);
        faulty("puppet 1;\t", 1, 9);
        faulty("puppet 1;life 1000;", 1, 14);
        faulty("1000", 1, 0);
        faulty("puppet 1,", 1, 8);
        faulty("puppet 1;\u00e9", 1, 9);
        faulty("puppet 1;\u0000", 1, 9);
        faulty(";", 2, 0);
        faulty("puppet 1", 2, 8);
        faulty("puppet 1  ", 2, 10);
        faulty("puppet 1;;", 2, 9);
        faulty("puppet ;", 2, 7);
        faulty("pup 1;", 2, 0);
        faulty("puppets 1;", 2, 0);
        faulty("12", 2, 0);
        faulty("puppet 2;string 0 1;", 2, 18);
        faulty("puppet 2;string 0 to 1 turned times 2;", 2, 30);
        faulty("puppet 2;rule 0 me = 1;", 2, 16);
        faulty("puppet 2;rule 0 : me = 1 = 1;", 2, 25);
        faulty("puppet 2;rule 0 : [ me = 1;", 2, 26);
        faulty("puppet 2;rule 0 : ( me = 1;", 2, 23);
        faulty("puppet 2;rule 0 : [ me ] = 1;", 2, 23);
        faulty("puppet 2;rule 0 : me = 1 and;", 2, 28);
        faulty("puppet 2;rule 0 : me = not 1;", 2, 23);
        faulty("puppet 2;rule 0 : up me = 1;", 2, 21);
        faulty("puppet 2;rule 0 : - 1 = 1;", 2, 18);
        faulty("puppet 0;", 3, 7);
        faulty("puppet 7;", 3, 7);
        faulty("puppet 6;puppet 7;", 3, 16);
        faulty("puppet 2;string 2 to 0;", 3, 16);
        faulty("puppet 2;string 0 to 2;", 3, 21);
        faulty("puppet 2;string 1 to 1;", 3, 21);
        faulty("puppet 2;string 1 to 0 times 0;", 3, 29);
        faulty("puppet 2;string 1 to 0 times 4;", 3, 29);
        faulty("puppet 2;need 2 1;", 3, 14);
        faulty("puppet 2;need 1 0;", 3, 16);
        faulty("puppet 2;need 1 10;", 3, 16);
        faulty("puppet 2;rule 2 : 1 = 1;", 3, 14);
        faulty("puppet 2;rule 1 : up 2 = 1;puppet 1;", 3, 21);
        faulty("up 0;puppet 1;", 3, 3);
        faulty("life 0;", 3, 5);
        faulty("life 100;", 3, 5);
        faulty("puppet 6;puppet 5;", 4, 16);
        faulty("puppet 2;" + "string 0 to 1;".repeat(16) + "string A", 4, 233);
        faulty("puppet 1;rule 0 : not [ not [ ( ( ( me ) ) ) = 1 ] ];", 4, 34);
        faulty("puppet 1;rule 0 : [[[[[[[", 4, 24);
        faulty("puppet 1;rule 0 : [[[[[[;", 2, 24);
        faulty("puppet 1;rule 0 : [ me = 1 or A", 1, 30);
        faulty("puppet 1;rule 0 : [ me = 1 and A", 1, 31);
        faulty("puppet 1;rule 0 : [ me = A", 1, 25);
        faulty("puppet 1;rule 0 : [ ( me + A", 1, 27);
        faulty("puppet 1;rule 0 : [ ( me * A", 1, 27);
        faulty("puppet 1;rule 0 : [ me = 1 or [ up 1", 3, 35);
        faulty("puppet 1;rule 0 : [ me = 1 and ( up 1", 3, 36);
        StringHands cut = new StringHands();
        feedText(cut, "life 12;up");
        due("a word is cut by n", cut.troupe(3), -32);
        due("its place", cut.fault(1), 0);
        feedText(cut, "life 12;up");
        due("a number is cut by n", cut.troupe(6), -32);
        due("the end", cut.fault(1), 6);
        feedText(cut, "life 12;up");
        due("what is behind n is not read", cut.troupe(8), 1);
        StringHands x = told("puppet 1;rule 0 : not [ not [ ( ( me ) ) = 1 ] ] and not [ not [ ( ( me ) ) = 1 ] ];");
        due("six stand beside six", x.next(1), 1);
        due("fault(0)", x.fault(0), 0);
        due("fault(1)", x.fault(1), -1);
        due("fault(2)", x.fault(2), -1);
        due("fault(-1)", x.fault(-1), -1);
        read(x, ";");
        due("troupe(99)", x.troupe(99), -3);
        due("the latest that was read", x.fault(0), 2);
    }

    private static void limbs() {
        promise = 5;
        StringHands x = told("puppet 1;puppet 2;string 0 to 2 times 2;string 1 to 2 turned;string 2 to 0;need 2 3;up 0;rule 1 : me = 1;");
        int[] want = {0, 1, 2, 1, 3, 3, 0, 1, 2};
        for (int what = 0; what < want.length; what++) {
            due("limb(2, " + what + ")", x.limb(2, what), want[what]);
        }
        due("limb(0, 0)", x.limb(0, 0), 1);
        due("limb(0, 1)", x.limb(0, 1), 0);
        due("limb(0, 7)", x.limb(0, 7), 0);
        due("limb(1, 4)", x.limb(1, 4), 1);
        due("limb(1, 6)", x.limb(1, 6), 1);
        x.cut(0);
        due("limb(2, 2)", x.limb(2, 2), 1);
        due("limb(2, 5)", x.limb(2, 5), 1);
        due("limb(0, 3)", x.limb(0, 3), 0);
        due("limb(-1, 0)", x.limb(-1, 0), -2);
        due("limb(3, 0)", x.limb(3, 0), -2);
        due("limb(0, -1)", x.limb(0, -1), -2);
        due("limb(0, 9)", x.limb(0, 9), -2);
        due("limb(max, 0)", x.limb(Integer.MAX_VALUE, 0), -2);
    }

    private static void strings() {
        promise = 6;
        StringHands x = told("puppet 2;string 1 to 0 times 3 turned;string 0 to 1;life 9;up 0;");
        int[] want = {1, 0, 3, 1, 1, 0};
        for (int what = 0; what < want.length; what++) {
            due("string(0, " + what + ")", x.string(0, what), want[what]);
        }
        due("string(1, 3)", x.string(1, 3), 0);
        x.beat(1);
        due("wear", x.string(0, 5), 1);
        due("wear of one that stayed", x.string(1, 5), 0);
        x.cut(0);
        due("not whole", x.string(0, 4), 0);
        due("its wear stays", x.string(0, 5), 1);
        due("string(2, 0)", x.string(2, 0), -2);
        due("string(-1, 0)", x.string(-1, 0), -2);
        due("string(0, 6)", x.string(0, 6), -2);
        due("string(0, -1)", x.string(0, -1), -2);
    }

    private static void smallDeeds() {
        StringHands x = told(RING + "up 0;");
        promise = 7;
        due("nudge(2)", x.nudge(2), 5);
        due("nudge(0)", x.nudge(0), 4);
        due("nudge(3)", x.nudge(3), -2);
        due("nudge(-1)", x.nudge(-1), -2);
        due("undone ones", x.count(5), 2);
        promise = 8;
        due("strike(3)", x.strike(3), 3);
        due("strike(3)", x.strike(3), 0);
        due("undone ones", x.count(5), 3);
        due("strike(8)", x.strike(8), -3);
        due("strike(-1)", x.strike(-1), -3);
        promise = 9;
        due("beat(2)", x.beat(2), 4);
        due("pose", x.count(4), 5);
        due("beat(200)", x.beat(200), 400);
        due("undone ones", x.count(5), 5);
        due("beat(0)", x.beat(0), -3);
        due("beat(201)", x.beat(201), -3);
        x.strike(7);
        due("beat without moves", x.beat(1), 0);
        due("it can be undone", x.count(5), 7);
        promise = 10;
        due("cut(1)", x.cut(1), 2);
        due("cut(1)", x.cut(1), -5);
        due("cut(3)", x.cut(3), -2);
        due("cut(-1)", x.cut(-1), -2);
        promise = 11;
        due("tie(1)", x.tie(1), 3);
        due("wear", x.string(1, 5), 0);
        due("tie(1)", x.tie(1), -5);
        due("tie(3)", x.tie(3), -2);
        due("tie(-1)", x.tie(-1), -2);
        promise = 12;
        due("moves(0, 2)", x.moves(0, 2), 0);
        due("from", x.string(0, 0), 2);
        due("next", x.next(4), 3);
        due("moves(0, 2)", x.moves(0, 2), -5);
        due("moves(0, 1)", x.moves(0, 1), -5);
        due("moves(0, 3)", x.moves(0, 3), -2);
        due("moves(3, 0)", x.moves(3, 0), -2);
        due("moves(-1, 0)", x.moves(-1, 0), -2);
        x.cut(0);
        due("moves of one that is not whole", x.moves(0, 0), 2);
        due("undone ones", x.undo(1), 9);
        due("from", x.string(0, 0), 2);
        StringHands y = told(RING);
        y.beat(1);
        y.cut(0);
        due("a tie", y.tie(0), 3);
        due("can be undone", y.undo(1), 2);
        due("it is cut", y.string(0, 4), 0);
        due("poses that follow by strings as they are", y.gardens(), 4);
        y.tie(0);
        due("and tied", y.gardens(), 0);
        y.moves(0, 2);
        due("and from another limb", y.gardens(), 4);
    }

    /** What wears, breaks, and is whole again. */
    private static void wear() {
        promise = 9;
        StringHands x = told("puppet 2;string 0 to 1 turned;string 1 to 0;life 3;string 0 to 1 times 2 turned;");
        due("beat(3)", x.beat(3), 3);
        // 00 -> 10 -> 11 -> 01 -> 00: limb 1 moves first, then limb 0.
        due("pose", x.count(4), 1);
        due("wear of 0", x.string(0, 5), 1);
        due("wear of 1", x.string(1, 5), 2);
        due("beat(3)", x.beat(3), 2);
        due("string 1 broke behind its third", x.string(1, 4), 0);
        due("its wear", x.string(1, 5), 3);
        // Limb 0 stays from then on, so that the others wear no more.
        due("beat(9)", x.beat(9), 0);
        due("whole", x.count(3), 2);
        promise = 14;
        due("undo(2)", x.undo(2), 1);
        due("whole again", x.count(3), 3);
        due("wear again", x.string(1, 5), 2);
        promise = 11;
        x.beat(2);
        due("broken", x.string(1, 4), 0);
        due("tie(1)", x.tie(1), 3);
        due("wear", x.string(1, 5), 0);
    }

    private static void swaps() {
        promise = 13;
        StringHands x = told("puppet 4;string 0 to 3;string 1 to 2;");
        due("tangles", x.tangles(), 1);
        due("swap(0)", x.swap(0), 0);
        due("limb(0, 8)", x.limb(0, 8), 1);
        due("limb(1, 8)", x.limb(1, 8), 0);
        due("swap(2)", x.swap(2), 1);
        due("swap(3)", x.swap(3), -3);
        due("swap(-1)", x.swap(-1), -3);
        due("undo", x.undo(1), 1);
        due("limb(3, 8)", x.limb(3, 8), 3);
        due("one limb", told("puppet 1;").swap(0), -3);
        due("far", x.swap(Integer.MAX_VALUE), -3);
        due("farther", x.swap(Integer.MIN_VALUE), -3);
    }

    private static void undoing() {
        promise = 14;
        StringHands x = told(RING);
        due("undo(1)", x.undo(1), -3);
        for (int i = 0; i < 12; i++) {
            x.nudge(i % 3);
        }
        due("ten at most", x.count(5), 10);
        due("undo(0)", x.undo(0), -3);
        due("undo(11)", x.undo(11), -3);
        due("undo(-1)", x.undo(-1), -3);
        due("undo(10)", x.undo(10), 0);
        due("the eldest are forgotten", x.count(4), 3);
        x.moves(0, 2);
        x.cut(1);
        x.swap(1);
        x.beat(3);
        due("undo(4)", x.undo(4), 0);
        due("from", x.string(0, 0), 0);
        due("whole", x.count(3), 3);
        due("place", x.limb(1, 8), 1);
        due("pose", x.count(4), 3);
        due("next is as it was", x.next(3), 6);
        due("refused ones", x.nudge(9) + x.cut(9) + x.beat(0), -2 - 2 - 3);
        due("can't be undone", x.undo(1), -3);
    }

    private static void rowsOfDeeds() {
        promise = 15;
        StringHands x = told("puppet 3;string 0 to 1;string 1 to 2;life 1;");
        fill(x, 0, 0, -1, 101, 201, 100);
        // The nudge is no beat and wears nothing; behind the beat limb 1 has moved, so string 1 breaks.
        due("judge(0, 0)", x.judge(0, 0), 2);
        due("judge(0, 1)", x.judge(0, 1), 2);
        due("judge(0, 2)", x.judge(0, 2), 3);
        due("judge(0, 3)", x.judge(0, 3), 1);
        due("nothing is done", x.count(4) + x.count(5), 0);
        fill(x, 0, 0, -1, 201, 100);
        due("all can be", x.judge(0, 0), -1);
        due("why", x.judge(0, 1), 0);
        due("whole", x.judge(0, 3), 1);
        long[] bad = {-2, 3, 99, 102, 199, 202, 300, Long.MAX_VALUE, Long.MIN_VALUE, 1L << 32};
        for (long deed : bad) {
            fill(x, 1, 1, deed);
            due("place of " + deed, x.judge(1, 0), 1);
            due("why of " + deed, x.judge(1, 1), 1);
        }
        fill(x, 1, 200);
        due("whole already", x.judge(1, 1), 2);
        fill(x, 1);
        due("no deeds", x.judge(1, 0), -1);
        due("judge(4, 0)", x.judge(4, 0), -2);
        due("judge(-1, 0)", x.judge(-1, 0), -2);
        due("judge(3, 4)", x.judge(3, 4), -2);
        due("judge(3, -1)", x.judge(3, -1), -2);
        due("judge(3, 0)", x.judge(3, 0), -6);
        promise = 16;
        due("perform(0)", x.perform(0), 4);
        due("pose", x.count(4), 3);
        due("whole", x.count(3), 1);
        due("one call", x.count(5), 1);
        due("undo", x.undo(1), 0);
        due("pose", x.count(4), 0);
        due("no deeds", x.perform(1), 0);
        fill(x, 1, 200, 0);
        due("the first can't be", x.perform(1), 0);
        due("nothing was done", x.count(5), 0);
        fill(x, 1, 1, 1, 77);
        due("two", x.perform(1), 2);
        due("they can be undone, though all is as it was", x.count(5), 1);
        due("perform(4)", x.perform(4), -2);
        due("perform(3)", x.perform(3), -6);
    }

    private static void seasons() {
        promise = 17;
        due("no limbs", new StringHands().season(1, 1), -5);
        due("times first", new StringHands().season(1, 0), -3);
        StringHands x = told("puppet 2;up 0;");
        due("season(1, 61)", x.season(1, 61), -3);
        due("season(1, 0)", x.season(1, 0), -3);
        // From 0 the first draw is 12345 >>> 16, which is 0: a nudge, of the limb that the second one tells.
        int second = (1103515245 * 12345 + 12345 >>> 16) % 2;
        due("season(0, 1)", x.season(0, 1), 1 ^ 1 << second);
        due("one call", x.count(5), 1);
        x.undo(1);
        due("without strings a beat comes in place", x.season(seedFor(1), 1), 1);
        due("one call", x.count(5), 1);
        x = told(RING + "up 0;");
        int seed = seedFor(1);
        int k = (1103515245 * (1103515245 * seed + 12345) + 12345 >>> 16) % 3;
        x.season(seed, 1);
        due("cut", x.string(k, 4), 0);
        x.season(seed, 1);
        due("tied", x.string(k, 4), 1);
        due("a beat for 2", x.season(seedFor(2), 1), 2);
        due("a beat for 3", x.season(seedFor(3), 1), 4);
        due("wear", x.string(1, 5), 2);
        x.season(12345, 60);
        due("undo", x.undo(1), 4);
        due("pose", x.count(4), 4);
    }

    /** A seed whose first draw is so, modulo 4. */
    private static int seedFor(int rest) {
        int seed = 0;
        while ((1103515245 * seed + 12345 >>> 16) % 4 != rest) {
            seed++;
        }
        return seed;
    }

    private static void beatsOfRules() {
        promise = 18;
        StringHands x = told("puppet 3;string 0 to 1 times 2;string 2 to 1 turned;need 1 3;rule 2 : up 0 = 1 and not me = 1;");
        due("next(0)", x.next(0), 0);
        due("next(1)", x.next(1), 7);
        due("next(4)", x.next(4), 0);
        due("next(5)", x.next(5), 1);
        due("next(8)", x.next(8), -3);
        due("next(-1)", x.next(-1), -3);
        x.cut(0);
        x.cut(1);
        due("without strings it stays", x.next(3), 7);
        rule("1 + 2 * 3 = 7", true);
        rule("( 1 + 2 ) * 3 = 9", true);
        rule("10 - 3 - 2 = 5", true);
        rule("2 - 3 < 0", true);
        rule("1 < 1", false);
        rule("2 > 1", true);
        rule("999 * 999 * 999 = 999 * 999 * 998", true);
        rule("999 * 999 * 999 - 1 + 1 = 999 * 999 * 999", true);
        rule("999 * 999 + 999 * 999 - 999 * 999 = 999 + 999 + 1", true);
        rule("( 0 - 999 * 999 * 999 ) * ( 999 * 999 * 999 ) = 0 - 999 * 999 * 999", true);
        rule("( 0 - 999 * 999 * 999 ) - 5 + 5 > 0 - 999 * 999 * 999", true);
        rule("1 = 1 or 1 = 1 and 1 = 2", true);
        rule("[ 1 = 1 or 1 = 1 ] and 1 = 2", false);
        rule("not 1 = 2 and 1 = 2", false);
        rule("not [ 1 = 2 and 1 = 2 ]", true);
        rule("not not not 1 = 2", true);
        rule("me = 1 and up 0 = 1 and up 1 = 0 and pulls = 0", true);
        x = told("puppet 2;string 1 to 0 times 3;string 1 to 0 times 2;rule 0 : pulls > 4;need 0 9;");
        due("pulls", x.next(2), 3);
        x.cut(1);
        due("fewer pulls", x.next(2), 2);
    }

    /** Limb 0 is up, limb 1 down; the rule is limb 0's. */
    private static void rule(String truth, boolean holds) {
        StringHands x = told("puppet 2;up 0;rule 0 : " + truth + ";");
        due("rule " + truth, x.limb(0, 7), holds ? 1 : 0);
    }

    private static void whatFollows() {
        StringHands x = told("puppet 3;string 0 to 1;string 1 to 0;string 1 to 2;life 1;");
        // 0->0 1->2 2->5 3->7 4->0 5->2 6->5 7->7
        promise = 19;
        due("later(1, 0)", x.later(1, 0), 1);
        due("later(1, 2)", x.later(1, 2), 5);
        due("later(1, 9999)", x.later(1, 9999), 2);
        due("later(1, 9998)", x.later(1, 9998), 5);
        due("later(1, 10000)", x.later(1, 10000), -3);
        due("later(1, -1)", x.later(1, -1), -3);
        due("later(8, 1)", x.later(8, 1), -3);
        promise = 20;
        due("round(1, 0)", x.round(1, 0), 2);
        due("round(1, 1)", x.round(1, 1), 1);
        due("round(1, 2)", x.round(1, 2), 2);
        due("round(5, 2)", x.round(5, 2), 2);
        due("round(3, 0)", x.round(3, 0), 1);
        due("round(8, 3)", x.round(8, 3), -2);
        due("round(8, -1)", x.round(8, -1), -2);
        due("round(8, 0)", x.round(8, 0), -3);
        promise = 21;
        due("rests(-1)", x.rests(-1), 2);
        due("rests(0)", x.rests(0), 0);
        due("rests(1)", x.rests(1), 7);
        due("rests(2)", x.rests(2), -1);
        due("rests(-2)", x.rests(-2), -1);
        promise = 22;
        due("rings(-1)", x.rings(-1), 3);
        due("rings(1)", x.rings(1), 2);
        due("rings(2)", x.rings(2), 7);
        due("rings(3)", x.rings(3), -1);
        due("rings(-9)", x.rings(-9), -1);
        promise = 23;
        due("basin(1)", x.basin(1), 4);
        due("basin(4)", x.basin(4), 2);
        due("basin(7)", x.basin(7), 2);
        due("basin(8)", x.basin(8), -3);
        promise = 24;
        due("gardens()", x.gardens(), 4);
        promise = 25;
        due("farthest()", x.farthest(), 1);
        due("of ten limbs", told(LIMBS_10).farthest(), 0);
        promise = 21;
        StringHands ten = told(LIMBS_10 + tenRules());
        // Poses of ten limbs go round by one limb a beat.
        due("of ten limbs", told(LIMBS_10).rests(1023), 1023);
        due("of ten limbs that go round", ten.rests(-1), 2);
        promise = 22;
        due("rings of ten limbs", ten.rings(-1), 108);
        due("the last", ten.rings(107), 1023);
        promise = 23;
        due("basin of ten limbs", ten.basin(1023), 1);
        due("basin of ten limbs", ten.basin(512), 10);
        promise = 24;
        due("gardens of ten limbs", ten.gardens(), 0);
        due("one limb that rules all", told(LIMBS_10 + tenRules().replaceAll("up .", "up 9")).gardens(), 1022);
        StringHands thick = told("puppet 2;" + "string 0 to 1;".repeat(16));
        due("gardens by 16 strings", thick.gardens(), 2);
        due("gardens asked again", thick.gardens(), 2);
        thick.moves(15, 0);
        due("gardens as they were", thick.gardens(), 2);
        promise = 19;
        due("all the way", ten.later(1023, 9999), 1023);
        x.cut(0);
        due("strings as they are", x.rests(-1), 2);
        due("next", x.rests(1), 7);
        x.undo(1);
        due("and as they were", x.gardens(), 4);
    }

    private static void wishes() {
        promise = 26;
        StringHands x = told(RING + "up 0;");
        due("soonest(7, 0)", x.soonest(7, 0), 2);
        due("soonest(7, 1)", x.soonest(7, 1), 2);
        due("soonest(7, 12)", x.soonest(7, 12), -1);
        due("soonest(1, 0)", x.soonest(1, 0), 0);
        due("soonest(1, 1)", x.soonest(1, 1), 0);
        due("soonest(1, 10)", x.soonest(1, 10), -1);
        due("soonest(8, 9)", x.soonest(8, 9), -2);
        due("soonest(8, -1)", x.soonest(8, -1), -2);
        due("soonest(8, 50)", x.soonest(8, 50), -2);
        due("soonest(8, 49)", x.soonest(8, 49), -3);
        due("it is there", told("puppet 1;rule 0 : 1 = 1;").soonest(0, 0), 0);
        due("never again", told("puppet 1;up 0;rule 0 : 1 = 1;").soonest(0, 0), -1);
        StringHands chain = told("puppet 4;string 0 to 1;string 1 to 2;string 2 to 3;");
        due("one", chain.soonest(8, 0), 1);
        due("one", chain.soonest(8, 10), 2);
        // The nudge of limb 1 does it ahead of either beat.
        StringHands clock = told("puppet 3;rule 0 : me = 0;rule 1 : me = 1;rule 2 : me = 1 or up 0 = 1 and up 1 = 1;");
        due("late: beats", clock.soonest(6, 0), 2);
        due("late: nudges", clock.soonest(6, 1), 1);
        due("late: none ahead of others", clock.soonest(6, 10), -1);
        due("late: then the limb", clock.soonest(6, 11), 1);
        StringHands wait = told("puppet 4;rule 0 : 1 = 1;rule 1 : up 0 = 1;rule 2 : up 1 = 1;rule 3 : up 2 = 1 and me = 0;");
        due("wait", wait.soonest(15, 0), 2);
        due("wait, nudges", wait.soonest(15, 1), 2);
        due("wait, first", wait.soonest(15, 10), 0);
        due("wait, second", wait.soonest(15, 11), 2);
        StringHands far = told(GUARDED);
        due("one beat on", far.next(384), 1 + 64 + 384);
        due("40 beats", far.soonest(40 + 384, 0), 40);
        due("40 beats, nudges", far.soonest(40 + 384, 1), 0);
        due("40 beats, the last", far.soonest(40 + 384, 49), -1);
        due("with a limb beside, the last", far.soonest(40 + 384 + 512, 49), 9);
        due("with a limb beside, the first", far.soonest(40 + 384 + 512, 10), -1);
        due("with a limb beside, nudges", far.soonest(40 + 384 + 512, 1), 1);
        due("41 beats", far.soonest(41 + 64 + 384, 0), -1);
        promise = 27;
        StringHands count = told(COUNTER);
        due("60 beats", count.wakes(60), 100);
        due("61 beats", count.wakes(61), 0);
        due("63 beats", count.wakes(63), 2);
        due("64 beats", count.wakes(0), 2);
        due("wakes(2)", x.wakes(2), 100);
        due("wakes(1)", x.wakes(1), 100);
        due("wakes(0)", x.wakes(0), 0);
        due("wakes(3)", x.wakes(3), 1);
        due("wakes(7)", x.wakes(7), -1);
        due("wakes(8)", x.wakes(8), -3);
        due("wakes(-1)", x.wakes(-1), -3);
        due("behind 1 and more", told("puppet 1;rule 0 : 1 = 1;").wakes(0), -1);
        promise = 28;
        due("cure(1, 0)", x.cure(1, 0), 2);
        due("cure(1, 1)", x.cure(1, 1), 5);
        due("cure(3, 1)", x.cure(3, 1), 6);
        due("cure(0, 0)", x.cure(0, 0), 0);
        due("cure(0, 1)", x.cure(0, 1), 0);
        due("cure(8, 2)", x.cure(8, 2), -2);
        due("cure(8, -1)", x.cure(8, -1), -2);
        due("cure(8, 0)", x.cure(8, 0), -3);
        due("no cuts do", told("puppet 1;rule 0 : 1 = 1;").cure(0, 0), -1);
        StringHands pulled = told("puppet 2;string 0 to 1;string 0 to 1;string 0 to 1 times 2;rule 1 : pulls = 2;");
        due("one for two", pulled.cure(3, 1), 4);
        pulled = told("puppet 2;string 0 to 1;string 0 to 1;string 0 to 1;rule 1 : pulls = 1;");
        due("least as bits", pulled.cure(3, 1), 3);
        pulled = told("puppet 2;string 0 to 1;string 0 to 1;string 0 to 1 times 2;need 1 3;");
        due("one is enough", pulled.cure(1, 1), 4);
        due("of like ones the least", told("puppet 2;string 0 to 1;string 0 to 1;need 1 2;").cure(1, 1), 1);
        pulled.cut(2);
        due("strings as they are", pulled.cure(1, 0), 0);
        due("all are cut", pulled.cure(3, 1), 3);
        String thick = "puppet 2;" + "string 0 to 1 times 3;".repeat(16);
        due("48 pulls", told(thick + "rule 1 : pulls = 48;").cure(3, 0), 0);
        due("none of 48", told(thick + "rule 1 : pulls = 0;").cure(3, 1), 65535);
        due("45 of 48", told(thick + "rule 1 : pulls = 45;").cure(3, 1), 1);
        due("by needs", told(thick + "need 1 9;").cure(1, 1), (1 << 14) - 1);
    }

    private static void handsAndStrings() {
        StringHands x = told("puppet 5;string 0 to 1;string 0 to 1;string 1 to 2;string 2 to 1;string 3 to 4;"
                + "rule 3 : up 2 = 1 or up 3 = 1 or me = 1;rule 4 : pulls > 0;");
        promise = 29;
        due("works(0)", x.works(0), 30);
        due("works(1)", x.works(1), 30);
        due("works(3)", x.works(3), 16);
        due("works(4)", x.works(4), 0);
        due("works(5)", x.works(5), -2);
        due("works(-1)", x.works(-1), -2);
        due("without pulls", told("puppet 2;string 0 to 1;rule 1 : me = 1;").works(0), 0);
        due("the later rule", told("puppet 2;string 0 to 1;rule 1 : pulls = 1;rule 1 : me = 1;").works(0), 0);
        due("the later rule's up", told("puppet 2;rule 1 : up 0 = 1;rule 1 : me = 1;").works(0), 0);
        promise = 30;
        due("part(1)", x.part(1), 6);
        due("part(0)", x.part(0), 1);
        due("part(5)", x.part(5), -2);
        promise = 31;
        due("parts()", x.parts(), 4);
        due("no limbs", new StringHands().parts(), 0);
        promise = 32;
        due("free(0, 1)", x.free(0, 1), 2);
        due("free(0, 2)", x.free(0, 2), 1);
        due("free(2, 3)", x.free(2, 3), -1);
        due("free(0, 4)", x.free(0, 4), 1);
        due("free(4, 0)", x.free(4, 0), 0);
        due("free(0, 0)", x.free(0, 0), -1);
        due("free(0, 5)", x.free(0, 5), -2);
        due("free(5, 5)", x.free(5, 5), -2);
        promise = 33;
        due("stops(0)", x.stops(0), 0);
        due("stops(2)", x.stops(2), 30);
        due("stops(3)", x.stops(3), 6);
        due("stops(5)", x.stops(5), -2);
        due("stops(-1)", x.stops(-1), -2);
        x.cut(0);
        due("stops(0)", x.stops(0), -5);
        due("stops(1)", x.stops(1), 30);
    }

    private static void scripts() {
        promise = 34;
        StringHands x = told(RING + "up 0;");
        fill(x, 0, 1025, 2050);
        due("begins(0, -1)", x.begins(0, -1), 4);
        due("begins(0, 0)", x.begins(0, 0), 1);
        due("begins(0, 3)", x.begins(0, 3), 7);
        due("begins(0, 4)", x.begins(0, 4), -1);
        due("begins(0, -2)", x.begins(0, -2), -1);
        fill(x, 0, 0);
        due("none are told", x.begins(0, -1), 8);
        long[] bad = {-1, 1, 8 * 1024, 1024 + 2, Long.MAX_VALUE, Long.MIN_VALUE, 1L << 42, 1024L << 10};
        for (long scene : bad) {
            fill(x, 0, 0, scene);
            due("begins with " + scene, x.begins(0, -1), -3);
            due("rehearse with " + scene, x.rehearse(0), -3);
        }
        x.numbers(0, 2, 13);
        x.numbers(1, 2, 12);
        x.numbers(2, 2, 0);
        due("13", x.begins(0, -1), -4);
        due("12", x.begins(1, -1), 8);
        due("0", x.begins(2, -1), -4);
        due("begins(4, 0)", x.begins(4, 0), -2);
        due("begins(3, 0)", x.begins(3, 0), -6);
        promise = 35;
        due("13", x.rehearse(0), -4);
        due("12", x.rehearse(1), 0);
        due("rehearse(-1)", x.rehearse(-1), -2);
        due("rehearse(3)", x.rehearse(3), -6);
        fill(x, 0, 7168 + 2, 7168 + 2);
        due("rehearse", x.rehearse(0), 4);
        fill(x, 0, 7168, 1025, 1024);
        due("rehearse", x.rehearse(0), 2);
        due("ten limbs", rehearseTen(), 10);
    }

    private static int rehearseTen() {
        StringHands x = told(LIMBS_10);
        fill(x, 0, 1023 * 1024 + 1023);
        return x.rehearse(0);
    }

    private static void tangling() {
        promise = 36;
        StringHands x = told("puppet 4;string 0 to 3;string 1 to 2;string 1 to 3;string 0 to 2;");
        due("tangles()", x.tangles(), 1);
        x.cut(0);
        due("whole ones", x.tangles(), 0);
        due("no limbs", new StringHands().tangles(), 0);
        promise = 37;
        x.tie(0);
        due("leastTangles()", x.leastTangles(), 1);
        due("ring", told(RING).leastTangles(), 2);
        due("there and back", told("puppet 2;string 0 to 1;string 1 to 0;").leastTangles(), 1);
        due("eight limbs", told("puppet 6;puppet 2;").leastTangles(), -4);
        due("seven limbs", told("puppet 6;puppet 1;string 0 to 6;string 1 to 5;string 2 to 4;").leastTangles(), 0);
        due("one limb", told("puppet 1;").leastTangles(), 0);
        // Each of eight strings there tangles with each of eight back, whatever the places.
        due("64 pairs", told("puppet 2;" + "string 0 to 1;string 1 to 0;".repeat(8)).leastTangles(), 64);
        // Six limbs in three pairs, there and back; beside one another no pair tangles with another one.
        String there = "string 0 to 3;string 3 to 0;string 1 to 4;string 4 to 1;string 2 to 5;string 5 to 2;";
        due("three pairs lie through one another", told("puppet 6;" + there).tangles(), 9);
        due("three pairs", told("puppet 6;" + there).leastTangles(), 3);
        due("three pairs twice", told("puppet 6;" + there + there).leastTangles(), 12);
    }

    private static void twoHands() {
        promise = 38;
        StringHands x = told(RING + "up 0;");
        due("choice", x.two(0, 1025, 1, 2048, 0), 1);
        due("other choice", x.two(0, 1025, 1, 2048, 1), 2);
        due("has", x.two(0, 1025, 1, 2048, 2), 60);
        due("other has", x.two(0, 1025, 1, 2048, 3), 60);
        StringHands none = told("puppet 3;rule 2 : up 0 = up 1;");
        due("none at rest", none.two(0, 4096 + 4, 1, 4096, 0), -1);
        due("leave it", none.two(0, 0, 1, 0, 0), 0);
        due("leave it", none.two(0, 0, 1, 0, 1), 0);
        due("all beats", none.two(0, 0, 1, 0, 2), 60);
        due("both one", x.two(0, -1, 0, -1, 0), -2);
        due("limb", x.two(3, -1, 0, -1, 0), -2);
        due("other limb", x.two(0, -1, 3, -1, 0), -2);
        due("what", x.two(0, -1, 1, -1, 4), -2);
        due("what", x.two(0, -1, 1, -1, -1), -2);
        due("scene", x.two(0, 8192, 1, 0, 0), -3);
        due("other scene", x.two(0, 0, 1, 1, 0), -3);
        due("negative scene", x.two(0, Integer.MIN_VALUE, 1, 1, 0), -3);
    }

    private static void powers() {
        promise = 39;
        StringHands x = told("puppet 2;rule 1 : up 0 = 1 and me = 1;rule 0 : 1 = 1;");
        due("power(0, 0)", x.power(0, 0), 4);
        due("power(0, 1)", x.power(0, 1), 2);
        due("power(1, 1)", x.power(1, 1), 2);
        due("power(1, 99)", x.power(1, 99), 2);
        due("power(2, 100)", x.power(2, 100), -2);
        due("power(-1, 0)", x.power(-1, 0), -2);
        due("power(0, 100)", x.power(0, 100), -3);
        due("power(0, -1)", x.power(0, -1), -3);
        due("ten limbs", told(LIMBS_10).power(9, 99), 1024);
    }

    private static void films() {
        StringHands x = told("puppet 3;");
        fill(x, 0, 1, 4, 0);
        // Limb 2: up behind 1, down behind 4. Sets of 0 and 1: {0} with 1; {0,1} with 1.
        promise = 40;
        due("fits(0, 2)", x.fits(0, 2), 2);
        // Limb 0: down behind 1 and behind 4: {1} 1, {1,2} 2; not {2}, nor {1,2} with 1.
        due("fits(0, 0)", x.fits(0, 0), 2);
        due("fits(0, 3)", x.fits(0, 3), -2);
        due("fits(4, 0)", x.fits(4, 0), -2);
        due("fits(3, 3)", x.fits(3, 3), -2);
        due("fits(3, 0)", x.fits(3, 0), -6);
        x.numbers(1, 2, 1);
        due("one pose", x.fits(1, 0), -4);
        x.numbers(1, 2, 31);
        due("31 poses", x.fits(1, 0), -4);
        x.numbers(1, 2, 30);
        due("30 poses", x.fits(1, 0), 4);
        fill(x, 1, 0, 8);
        due("no pose", x.fits(1, 0), -3);
        fill(x, 1, 0, -1);
        due("no pose", x.fits(1, 0), -3);
        fill(x, 1, 0, 1L << 40);
        due("no pose", x.fits(1, 0), -3);
        promise = 41;
        due("fewest(0, 2, 0)", x.fewest(0, 2, 0), 1);
        due("fewest(0, 2, 1)", x.fewest(0, 2, 1), 1);
        due("fewest(0, 0, 0)", x.fewest(0, 0, 0), 2);
        due("fewest(3, 0, 2)", x.fewest(3, 0, 2), -2);
        due("fewest(3, 0, -1)", x.fewest(3, 0, -1), -2);
        due("fewest(3, 0, 0)", x.fewest(3, 0, 0), -6);
        fill(x, 2, 0, 1);
        due("none fits", x.fewest(2, 0, 0), -1);
        fill(x, 2, 3, 4);
        due("least need", x.fewest(2, 2, 1), 1);
        fill(x, 2, 1, 0, 2, 0, 3, 4);
        due("two at least", x.fewest(2, 2, 0), 3);
        due("need two", x.fewest(2, 2, 1), 2);
        promise = 42;
        due("sure(0, 2)", x.sure(0, 2), 1);
        due("sure(0, 0)", x.sure(0, 0), 2);
        due("sure(2, 2)", x.sure(2, 2), 3);
        x.numbers(1, 2, 2);
        due("none is sure", x.sure(1, 0), 0);
        fill(x, 2, 0, 1);
        due("none fits", x.sure(2, 0), -1);
        due("sure(0, 3)", x.sure(0, 3), -2);
        due("sure(3, 0)", x.sure(3, 0), -6);
        promise = 43;
        due("telling(0, 2)", x.telling(0, 2), 2);
        // {1} with 1 and {1,2} with 2: told apart by 2 first.
        due("telling(0, 0)", x.telling(0, 0), 2);
        due("none fits", x.telling(2, 0), -1);
        fill(x, 2, 1, 0, 2, 0, 3, 4);
        due("one fits", x.telling(2, 2), -1);
        due("telling(0, -1)", x.telling(0, -1), -2);
        due("telling(3, 0)", x.telling(3, 0), -6);
        x.numbers(2, 0, 31);
        due("31", x.telling(2, 0), -4);
        due("31", x.sure(2, 0), -4);
        due("31", x.fewest(2, 0, 0), -4);
    }

    private static void filming() {
        promise = 44;
        StringHands x = told(RING + "life 1;up 0;");
        fill(x, 0, 9, 9, 9, 9);
        due("film(0)", x.film(0), 4);
        due("nothing is done", x.count(5), 0);
        due("numbers as poses", x.fits(0, 0), filmed(1, 2, 4, 1, 0));
        x.numbers(1, 2, 0);
        due("no places", x.film(1), 0);
        due("film(2)", x.film(2), -6);
        due("film(4)", x.film(4), -2);
        due("film(-1)", x.film(-1), -2);
        StringHands ten = told(LIMBS_10 + "up 9;up 7;");
        ten.numbers(0, 0, 2);
        due("film(0)", ten.film(0), 2);
        // 640 cut to 8 bits is -128, which is no pose.
        due("cut to its sort", ten.fits(0, 0), -3);
    }

    private static int filmed(int a, int b, int c, int d, int l) {
        StringHands x = told(RING);
        fill(x, 0, a, b, c, d);
        return x.fits(0, l);
    }

    private static void breaking() {
        promise = 45;
        due("no life", told(RING).breaks(0), -5);
        due("what first", told(RING).breaks(2), -2);
        due("what first", told(RING).breaks(-1), -2);
        StringHands x = told("life 3;" + RING + "up 0;");
        due("breaks(0)", x.breaks(0), 3);
        due("breaks(1)", x.breaks(1), 0);
        due("nothing is done", x.count(5) + x.string(0, 5), 0);
        x.beat(3);
        due("wear as it is", x.breaks(0), 0);
        due("the first string", x.breaks(1), 0);
        x.cut(0);
        due("one that is cut wears no more", x.breaks(1), -1);
        x = told("life 99;" + RING + "up 0;");
        due("two moves in three beats", x.breaks(0), 147);
        due("none", told("life 1;" + RING).breaks(0), -1);
        x = told("life 67;puppet 2;string 0 to 1;rule 0 : me = 0;");
        due("67", x.breaks(0), 66);
        // Limb 2 moves in every fourth beat: from 0 first behind beat 3, from 3 first behind beat 0.
        due("the last of 200 beats", told(COUNTER + "string 2 to 3;life 50;").breaks(0), 199);
        due("one behind them", told(COUNTER + "string 2 to 3;life 51;up 0;up 1;").breaks(0), -1);
        due("one behind them, its string", told(COUNTER + "string 2 to 3;life 51;up 0;up 1;").breaks(1), -1);
    }

    private static void numberRows() {
        promise = 46;
        StringHands x = new StringHands();
        due("numbers(3, 3, 40)", x.numbers(3, 3, 40), 0);
        due("numbers(4, 0, 41)", x.numbers(4, 0, 41), -2);
        due("numbers(-1, 0, 1)", x.numbers(-1, 0, 1), -2);
        due("numbers(0, 4, 41)", x.numbers(0, 4, 41), -2);
        due("numbers(0, -1, 1)", x.numbers(0, -1, 1), -2);
        due("numbers(3, 0, 41)", x.numbers(3, 0, 41), -3);
        due("numbers(3, 0, -1)", x.numbers(3, 0, -1), -3);
        due("it stays", x.write(3, 39, 1L << 40), 1L << 40);
        due("in place of it", x.numbers(3, 0, 2), 0);
        due("no such number", x.write(3, 2, 1), -7);
        promise = 47;
        due("8 bits", x.write(3, 0, 200), -56);
        due("8 bits", x.write(3, 1, -129), 127);
        x.numbers(0, 1, 1);
        due("16 bits", x.write(0, 0, 40000), -25536);
        x.numbers(0, 2, 1);
        due("32 bits", x.write(0, 0, 1L << 31), -(1L << 31));
        x.numbers(0, 3, 1);
        due("64 bits", x.write(0, 0, Long.MIN_VALUE), Long.MIN_VALUE);
        due("write(0, 1, 0)", x.write(0, 1, 0), -7);
        due("write(0, -1, 0)", x.write(0, -1, 0), -7);
        due("write(1, 0, 0)", x.write(1, 0, 0), -6);
        due("write(4, 0, 0)", x.write(4, 0, 0), -2);
        due("write(-1, 0, 0)", x.write(-1, 0, 0), -2);
        x = told("puppet 1;");
        fill(x, 0, 1024, 1024);
        x.numbers(0, 3, 2);
        due("all 0", x.begins(0, -1), 2);
    }

    private static void images() {
        promise = 48;
        StringHands x = told(RING + "life 7;rule 2 : up 0 = 1;up 0;");
        x.beat(1);
        x.moves(0, 2);
        x.cut(1);
        x.swap(0);
        due("image(0)", x.image(0), 0);
        due("undo stays", x.count(5), 4);
        due("image(2)", x.image(2), -2);
        due("image(-1)", x.image(-1), -2);
        promise = 49;
        due("restore(1)", x.restore(1), -5);
        due("restore(2)", x.restore(2), -2);
        due("restore(-1)", x.restore(-1), -2);
        int next = x.next(5);
        read(x, "puppet 1;");
        x.nudge(0);
        due("image(1)", x.image(1), 0);
        due("restore(0)", x.restore(0), 0);
        due("nothing can be undone", x.count(5), 0);
        due("limbs", x.count(1), 3);
        due("lines", x.count(9), 7);
        due("life", x.count(6), 7);
        due("rules", x.count(7), 1);
        due("whole", x.count(3), 2);
        due("from", x.string(0, 0), 2);
        due("wear", x.string(2, 5), 1);
        due("place", x.limb(0, 8), 1);
        due("next", x.next(5), next);
        due("next", x.later(5, 1), next);
        x.strike(0);
        due("restore(0)", x.restore(0), 0);
        due("pose", x.count(4), 6);
        due("restore(1)", x.restore(1), 0);
        due("limbs", x.count(1), 1);
        due("pose", x.count(4), 1);
        due("rests of the other troupe", x.rests(-1), 2);
    }

    private static void counts() {
        promise = 50;
        StringHands x = told("puppet 2;puppet 1;string 0 to 1;string 1 to 2;up 2;life 4;rule 0 : me = 1;rule 2 : me = 1;");
        x.cut(0);
        x.feed(0, 0, 0, 0, 0);
        int[] want = {2, 3, 2, 1, 4, 1, 4, 2, 20, 8};
        for (int what = 0; what < want.length; what++) {
            due("count(" + what + ")", x.count(what), want[what]);
        }
        due("count(10)", x.count(10), -1);
        due("count(-1)", x.count(-1), -1);
    }

    public static void main(String[] args) {
        newObject();
        tape();
        readTroupe();
        faults();
        limbs();
        strings();
        smallDeeds();
        wear();
        swaps();
        undoing();
        rowsOfDeeds();
        seasons();
        beatsOfRules();
        whatFollows();
        wishes();
        handsAndStrings();
        scripts();
        tangling();
        twoHands();
        powers();
        films();
        filming();
        breaking();
        numberRows();
        images();
        counts();
        System.out.println(wrong == 0 ? "all promises hold" : wrong + " answers are not as due");
        System.exit(wrong == 0 ? 0 : 1);
    }
}

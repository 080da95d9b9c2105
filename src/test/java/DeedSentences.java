/** Promises 5 to 17: limbs, strings, deeds, what is undone, seasons. */
final class DeedSentences extends Sentences {
    static void all() {
        limb();
        string();
        nudge();
        strike();
        beat();
        beatMeans();
        rulesOfBeats();
        wear();
        cut();
        tie();
        moves();
        swap();
        undo();
        undoneWhole();
        judge();
        deedsThatCanNotBe();
        perform();
        season();
        seasonByDraws();
    }

    private static void limb() {
        String text = "puppet 1;puppet 2;string 0 to 2 times 2;string 1 to 2 turned;string 2 to 0;need 2 3;up 0;rule 1 : me = 1;";
        StringHands x = told(text);
        sentence(5, "Of a LIMB, what 0: 1 if UP, else 0");
        due("limb(0, 0)", x.limb(0, 0), 1);
        due("limb(1, 0)", x.limb(1, 0), 0);
        sentence(5, "1: its PUPPET");
        due("limb(0, 1)", x.limb(0, 1), 0);
        due("limb(1, 1)", x.limb(1, 1), 1);
        due("limb(2, 1)", x.limb(2, 1), 1);
        sentence(5, "2: WHOLE strings to it, 3: from it");
        due("limb(2, 2)", x.limb(2, 2), 2);
        due("limb(2, 3)", x.limb(2, 3), 1);
        due("limb(1, 2)", x.limb(1, 2), 0);
        due("limb(1, 3)", x.limb(1, 3), 1);
        sentence(5, "4: NEED");
        due("limb(2, 4)", x.limb(2, 4), 3);
        due("limb(1, 4)", x.limb(1, 4), 1);
        sentence(5, "5: PULLS");
        due("limb(2, 5)", x.limb(2, 5), 3);
        due("limb(0, 5)", x.limb(0, 5), 0);
        due("limb(1, 5)", x.limb(1, 5), 0);
        sentence(5, "6: 1 with a RULE, else 0");
        due("limb(1, 6)", x.limb(1, 6), 1);
        due("limb(2, 6)", x.limb(2, 6), 0);
        sentence(5, "7: 1 if it is UP behind a BEAT, else 0");
        due("limb(2, 7)", x.limb(2, 7), 1);
        due("limb(0, 7)", x.limb(0, 7), 0);
        due("limb(1, 7)", x.limb(1, 7), 0);
        sentence(5, "8: its place.");
        due("limb(2, 8)", x.limb(2, 8), 2);
        x.swap(1);
        due("limb(2, 8) behind a swap", x.limb(2, 8), 1);
        due("limb(1, 8) behind a swap", x.limb(1, 8), 2);
        sentence(5, "All below is asked with strings as they are");
        x.cut(0);
        due("whole strings to 2", x.limb(2, 2), 1);
        due("whole strings from 0", x.limb(0, 3), 0);
        due("pulls of 2", x.limb(2, 5), 1);
        due("2 behind a beat", x.limb(2, 7), 0);
        x.moves(2, 1);
        due("strings from 2", x.limb(2, 3), 0);
        due("strings from 1", x.limb(1, 3), 2);
        sentence(5, "-2.");
        for (int l : NO_LIMBS) {
            leaves("limb(" + l + ", 0)", y -> y.limb(l, 0), -2);
        }
        int[] badWhat = {-1, 9, Integer.MIN_VALUE, Integer.MAX_VALUE};
        for (int what : badWhat) {
            leaves("limb(0, " + what + ")", y -> y.limb(0, what), -2);
        }
    }

    private static void string() {
        StringHands x = told("puppet 2;string 1 to 0 times 3 turned;string 0 to 1;life 9;up 0;");
        sentence(6, "Of a string, what 0: from, 1: to, 2: TIMES, 3: 1 if turned, else 0, 4: 1 if WHOLE, else 0, 5: WEAR.");
        int[] want = {1, 0, 3, 1, 1, 0};
        int[] wantOther = {0, 1, 1, 0, 1, 0};
        for (int what = 0; what < want.length; what++) {
            due("string(0, " + what + ")", x.string(0, what), want[what]);
            due("string(1, " + what + ")", x.string(1, what), wantOther[what]);
        }
        x.beat(1);
        due("wear of one whose limb moved", x.string(0, 5), 1);
        due("wear of one whose limb stayed", x.string(1, 5), 0);
        x.cut(0);
        due("one that is cut", x.string(0, 4), 0);
        sentence(6, "-2.");
        for (int k : NO_STRINGS) {
            leaves("string(" + k + ", 0)", y -> y.string(k, 0), -2);
        }
        int[] badWhat = {-1, 6, Integer.MIN_VALUE, Integer.MAX_VALUE};
        for (int what : badWhat) {
            leaves("string(0, " + what + ")", y -> y.string(0, what), -2);
        }
    }

    private static void nudge() {
        sentence(7, "To NUDGE: a LIMB is otherwise.");
        StringHands x = told(LIMBS_10);
        due("down to up", x.nudge(9), 512);
        due("another one", x.nudge(0), 513);
        due("up to down", x.nudge(9), 1);
        sentence(7, "A NUDGE: THE POSE then.");
        x = told(RING + "up 0;life 1;");
        due("nudge(2)", x.nudge(2), 5);
        due("the pose", x.count(4), 5);
        due("no string wears", x.string(2, 5), 0);
        sentence(7, "-2.");
        for (int l : NO_LIMBS) {
            leaves("nudge(" + l + ")", y -> y.nudge(l), -2);
        }
        leaves("nudge(10) of ten", () -> told(LIMBS_10), y -> y.nudge(10), -2);
    }

    private static void strike() {
        sentence(8, "A POSE: LIMBS that are UP, as bits.");
        StringHands x = told(LIMBS_10);
        due("all of ten", x.strike(1023), 10);
        due("the highest limb", x.limb(9, 0), 1);
        due("the least pose", x.strike(0), 10);
        due("limb 3 alone", x.strike(8), 1);
        due("limb(3, 0)", x.limb(3, 0), 1);
        due("limb(2, 0)", x.limb(2, 0), 0);
        sentence(8, "THE POSE is a told one: how many LIMBS are otherwise (0: nothing was done).");
        x = told(RING + "up 0;life 1;");
        due("strike(6)", x.strike(6), 3);
        due("the pose", x.count(4), 6);
        due("no string wears", x.string(0, 5), 0);
        due("strike(7)", x.strike(7), 1);
        due("strike(7) again", x.strike(7), 0);
        due("what can be undone", x.count(5), 2);
        leaves("the pose as it is", y -> y.strike(y.count(4)), 0);
        due("no limbs", new StringHands().strike(0), 0);
        sentence(8, "-3: it has others than LIMBS.");
        for (int p : NO_POSES) {
            leaves("strike(" + p + ")", y -> y.strike(p), -3);
        }
        leaves("strike(1024) of ten", () -> told(LIMBS_10), y -> y.strike(1024), -3);
        due("strike(1) of none", new StringHands().strike(1), -3);
    }

    private static void beat() {
        sentence(9, "n BEATS (1 to 200): how often LIMBS moved in these.");
        StringHands x = told(RING + "up 0;");
        due("beat(1)", x.beat(1), 2);
        due("the pose", x.count(4), 2);
        due("beat(2)", x.beat(2), 4);
        due("the pose", x.count(4), 1);
        due("beat(200)", x.beat(200), 400);
        due("the pose", x.count(4), 4);
        x.strike(7);
        due("no limb moves", x.beat(3), 0);
        due("no limbs", new StringHands().beat(1), 0);
        sentence(9, "-3.");
        int[] bad = {0, -1, 201, Integer.MIN_VALUE, Integer.MAX_VALUE};
        for (int n : bad) {
            leaves("beat(" + n + ")", y -> y.beat(n), -3);
        }
    }

    private static void beatMeans() {
        sentence(9, "A string that is WHOLE pulls with its TIMES, if the LIMB it comes from is UP (turned: DOWN)");
        StringHands x = told("puppet 3;string 0 to 2 times 3;string 1 to 2 times 2 turned;");
        due("down, down", x.limb(2, 5), 2);
        x.nudge(0);
        due("up, down", x.limb(2, 5), 5);
        x.nudge(1);
        due("up, up", x.limb(2, 5), 3);
        x.nudge(0);
        due("down, up", x.limb(2, 5), 0);
        x.nudge(1);
        x.cut(1);
        due("a turned one that is not whole", x.limb(2, 5), 0);
        sentence(9, "PULLS of a LIMB: of all WHOLE strings to it together.");
        x = told("puppet 2;" + "string 0 to 1 times 3;".repeat(16) + "up 0;");
        due("16 strings", x.limb(1, 5), 48);
        due("none goes to it", x.limb(0, 5), 0);
        x.cut(3);
        x.cut(15);
        due("14 strings", x.limb(1, 5), 42);
        sentence(9, "A BEAT, all LIMBS at once");
        x = told("puppet 3;string 0 to 1;string 1 to 0;rule 2 : up 0 = 1;up 0;");
        due("two change places", x.beat(1), 3);
        due("the third sees what was", x.count(4), 6);
        due("and again", x.beat(1), 3);
        due("the pose", x.count(4), 1);
        sentence(9, "a LIMB with a RULE is UP then, if that holds");
        x = told("puppet 2;string 0 to 1;need 1 1;rule 1 : up 0 = 0;");
        due("whatever its need: up", x.next(0), 2);
        due("whatever its pulls: down", x.next(1), 1);
        sentence(9, "else, if WHOLE strings go to it, if its PULLS are its NEED or more");
        x = told("puppet 3;string 0 to 2 times 2;string 1 to 2;need 2 2;");
        due("one less", x.next(2 + 4), 2);
        due("the need", x.next(1), 1 + 4);
        due("more", x.next(3), 3 + 4);
        due("no pull", x.next(4), 0);
        sentence(9, "else it stays as it is.");
        x = told("puppet 2;string 0 to 1 turned;need 0 9;");
        due("no string goes to limb 0", x.next(1), 1);
        x.cut(0);
        due("up stays", x.next(3), 3);
        due("down stays", x.next(0), 0);
    }

    /** Limb 0 is up, limb 1 down; the rule is limb 0's, to which a string comes from limb 1. */
    private static void holds(String truth, boolean is) {
        StringHands x = told("puppet 2;string 1 to 0 times 3 turned;up 0;rule 0 : " + truth + ";");
        due("rule " + truth, x.limb(0, 7), is ? 1 : 0);
    }

    private static void rulesOfBeats() {
        sentence(9, "A RULE: up N: 1 if that LIMB is UP, else 0");
        holds("up 0 = 1", true);
        holds("up 1 = 0", true);
        holds("up 1 = 1", false);
        sentence(9, "me: so for the LIMB itself");
        holds("me = 1", true);
        holds("me = 0", false);
        StringHands x = told("puppet 2;up 0;rule 1 : me = 0;");
        due("limb 1 is meant", x.next(1), 3);
        due("limb 1 is meant", x.next(3), 1);
        sentence(9, "pulls: its PULLS");
        holds("pulls = 3", true);
        holds("pulls = 0", false);
        x = told("puppet 2;string 1 to 0 times 3;string 1 to 0 times 2;rule 0 : pulls > 4;");
        due("five", x.next(2), 3);
        x.cut(1);
        due("three", x.next(2), 2);
        x.cut(0);
        due("none", x.next(2), 2);
        sentence(9, "each + - * kept from -1,000,000 to 1,000,000.");
        holds("999 * 999 * 999 = 1 + 999 * 999 + 999 * 2", true);
        holds("999 * 999 * 999 = 999 * 999 + 999 + 999 + 1", true);
        holds("999 * 999 * 999 = 999 * 999 + 999 + 999", false);
        holds("999 * 999 + 999 + 999 + 1 > 999 * 999 + 999 + 999", true);
        holds("999 * 999 + 999 + 999 + 2 = 999 * 999 + 999 + 999 + 1", true);
        holds("999 * 999 * 999 - 1 + 5 - 1 < 999 * 999 * 999", true);
        holds("999 * 999 + 999 * 999 - 999 * 999 = 999 + 999 + 1", true);
        holds("0 - 999 * 999 - 999 - 999 - 1 < 0 - 999 * 999 - 999 - 999", true);
        holds("0 - 999 * 999 - 999 - 999 - 2 = 0 - 999 * 999 - 999 - 999 - 1", true);
        holds("( 0 - 999 * 999 * 999 ) * ( 999 * 999 * 999 ) = 0 - 999 * 999 * 999", true);
        holds("( 0 - 999 * 999 * 999 ) * ( 0 - 999 * 999 * 999 ) = 999 * 999 * 999", true);
        sentence(9, "SUM: TERM { + TERM | - TERM }; TERM: ATOM { * ATOM }");
        holds("1 + 2 * 3 = 7", true);
        holds("2 * 3 + 1 = 7", true);
        holds("( 1 + 2 ) * 3 = 9", true);
        holds("10 - 3 - 2 = 5", true);
        holds("10 - ( 3 - 2 ) = 9", true);
        holds("2 - 3 < 0", true);
        holds("2 * 2 * 2 = 8", true);
        sentence(9, "one of = < >");
        holds("1 < 1", false);
        holds("1 < 2", true);
        holds("2 < 1", false);
        holds("1 > 1", false);
        holds("2 > 1", true);
        holds("1 > 2", false);
        holds("1 = 1", true);
        holds("2 = 1", false);
        holds("1 = 2", false);
        holds("1 < 2 and 1 = 1", true);
        holds("1 = 1 and 2 > 1", true);
        holds("not 1 < 2", false);
        holds("not 2 > 1", false);
        holds("not 1 = 1", false);
        sentence(9, "TRUTH: BOTH { or BOTH }; BOTH: UNIT { and UNIT }");
        holds("1 = 1 or 1 = 1 and 1 = 2", true);
        holds("1 = 2 and 1 = 1 or 1 = 1", true);
        holds("[ 1 = 1 or 1 = 1 ] and 1 = 2", false);
        holds("1 = 2 or 1 = 2", false);
        holds("1 = 1 or 1 = 1", true);
        holds("1 = 1 and 1 = 1", true);
        holds("1 = 1 and 1 = 1 and 1 = 2", false);
        holds("1 = 2 or 1 = 2 or 1 = 1", true);
        sentence(9, "UNIT: not UNIT, [ TRUTH ]");
        holds("not 1 = 2 and 1 = 2", false);
        holds("not 1 = 1 or 1 = 1", true);
        holds("not [ 1 = 2 and 1 = 2 ]", true);
        holds("not not 1 = 2", false);
        holds("not not not not not not 1 = 1", true);
        holds("[[[[[[ 1 = 2 ]]]]]] or 1 = 1", true);
        holds("1 = 1 and [ 1 = 2 or 1 = 1 and [ 1 = 2 or 1 = 1 and [ 1 = 2 or 1 = 1 and [ 1 = 2 or 1 = 1 and 1 + 1 * 1 = 2 ] ] ] ]", true);
        holds("1 + 2 * ( 1 + 2 * ( 1 + 2 * ( 1 + 2 * ( 1 + 2 * ( 1 + 2 * ( 1 + 2 ) ) ) ) ) ) = 255", true);
    }

    private static void wear() {
        sentence(9, "WEAR: in a BEAT each WHOLE string wears by 1, whose first LIMB is otherwise behind it");
        // 00 -> 10 -> 11 -> 01 -> 00: limb 1 moves first, then limb 0, each in every second beat.
        String four = "puppet 2;string 0 to 1 turned;string 1 to 0;string 0 to 1 times 2 turned;";
        StringHands x = told(four);
        x.beat(1);
        due("limb 1 moved", x.string(1, 5), 1);
        due("limb 0 stayed", x.string(0, 5), 0);
        x.beat(1);
        due("limb 1 stayed", x.string(1, 5), 1);
        due("limb 0 moved", x.string(0, 5), 1);
        due("both from limb 0 wear", x.string(2, 5), 1);
        x.cut(0);
        x.beat(2);
        due("one that is cut wears no more", x.string(0, 5), 1);
        due("the other one wears", x.string(2, 5), 2);
        x.beat(200);
        due("without a life none breaks", x.count(3), 2);
        due("however it is worn", x.string(2, 5), 102);
        x = told(RING + "up 0;");
        x.moves(0, 2);
        x.nudge(0);
        x.nudge(1);
        x.beat(1);
        due("pose", x.count(4), 4);
        due("the limb it comes from now", x.string(0, 5), 1);
        sentence(9, "with a LIFE, one whose WEAR is LIFE or more breaks behind the BEAT (it is WHOLE no more).");
        x = told(four + "life 3;");
        x.beat(4);
        due("whole with 2", x.count(3), 3);
        due("wear", x.string(1, 5), 2);
        due("the third wears it out, and it pulled in that beat", x.beat(1), 1);
        due("broken", x.string(1, 4), 0);
        due("its wear stays", x.string(1, 5), 3);
        due("the others are whole", x.count(3), 2);
        due("pose", x.count(4), 2);
        due("limb 0 stays then", x.beat(9), 0);
        x = told(RING + "life 1;up 0;");
        x.beat(1);
        due("two break at once", x.count(3), 1);
        due("the one that is left", x.string(2, 4), 1);
        x = told("puppet 2;string 0 to 1;rule 0 : me = 0;life 99;");
        x.beat(98);
        due("98 of 99", x.count(3), 1);
        x.beat(1);
        due("99 of 99", x.count(3), 0);
        sentence(9, "At first all are WHOLE, WEAR 0.");
        x = told("puppet 2;" + "string 0 to 1;".repeat(16));
        due("whole", x.count(3), 16);
        for (int k = 0; k < 16; k++) {
            due("string(" + k + ", 4)", x.string(k, 4), 1);
            due("string(" + k + ", 5)", x.string(k, 5), 0);
        }
    }

    private static void cut() {
        sentence(10, "A CUT: WHOLE strings then.");
        StringHands x = told(RING);
        due("cut(1)", x.cut(1), 2);
        due("cut(0)", x.cut(0), 1);
        due("cut(2)", x.cut(2), 0);
        due("the 16th", told("puppet 2;" + "string 0 to 1;".repeat(16)).cut(15), 15);
        sentence(10, "To CUT: a WHOLE one is WHOLE no more");
        x = told(RING + "up 0;");
        x.beat(1);
        x.cut(1);
        due("string(1, 4)", x.string(1, 4), 0);
        due("string(0, 4)", x.string(0, 4), 1);
        due("its wear stays", x.string(1, 5), 1);
        due("it pulls no more", x.next(2), 0);
        due("limb 2 stays as it is", x.next(4), 5);
        due("the pose stays", x.count(4), 2);
        sentence(10, "-2; -5: it isn't WHOLE.");
        for (int k : NO_STRINGS) {
            leaves("cut(" + k + ")", y -> y.cut(k), -2);
        }
        leaves("one that was cut", y -> y.cut(1), -5);
        due("the 17th", told("puppet 2;" + "string 0 to 1;".repeat(16)).cut(16), -2);
        due("without strings", new StringHands().cut(0), -2);
        x = told("puppet 2;string 0 to 1;rule 0 : me = 0;life 1;");
        x.beat(1);
        due("one that broke", x.cut(0), -5);
    }

    private static void tie() {
        sentence(11, "A string is TIED: WHOLE ones then.");
        StringHands x = told(RING);
        x.cut(0);
        x.cut(2);
        due("tie(2)", x.tie(2), 2);
        due("string(2, 4)", x.string(2, 4), 1);
        due("string(0, 4)", x.string(0, 4), 0);
        due("tie(0)", x.tie(0), 3);
        sentence(11, "to TIE: one that isn't is WHOLE, WEAR 0.");
        x = told(RING + "up 0;");
        x.beat(1);
        x.cut(1);
        due("worn", x.string(1, 5), 1);
        x.tie(1);
        due("wear", x.string(1, 5), 0);
        due("wear of another one", x.string(0, 5), 1);
        x = told("puppet 2;string 0 to 1;rule 0 : me = 0;life 2;");
        x.beat(2);
        due("broken", x.string(0, 4), 0);
        due("tie(0)", x.tie(0), 1);
        x.beat(1);
        due("it wears from 0 on", x.string(0, 4), 1);
        x.beat(1);
        due("and breaks again", x.string(0, 4), 0);
        sentence(11, "-2; -5: it is WHOLE.");
        for (int k : NO_STRINGS) {
            leaves("tie(" + k + ")", y -> y.tie(k), -2);
        }
        leaves("one that is whole", y -> y.tie(0), -5);
    }

    private static void moves() {
        sentence(12, "A string comes from another LIMB: the one ahead.");
        StringHands x = told(RING);
        due("moves(0, 2)", x.moves(0, 2), 0);
        due("from", x.string(0, 0), 2);
        due("to stays", x.string(0, 1), 1);
        due("next", x.next(4), 3);
        due("back", x.moves(0, 0), 2);
        due("next", x.next(4), 1);
        x = told(RING + "up 0;");
        x.beat(1);
        x.cut(0);
        due("one that is not whole", x.moves(0, 2), 0);
        due("it is not whole then", x.string(0, 4), 0);
        due("its wear stays", x.string(0, 5), 1);
        due("the tenth limb", told(LIMBS_10 + "string 0 to 1;").moves(0, 9), 0);
        sentence(12, "-2: the string, the LIMB");
        for (int k : NO_STRINGS) {
            leaves("moves(" + k + ", 0)", y -> y.moves(k, 0), -2);
        }
        for (int l : NO_LIMBS) {
            leaves("moves(0, " + l + ")", y -> y.moves(0, l), -2);
        }
        sentence(12, "-5: the LIMB is the one it goes to, or comes from.");
        leaves("the one it goes to", y -> y.moves(0, 1), -5);
        leaves("the one it comes from", y -> y.moves(0, 0), -5);
        leaves("of one that isn't whole", y -> y.moves(1, 2), -5);
    }

    private static void swap() {
        sentence(13, "PLACES: LIMBS lie in a row, at first in order");
        StringHands x = told(LIMBS_10);
        for (int l = 0; l < 10; l++) {
            due("limb(" + l + ", 8)", x.limb(l, 8), l);
        }
        sentence(13, "two neighbours can be SWAPPED.");
        x.swap(8);
        due("limb(8, 8)", x.limb(8, 8), 9);
        due("limb(9, 8)", x.limb(9, 8), 8);
        x.swap(7);
        due("by places, not by numbers", x.limb(9, 8), 7);
        due("limb(7, 8)", x.limb(7, 8), 8);
        due("limb(8, 8) stays", x.limb(8, 8), 9);
        sentence(13, "LIMBS at a place and the next one are SWAPPED: TANGLES then.");
        x = told("puppet 4;string 0 to 3;string 1 to 2;");
        due("swap(0)", x.swap(0), 0);
        due("limb(0, 8)", x.limb(0, 8), 1);
        due("limb(1, 8)", x.limb(1, 8), 0);
        due("limb(2, 8)", x.limb(2, 8), 2);
        due("swap(2)", x.swap(2), 1);
        due("the pose", x.count(4), 0);
        sentence(13, "-3: no such places.");
        int[] bad = {-1, 2, 3, 9, Integer.MIN_VALUE, Integer.MAX_VALUE};
        for (int place : bad) {
            leaves("swap(" + place + ")", y -> y.swap(place), -3);
        }
        due("one limb", told("puppet 1;").swap(0), -3);
        due("no limbs", new StringHands().swap(0), -3);
        due("swap(-1) of none", new StringHands().swap(-1), -3);
        due("swap(9) of ten", told(LIMBS_10).swap(9), -3);
    }

    private static void undo() {
        sentence(14, "n calls (1 to 10) are UNDONE: how many still can be.");
        StringHands x = told(RING);
        for (int i = 0; i < 10; i++) {
            x.nudge(i % 3);
        }
        due("undo(1)", x.undo(1), 9);
        due("undo(3)", x.undo(3), 6);
        due("pose", x.count(4), 0);
        due("undo(6)", x.undo(6), 0);
        sentence(14, "the latest first");
        x = told(RING);
        x.nudge(0);
        x.nudge(1);
        x.nudge(2);
        x.undo(1);
        due("pose", x.count(4), 3);
        x.nudge(0);
        x.undo(2);
        due("pose", x.count(4), 1);
        due("one is left", x.undo(1), 0);
        due("pose", x.count(4), 0);
        x = told(LIMBS_10);
        for (int l = 0; l < 10; l++) {
            x.nudge(l);
        }
        x.nudge(0);
        x.nudge(1);
        int[] poses = {1022, 1023, 511, 255, 127, 63, 31, 15, 7, 3};
        for (int i = 0; i < 10; i++) {
            due("one by one", x.undo(1), 9 - i);
            due("pose", x.count(4), poses[i]);
        }
        sentence(14, "10 at most (eldest are forgotten)");
        x = told(RING);
        for (int i = 0; i < 13; i++) {
            x.nudge(i % 3);
            due("calls that can be undone", x.count(5), Math.min(i + 1, 10));
        }
        due("undo(10)", x.undo(10), 0);
        due("three are forgotten", x.count(4), 7);
        sentence(14, "-3: n, more than can be.");
        due("none is left", x.undo(1), -3);
        int[] bad = {0, -1, 5, 10, 11, Integer.MIN_VALUE, Integer.MAX_VALUE};
        for (int n : bad) {
            leaves("undo(" + n + ") of four", y -> y.undo(n), -3);
        }
        leaves("undo(11) of ten", DeedSentences::tenDone, y -> y.undo(11), -3);
        due("undo(10) of ten", tenDone().undo(10), 0);
        due("a new object", new StringHands().undo(1), -3);
    }

    private static StringHands tenDone() {
        StringHands x = told(RING);
        for (int i = 0; i < 12; i++) {
            x.beat(1);
        }
        return x;
    }

    private static void undoneWhole() {
        sentence(14, "Each call that did something (a NUDGE, another POSE, a BEAT, whether or not LIMBS move, a CUT, a TIE, "
                + "another end of a string, a SWAP; one of them at least) can be UNDONE as a whole");
        StringHands plain = told(RING);
        undone("a nudge", x -> x.nudge(1));
        undone("another pose", x -> x.strike(7));
        undone("a beat", x -> x.beat(1));
        undone("beats", x -> x.beat(77));
        undone("a cut", x -> x.cut(0));
        undone("a tie", x -> x.tie(1));
        undone("another end", x -> x.moves(0, 2));
        undone("a swap", x -> x.swap(0));
        undone("deeds in a row", x -> x.perform(1));
        undone("a season", x -> x.season(7, 60));
        due("a beat in which no limb moves", plain.beat(1), 0);
        due("it can be undone", plain.undo(1), 0);
        plain.strike(0);
        plain.perform(0);
        plain.troupe(1);
        plain.cut(9);
        plain.film(0);
        plain.breaks(0);
        due("calls that did nothing", plain.count(5), 0);
        fill(plain, 0, 0, 0);
        plain.perform(0);
        due("deeds behind which all is as it was", plain.undo(1), 0);
        sentence(14, "THE POSE, strings, WEAR, places.");
        StringHands x = told(RING + "up 0;life 3;");
        x.beat(1);
        x.swap(1);
        x.beat(2);
        x.moves(2, 1);
        x.cut(0);
        x.tie(0);
        due("undo(5)", x.undo(5), 1);
        due("pose", x.count(4), 2);
        due("whole", x.count(3), 3);
        due("from", x.string(2, 0), 2);
        due("wear of 0", x.string(0, 5), 1);
        due("wear of 2", x.string(2, 5), 0);
        due("place", x.limb(1, 8), 1);
        due("next as it was", x.next(3), 6);
        due("later as it was", x.later(3, 1), 6);
    }

    private static void undone(String what, java.util.function.ToLongFunction<StringHands> deed) {
        StringHands x = busy();
        deed.applyAsLong(x);
        due("calls behind " + what, x.count(5), 5);
        due("undo(1) behind " + what, x.undo(1), 4);
        same(what + ", undone,", x, busy());
    }

    private static void judge() {
        sentence(15, "DEEDS in a ROW, judged as if done");
        StringHands x = told("puppet 3;string 0 to 1;string 1 to 2;life 1;");
        fill(x, 0, 0, -1, 101, 201, 100);
        // The nudge wears nothing; behind the beat limb 1 has moved, so that string 1 is broken.
        due("the third can't be", x.judge(0, 0), 2);
        due("pose", x.count(4), 0);
        due("whole", x.count(3), 2);
        due("wear", x.string(1, 5), 0);
        for (int what = 0; what < 4; what++) {
            int asked = what;
            leaves("judge(1, " + what + ")", y -> y.judge(1, asked) < -1 ? -2 : 0, 0);
        }
        sentence(15, "what 0: the first place that can't be (NONE), 1: why (0), 2: THE POSE then, 3: WHOLE strings then.");
        due("judge(0, 0)", x.judge(0, 0), 2);
        due("judge(0, 1)", x.judge(0, 1), 2);
        due("judge(0, 2)", x.judge(0, 2), 3);
        due("judge(0, 3)", x.judge(0, 3), 1);
        fill(x, 0, 0, -1, 201, 100, -1);
        due("all can be", x.judge(0, 0), -1);
        due("why", x.judge(0, 1), 0);
        due("pose", x.judge(0, 2), 7);
        due("whole", x.judge(0, 3), 1);
        fill(x, 0, 7);
        due("one that can't be", x.judge(0, 1), 1);
        fill(x, 0);
        due("no deeds", x.judge(0, 0), -1);
        due("no deeds: why", x.judge(0, 1), 0);
        due("no deeds: pose", x.judge(0, 2), 0);
        due("no deeds: whole", x.judge(0, 3), 2);
        x.numbers(0, 0, 40);
        x.write(0, 39, 3);
        due("the fortieth", x.judge(0, 0), 39);
        sentence(15, "-2: the ROW, what; -6.");
        for (int row : NO_ROWS) {
            leaves("judge(" + row + ", 0)", y -> y.judge(row, 0), -2);
        }
        int[] badWhat = {-1, 4, Integer.MIN_VALUE, Integer.MAX_VALUE};
        for (int what : badWhat) {
            leaves("judge(1, " + what + ")", y -> y.judge(1, what), -2);
        }
        leaves("judge(3, 0)", y -> y.judge(3, 0), -6);
        sentence(15, "(Of several that which the call tells first; all these ahead of NONE.)");
        due("what, and a row that is missing", x.judge(3, 4), -2);
    }

    /** Why a deed can't be, behind others in a row; the object has the most limbs and strings, string 15 is cut. */
    private static void why(long deed, int want) {
        StringHands x = told(LIMBS_10 + "string 0 to 1;".repeat(16));
        x.cut(15);
        fill(x, 0, 9, deed);
        due("judge of " + deed, x.judge(0, 1), want);
        due("place of " + deed, x.judge(0, 0), want == 0 ? -1 : 1);
    }

    private static void deedsThatCanNotBe() {
        sentence(15, "DEEDS in a ROW: 0 and more: the LIMB is NUDGED");
        StringHands x = told(LIMBS_10);
        fill(x, 0, 0, 9, 3, 9);
        due("pose", x.judge(0, 2), 1 + 8);
        sentence(15, "100 and more: string less 100 is CUT");
        x = told(RING);
        fill(x, 0, 102, 100);
        due("whole", x.judge(0, 3), 1);
        x.perform(0);
        due("string 1 is left", x.string(1, 4), 1);
        sentence(15, "200 and more: string less 200 is TIED");
        fill(x, 0, 202);
        due("whole", x.judge(0, 3), 2);
        x.perform(0);
        due("string 2", x.string(2, 4), 1);
        due("string 0", x.string(0, 4), 0);
        sentence(15, "NONE: a BEAT.");
        x = told(RING + "up 0;life 3;");
        fill(x, 0, -1, -1);
        due("pose", x.judge(0, 2), 4);
        x.perform(0);
        due("it wears", x.string(1, 5), 2);
        fill(x, 0, -1, -1);
        due("and breaks", x.judge(0, 3), 1);
        sentence(15, "It can't be with: 1 no such LIMB, string, DEED");
        long[] can = {0, 9, 100, 114, 215, -1};
        for (long deed : can) {
            why(deed, 0);
        }
        long[] none = {10, 99, 116, 199, 216, 300, -2, -100, 1L << 32, (1L << 32) + 100, Integer.MAX_VALUE, Integer.MIN_VALUE,
            (1L << 32) - 1, Long.MAX_VALUE, Long.MIN_VALUE};
        for (long deed : none) {
            why(deed, 1);
        }
        sentence(15, "2 it is WHOLE no more (CUT), it is WHOLE (TIE).");
        why(115, 2);
        why(200, 2);
        why(214, 2);
        x = told(RING);
        fill(x, 0, 100, 100);
        due("cut by the row itself", x.judge(0, 1), 2);
        fill(x, 0, 100, 200, 200);
        due("tied by the row itself", x.judge(0, 0), 2);
    }

    private static void perform() {
        sentence(16, "They are done, till one can't be: how many.");
        StringHands x = told("puppet 3;string 0 to 1;string 1 to 2;life 1;");
        fill(x, 0, 0, -1, 101, 2);
        due("two of four", x.perform(0), 2);
        due("pose", x.count(4), 3);
        due("whole", x.count(3), 1);
        due("wear", x.string(1, 5), 1);
        due("one call", x.count(5), 1);
        fill(x, 0, 201, 2, -1);
        due("all", x.perform(0), 3);
        fill(x, 0, 3, 0);
        due("none", x.perform(0), 0);
        due("nothing was done", x.count(5), 2);
        fill(x, 0);
        due("no deeds", x.perform(0), 0);
        due("nothing was done", x.count(5), 2);
        x.numbers(0, 0, 40);
        due("forty", x.perform(0), 40);
        due("one call", x.count(5), 3);
        due("the row stays", x.perform(0), 40);
        sentence(16, "-2; -6.");
        for (int row : NO_ROWS) {
            leaves("perform(" + row + ")", y -> y.perform(row), -2);
        }
        leaves("perform(3)", y -> y.perform(3), -6);
    }

    // ---- seasons; the draws are worked out here as longs

    private static long then(long x) {
        return 1103515245L * x + 12345 & 0xFFFFFFFFL;
    }

    private static int drawn(int seed, int nth) {
        long x = seed & 0xFFFFFFFFL;
        for (int i = 0; i < nth; i++) {
            x = then(x);
        }
        return (int) (x >> 16);
    }

    /** A seed whose first draw is so modulo 4, and its highest bit (of x behind it) too. */
    private static int seedFor(int rest, boolean high) {
        int seed = 0;
        while (drawn(seed, 1) % 4 != rest || drawn(seed, 1) >= 32768 != high) {
            seed++;
        }
        return seed;
    }

    private static void season() {
        sentence(17, "A SEASON: THE POSE then.");
        StringHands x = told("puppet 2;up 0;");
        due("season(0, 1)", x.season(0, 1), 1 ^ 1 << drawn(0, 2) % 2);
        due("the pose", x.count(4), 1 ^ 1 << drawn(0, 2) % 2);
        due("one call", x.count(5), 1);
        sentence(17, "so many times (1 to 60)");
        x = told("puppet 5;");
        due("60", x.season(5, 60), nudgedAlone(5, 60, 5));
        x = told("puppet 5;");
        due("1", x.season(5, 1), nudgedAlone(5, 1, 5));
        x = told("puppet 5;");
        due("17", x.season(5, 17), nudgedAlone(5, 17, 5));
        sentence(17, "-3: how many times; -5: no LIMBS.");
        int[] bad = {0, -1, 61, Integer.MIN_VALUE, Integer.MAX_VALUE};
        for (int times : bad) {
            leaves("season(1, " + times + ")", y -> y.season(1, times), -3);
        }
        leaves("no limbs", StringHands::new, y -> y.season(1, 60), -5);
        sentence(17, "(Of several that which the call tells first; all these ahead of NONE.)");
        due("no limbs, 0 times", new StringHands().season(1, 0), -3);
        due("no limbs, 61 times", new StringHands().season(1, 61), -3);
    }

    /** What a season comes to without strings, from the pose 0: nudges alone move limbs. */
    private static int nudgedAlone(int seed, int times, int limbs) {
        int pose = 0;
        int nth = 1;
        for (int i = 0; i < times; i++) {
            if (drawn(seed, nth) % 4 == 0) {
                nth++;
                pose ^= 1 << drawn(seed, nth) % limbs;
            }
            nth++;
        }
        return pose;
    }

    private static void seasonByDraws() {
        sentence(17, "A SEASON by a SEED (x, an int; a DRAW: x becomes 1103515245 x + 12345, it is x >>> 16)");
        int[] seeds = {0, 1, -1, 12345, Integer.MIN_VALUE, Integer.MAX_VALUE, 0x12345678};
        for (int seed : seeds) {
            due("season(" + seed + ", 60) of ten limbs", told(LIMBS_10).season(seed, 60), nudgedAlone(seed, 60, 10));
            due("season(" + seed + ", 60) of three", told("puppet 3;").season(seed, 60), nudgedAlone(seed, 60, 3));
        }
        sentence(17, "DRAW modulo 4: 0 LIMB DRAW modulo LIMBS is NUDGED");
        for (int i = 0; i < 2; i++) {
            int seed = seedFor(0, i == 1);
            StringHands x = told(RING + "life 1;");
            due("a nudge by " + seed, x.season(seed, 1), 1 << drawn(seed, 2) % 3);
            due("it wears nothing", x.count(3), 3);
            due("one limb", told("puppet 1;").season(seed, 1), 1);
        }
        sentence(17, "1 (if there are strings) string DRAW modulo strings: CUT if it is WHOLE, else TIED");
        for (int i = 0; i < 2; i++) {
            int seed = seedFor(1, i == 1);
            int k = drawn(seed, 2) % 3;
            StringHands x = told(RING + "up 0;up 1;");
            x.beat(2);
            x.season(seed, 1);
            due("cut by " + seed, x.string(k, 4), 0);
            due("one alone", x.count(3), 2);
            due("its wear stays", x.string(k, 5) > 0 ? 1 : 0, 1);
            x.season(seed, 1);
            due("tied by " + seed, x.string(k, 4), 1);
            due("its wear", x.string(k, 5), 0);
            due("the pose stays", x.count(4), 5);
            x = told("puppet 2;string 0 to 1;");
            x.season(seed, 1);
            due("one string", x.count(3), 0);
        }
        sentence(17, "else a BEAT.");
        for (int rest = 2; rest < 4; rest++) {
            StringHands x = told(RING + "up 0;");
            due("a beat for " + rest, x.season(seedFor(rest, true), 1), 2);
            due("it wears", x.string(1, 5), 1);
            due("and again", x.season(seedFor(rest, false), 1), 4);
        }
        StringHands x = told("puppet 2;rule 0 : me = 0;");
        due("a beat for 1 without strings", x.season(seedFor(1, true), 1), 1);
        due("and again", x.season(seedFor(1, false), 1), 0);
    }
}

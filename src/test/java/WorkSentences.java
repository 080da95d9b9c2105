/** Promises 29 to 37: who works whom, scripts, tangles. */
final class WorkSentences extends Sentences {
    /** 0 works 1 by two strings, 1 and 2 work one another, 2 works 3 by a rule, 3 works 4 by a string. */
    private static final String LINE = "puppet 5;string 0 to 1;string 0 to 1;string 1 to 2;string 2 to 1;string 3 to 4;"
            + "rule 3 : up 2 = 1 or up 3 = 1 or me = 1;rule 4 : pulls > 0;";

    static void all() {
        works();
        part();
        parts();
        free();
        stops();
        begins();
        scriptRefused();
        rehearse();
        asTheyAre();
        tangles();
        leastTangles();
    }

    private static void works() {
        sentence(29, "A LIMB WORKS another one by a WHOLE string to it (if that has no RULE, or one with pulls)");
        due("no rule", told("puppet 2;string 0 to 1;").works(0), 2);
        due("a rule with pulls", told("puppet 2;string 0 to 1;rule 1 : 1 = 2 and pulls = 1;").works(0), 2);
        due("a rule without pulls", told("puppet 2;string 0 to 1;rule 1 : me = 1;").works(0), 0);
        due("a rule of the first limb is none", told("puppet 2;string 0 to 1;rule 0 : me = 1;").works(0), 2);
        due("a later rule without pulls", told("puppet 2;string 0 to 1;rule 1 : pulls = 1;rule 1 : me = 1;").works(0), 0);
        due("a later rule with pulls", told("puppet 2;string 0 to 1;rule 1 : me = 1;rule 1 : pulls = 1;").works(0), 2);
        due("two rules with pulls", told("puppet 2;string 0 to 1;rule 1 : pulls = 1;rule 1 : pulls = 2;").works(0), 2);
        due("not backward", told("puppet 2;string 0 to 1;").works(1), 0);
        due("whatever it needs", told("puppet 2;string 0 to 1;need 1 9;").works(0), 2);
        sentence(29, "or if up of it is in that one's RULE (its own up, me are none)");
        due("up", told("puppet 2;rule 1 : up 0 = 1;").works(0), 2);
        due("deep in it", told("puppet 2;rule 1 : 1 = 2 and not [ 1 = 1 - ( 0 * up 0 ) ];").works(0), 2);
        due("twice in it", told("puppet 2;rule 1 : up 0 + up 0 = 1;").works(0), 2);
        due("in it, and by a string", told("puppet 2;string 0 to 1;rule 1 : pulls + up 0 = 1;").works(0), 2);
        due("its own up", told("puppet 2;rule 1 : up 1 = 1;").works(1), 0);
        due("me", told("puppet 2;rule 1 : me = 1;").works(1), 0);
        due("a later rule's up", told("puppet 2;rule 1 : up 0 = 1;rule 1 : me = 1;").works(0), 0);
        due("the rule alone", told("puppet 3;rule 1 : up 0 = 1;rule 2 : me = 1;").works(0), 2);
        sentence(29, "and whom those WORK (itself, too, if it comes round).");
        StringHands x = told(LINE);
        due("works(0)", x.works(0), 2 + 4 + 8 + 16);
        due("works(1), itself too", x.works(1), 2 + 4 + 8 + 16);
        due("a wheel of rules and strings", told("puppet 3;string 2 to 0;rule 1 : up 0 = 1;string 1 to 2;").works(1), 7);
        StringBuilder backward = new StringBuilder(LIMBS_10);
        for (int l = 9; l > 0; l--) {
            backward.append("string ").append(l).append(" to ").append(l - 1).append(';');
        }
        due("nine steps on", told(backward.toString()).works(9), 511);
        sentence(29, "LIMBS that one WORKS, as bits.");
        due("works(3)", x.works(3), 16);
        due("works(4)", x.works(4), 0);
        leaves("works(0)", y -> y.works(2), 3);
        sentence(29, "-2.");
        for (int l : NO_LIMBS) {
            leaves("works(" + l + ")", y -> y.works(l), -2);
        }
    }

    private static void part() {
        sentence(30, "PART of a LIMB: it, and those that it WORKS and that WORK it.");
        StringHands x = told(LINE);
        due("0, that is worked by none", x.part(0), 1);
        due("1 and 2", x.part(1), 6);
        due("1 and 2", x.part(2), 6);
        due("3", x.part(3), 8);
        due("4, that works none", x.part(4), 16);
        due("without strings", told("puppet 2;").part(1), 2);
        sentence(30, "PART of a LIMB, as bits.");
        due("a ring", told(RING).part(2), 7);
        due("the tenth limb", told(LIMBS_10 + "string 0 to 9;rule 0 : up 9 = 1;").part(9), 513);
        leaves("part(0)", y -> y.part(0), 1);
        sentence(30, "-2.");
        for (int l : NO_LIMBS) {
            leaves("part(" + l + ")", y -> y.part(l), -2);
        }
    }

    private static void parts() {
        sentence(31, "How many PARTS there are.");
        due("four of five", told(LINE).parts(), 4);
        due("one", told(RING).parts(), 1);
        due("ten", told(LIMBS_10).parts(), 10);
        due("none", new StringHands().parts(), 0);
        due("two that are alike", told("puppet 4;string 0 to 3;string 3 to 0;string 1 to 2;string 2 to 1;").parts(), 2);
        leaves("parts()", y -> y.parts(), 3);
    }

    private static void free() {
        sentence(32, "FREE: the fewest WHOLE strings by whose CUT a LIMB WORKS another one no more (0: it does not).");
        StringHands x = told(LINE);
        due("both", x.free(0, 1), 2);
        due("one behind them", x.free(0, 2), 1);
        due("a string behind a rule", x.free(0, 4), 1);
        due("it does not", x.free(4, 0), 0);
        due("16 strings", told("puppet 2;" + "string 0 to 1;".repeat(16)).free(0, 1), 16);
        due("two ways", told("puppet 4;string 0 to 1;string 1 to 3;string 0 to 2;string 2 to 3;").free(0, 3), 2);
        due("two ways through one", told("puppet 5;string 0 to 1;string 0 to 2;string 1 to 3;string 2 to 3;string 3 to 4;").free(0, 4), 1);
        due("ways that cross", told("puppet 6;string 0 to 1;string 0 to 2;string 1 to 3;string 2 to 4;string 1 to 4;"
                + "string 2 to 3;string 3 to 5;string 4 to 5;").free(0, 5), 2);
        due("behind a rule, three times", told("puppet 3;rule 1 : up 0 = 1;string 1 to 2;string 1 to 2;string 1 to 2 times 3;").free(0, 2), 3);
        due("a string to a rule without pulls", told("puppet 2;string 0 to 1;rule 1 : me = 1;").free(0, 1), 0);
        x.cut(1);
        due("one is cut", x.free(0, 1), 1);
        x.cut(0);
        due("both are cut", x.free(0, 1), 0);
        sentence(32, "FREE: how many CUTS.");
        due("from the tenth limb", told(LIMBS_10 + "string 9 to 0;string 9 to 0;").free(9, 0), 2);
        leaves("free(2, 1)", y -> y.free(2, 1), 1);
        sentence(32, "NONE: no CUTS do (it WORKS by RULES alone), both one; -2.");
        x = told(LINE);
        due("by a rule", x.free(2, 3), -1);
        due("by a rule of limb 0", told("puppet 2;rule 0 : up 1 = 1;").free(1, 0), -1);
        due("by rules, one behind the other", told("puppet 3;rule 1 : up 0 = 1;rule 2 : up 1 = 1;string 0 to 2;").free(0, 2), -1);
        due("both one", x.free(1, 1), -1);
        due("both one, that does not work itself", x.free(0, 0), -1);
        for (int l : NO_LIMBS) {
            leaves("free(" + l + ", 0)", y -> y.free(l, 0), -2);
            leaves("free(0, " + l + ")", y -> y.free(0, l), -2);
        }
        sentence(32, "(Of several that which the call tells first; all these ahead of NONE.)");
        due("no limb, both one", x.free(5, 5), -2);
        due("no limb, both one", x.free(-1, -1), -2);
    }

    private static void stops() {
        sentence(33, "LIMBS that the first LIMB of a string WORKS, and would no more without it, as bits.");
        StringHands x = told(LINE);
        due("another one is left", x.stops(0), 0);
        due("all that is behind", x.stops(2), 2 + 4 + 8 + 16);
        due("round alone", x.stops(3), 2 + 4);
        due("the last", x.stops(4), 16);
        x.cut(0);
        due("none is left", x.stops(1), 2 + 4 + 8 + 16);
        x.moves(1, 4);
        due("the limb that it comes from now", x.stops(1), 2 + 4 + 8 + 16);
        due("a string to a rule without pulls", told("puppet 2;string 0 to 1;rule 1 : me = 1;").stops(0), 0);
        due("the 16th", told("puppet 3;" + "string 0 to 1;".repeat(15) + "string 1 to 2;").stops(15), 4);
        leaves("stops(0)", y -> y.stops(0), 2);
        sentence(33, "-2; -5: it isn't WHOLE.");
        for (int k : NO_STRINGS) {
            leaves("stops(" + k + ")", y -> y.stops(k), -2);
        }
        leaves("stops(1)", y -> y.stops(1), -5);
        x = told("puppet 2;string 0 to 1;rule 0 : me = 0;life 1;");
        x.beat(1);
        due("one that broke", x.stops(0), -5);
    }

    private static StringHands scripted(String text, long... scenes) {
        StringHands x = told(text);
        fill(x, 0, scenes);
        return x;
    }

    private static void begins() {
        sentence(34, "SCRIPT in a ROW (1 to 12 numbers): scenes: 1024 times LIMBS that are told (bits), and those of these that are UP");
        due("limb 0 is up", scripted(RING, 1025).begins(0, -1), 4);
        due("limb 0 is down", scripted(RING, 1024).begins(0, 0), 0);
        due("limb 0 is up, 1 is down", scripted(RING, 3 * 1024 + 1).begins(0, -1), 2);
        due("the second of these", scripted(RING, 3 * 1024 + 1).begins(0, 1), 5);
        due("none is told", scripted(RING, 0).begins(0, -1), 8);
        due("all of ten", scripted(LIMBS_10, 1023 * 1024 + 777).begins(0, 0), 777);
        due("one number", scripted(RING, 1025).begins(0, -1), 4);
        due("12 numbers", scripted(RING, 0, 0, 0, 0, 0, 0, 0, 0, 0, 0, 0, 7 * 1024 + 4).begins(0, 0), 1);
        due("12 numbers: one begins so", scripted(RING, 0, 0, 0, 0, 0, 0, 0, 0, 0, 0, 0, 7 * 1024 + 4).begins(0, -1), 1);
        sentence(34, "BEATS between them.");
        due("one beat", scripted(RING, 7 * 1024 + 1, 7 * 1024 + 2).begins(0, 0), 1);
        due("not the pose as it was", scripted(RING, 7 * 1024 + 1, 7 * 1024 + 1).begins(0, -1), 0);
        due("two beats", scripted(RING, 7 * 1024 + 1, 0, 7 * 1024 + 4).begins(0, 0), 1);
        sentence(34, "BEGINNINGS: POSES of all by which it is so.");
        StringHands x = scripted(RING + "up 2;", 1025, 2050);
        due("whatever the pose now", x.begins(0, -1), 4);
        due("no limbs", scripted("", 0, 0).begins(0, -1), 1);
        sentence(34, "How many BEGINNINGS a SCRIPT has (k NONE), else the k-th, the least first.");
        for (int k = 0; k < 4; k++) {
            due("begins(0, " + k + ")", x.begins(0, k), 2 * k + 1);
        }
        due("all of ten limbs", scripted(LIMBS_10, 0).begins(0, -1), 1024);
        due("the last of these", scripted(LIMBS_10, 0).begins(0, 1023), 1023);
        leaves("begins(0, -1)", y -> y.begins(0, -1), 0);
        sentence(34, "NONE: not so many");
        int[] bad = {4, 5, -2, Integer.MIN_VALUE, Integer.MAX_VALUE};
        for (int k : bad) {
            due("begins(0, " + k + ")", x.begins(0, k), -1);
        }
    }

    /** Busy, with a script of so many scenes in row 0, the last of them told. */
    private static StringHands script(int length, long last) {
        StringHands x = busy();
        x.numbers(0, 3, length);
        x.write(0, length - 1, last);
        return x;
    }

    private static final long[] BAD_SCENES = {-1, 1, 7, 1023, 8 * 1024, 1024 + 2, 1024 + 3, 1024 * 1024, Long.MAX_VALUE,
        Long.MIN_VALUE, 1L << 42, (1L << 32) + 1024, Integer.MIN_VALUE};

    private static void scriptRefused() {
        sentence(34, "-2; -6; -4: not 1 to 12 numbers; -3: one tells others than LIMBS, UP ones that are not told.");
        for (int row : NO_ROWS) {
            leaves("begins(" + row + ", 0)", y -> y.begins(row, 0), -2);
        }
        leaves("begins(3, 0)", y -> y.begins(3, 0), -6);
        leaves("no scenes", () -> script(0, 0), y -> y.begins(0, -1), -4);
        leaves("13 scenes", () -> script(13, 0), y -> y.begins(0, -1), -4);
        leaves("40 scenes", () -> script(40, 0), y -> y.begins(0, -1), -4);
        for (long scene : BAD_SCENES) {
            leaves("begins with " + scene, () -> script(12, scene), y -> y.begins(0, -1), -3);
        }
        due("without limbs", scripted("", 1024).begins(0, -1), -3);
        due("of ten limbs", scripted(LIMBS_10, 1024 * 1024).begins(0, -1), -3);
        sentence(34, "(Of several that which the call tells first; all these ahead of NONE.)");
        due("13, one of them can't be", script(13, -1).begins(0, 0), -4);
        due("one that can't be, not so many", script(12, -1).begins(0, 99), -3);
        due("missing, not so many", busy().begins(3, 99), -6);
        sentence(35, "-2; -6; -4; -3.");
        for (int row : NO_ROWS) {
            leaves("rehearse(" + row + ")", y -> y.rehearse(row), -2);
        }
        leaves("rehearse(3)", y -> y.rehearse(3), -6);
        leaves("no scenes", () -> script(0, 0), y -> y.rehearse(0), -4);
        leaves("13 scenes", () -> script(13, 0), y -> y.rehearse(0), -4);
        for (long scene : BAD_SCENES) {
            leaves("rehearse with " + scene, () -> script(12, scene), y -> y.rehearse(0), -3);
        }
        sentence(35, "(Of several that which the call tells first; all these ahead of NONE.)");
        due("13, one of them can't be", script(13, -1).rehearse(0), -4);
    }

    private static void rehearse() {
        sentence(35, "REHEARSED: by NUDGES of any LIMBS ahead of the first scene (THE POSE as it is) and of each later one "
                + "(behind the BEAT): the fewest.");
        due("the pose as it is", scripted(RING + "up 0;", 7 * 1024 + 1).rehearse(0), 0);
        due("ahead of the first", scripted(RING + "up 0;", 7 * 1024 + 2).rehearse(0), 2);
        due("no beat ahead of the first", scripted(RING + "up 0;", 7 * 1024 + 2, 7 * 1024 + 4).rehearse(0), 2);
        due("ahead of both", scripted(RING + "up 0;", 7 * 1024 + 2, 7 * 1024 + 2).rehearse(0), 4);
        due("ten limbs at once", scripted(LIMBS_10, 1023 * 1024 + 1023).rehearse(0), 10);
        due("ten limbs twelve times", scripted(LIMBS_10, 1023 * 1024 + 1023, 1023 * 1024, 1023 * 1024 + 1023, 1023 * 1024,
                1023 * 1024 + 1023, 1023 * 1024, 1023 * 1024 + 1023, 1023 * 1024, 1023 * 1024 + 1023, 1023 * 1024,
                1023 * 1024 + 1023, 1023 * 1024).rehearse(0), 120);
        String hand = "puppet 3;string 0 to 1;string 0 to 2;";
        due("one ahead in place of two behind", scripted(hand, 0, 6 * 1024 + 6).rehearse(0), 1);
        due("that one is told to be down", scripted(hand, 1024, 6 * 1024 + 6).rehearse(0), 2);
        due("a nudge behind the last beat", scripted(hand, 0, 7 * 1024 + 6).rehearse(0), 2);
        due("a nudge between", scripted(RING + "up 0;", 7 * 1024, 1025, 1024).rehearse(0), 2);
        sentence(35, "REHEARSED: NUDGES.");
        due("none is told", scripted(RING, 0, 0, 0).rehearse(0), 0);
        due("no limbs", scripted("", 0).rehearse(0), 0);
        leaves("rehearse(0)", () -> script(1, 7 * 1024), y -> y.rehearse(0), 2);
    }

    private static void asTheyAre() {
        String all = "All below is asked with strings as they are, without WEAR.";
        StringHands worn = told(RING + "life 1;up 0;");
        fill(worn, 0, 7 * 1024 + 1, 0, 0, 7 * 1024 + 1);
        StringHands x = told(RING + "up 0;");
        fill(x, 0, 0, 0, 7 * 1024 + 7);
        due("ahead", x.works(0), 7);
        x.cut(2);
        sentence(29, all);
        due("works(0), one is cut", x.works(0), 6);
        due("works(2), one is cut", x.works(2), 0);
        sentence(30, all);
        due("part(0), one is cut", x.part(0), 1);
        sentence(31, all);
        due("parts(), one is cut", x.parts(), 3);
        sentence(32, all);
        due("free(2, 1), one is cut", x.free(2, 1), 0);
        sentence(33, all);
        due("stops(0), one is cut", x.stops(0), 6);
        sentence(34, all);
        due("begins(0, -1)", worn.begins(0, -1), 1);
        due("begins(0, -1), one is cut", x.begins(0, -1), 4);
        sentence(35, all);
        due("rehearse(0)", worn.rehearse(0), 0);
        due("rehearse(0), one is cut", x.rehearse(0), 0);
        sentence(36, all);
        due("tangles(), one is cut", x.tangles(), 0);
        sentence(37, all);
        due("leastTangles(), one is cut", x.leastTangles(), 0);
        x.moves(1, 0);
        due("works(0), one comes from another", x.works(0), 6);
        due("works(1), one comes from another", x.works(1), 0);
        due("stops(0), one comes from another", x.stops(0), 2);
    }

    private static void tangles() {
        sentence(36, "Two WHOLE strings are TANGLED, if the one's first LIMB lies ahead of the other's first one, "
                + "and its second behind the other's second one.");
        due("one over the other", told("puppet 4;string 0 to 3;string 1 to 2;").tangles(), 1);
        due("told the other way", told("puppet 4;string 1 to 2;string 0 to 3;").tangles(), 1);
        due("beside one another", told("puppet 4;string 0 to 2;string 1 to 3;").tangles(), 0);
        due("the same first limb", told("puppet 4;string 0 to 3;string 0 to 2;").tangles(), 0);
        due("the same second limb", told("puppet 4;string 0 to 3;string 1 to 3;").tangles(), 0);
        due("there and back", told("puppet 2;string 0 to 1;string 1 to 0;").tangles(), 1);
        due("one behind the other", told("puppet 4;string 0 to 1;string 2 to 3;").tangles(), 0);
        StringHands x = told("puppet 4;string 0 to 3;string 1 to 2;");
        x.swap(1);
        due("by places: 1 and 2 are swapped", x.tangles(), 1);
        x.swap(2);
        due("by places: 1 is the last", x.tangles(), 1);
        x.swap(0);
        due("by places: 0 is behind 2", x.tangles(), 1);
        x.swap(1);
        due("by places: 0 is behind 3", x.tangles(), 1);
        x.swap(2);
        due("by places: 0 is behind 1", x.tangles(), 0);
        x = told("puppet 4;string 0 to 3;string 1 to 2;");
        x.moves(1, 3);
        due("from another limb", x.tangles(), 1);
        x.moves(0, 2);
        due("from another limb", x.tangles(), 1);
        x.cut(1);
        due("whole ones alone", x.tangles(), 0);
        sentence(36, "How many two strings are TANGLED.");
        due("each two once", told("puppet 4;string 0 to 3;string 1 to 2;string 1 to 2;string 0 to 3;").tangles(), 4);
        due("64 of 16 strings", told("puppet 2;" + "string 0 to 1;".repeat(8) + "string 1 to 0;".repeat(8)).tangles(), 64);
        due("ten limbs", told(LIMBS_10 + "string 8 to 1;string 9 to 0;").tangles(), 1);
        due("none", new StringHands().tangles(), 0);
        leaves("tangles()", y -> y.tangles(), 1);
    }

    private static void leastTangles() {
        sentence(37, "The fewest TANGLES by places otherwise.");
        due("0 over 1 need not be", told("puppet 4;string 0 to 3;string 1 to 2;").leastTangles(), 0);
        due("there and back must be", told("puppet 2;string 0 to 1;string 1 to 0;").leastTangles(), 1);
        due("a ring", told(RING).leastTangles(), 2);
        due("one limb", told("puppet 1;").leastTangles(), 0);
        due("no limbs", new StringHands().leastTangles(), 0);
        due("64 whatever the places", told("puppet 2;" + "string 0 to 1;string 1 to 0;".repeat(8)).leastTangles(), 64);
        String pairs = "string 0 to 3;string 3 to 0;string 1 to 4;string 4 to 1;string 2 to 5;string 5 to 2;";
        due("three pairs through one another", told("puppet 6;" + pairs).tangles(), 9);
        due("three pairs beside one another", told("puppet 6;" + pairs).leastTangles(), 3);
        due("three pairs twice", told("puppet 6;" + pairs + pairs).leastTangles(), 12);
        due("seven limbs", told("puppet 6;puppet 1;string 0 to 6;string 1 to 5;string 2 to 4;").leastTangles(), 0);
        due("from one limb", told("puppet 3;string 0 to 1;string 0 to 2;string 0 to 1;").leastTangles(), 0);
        due("to one limb", told("puppet 3;string 1 to 0;string 2 to 0;string 1 to 0;").leastTangles(), 0);
        StringHands x = told("puppet 4;string 0 to 3;string 1 to 2;string 2 to 1;");
        x.cut(1);
        due("whole ones alone", x.leastTangles(), 0);
        x.tie(1);
        due("all again", x.leastTangles(), 1);
        x.moves(0, 1);
        due("asked once more", x.leastTangles(), 1);
        x.swap(1);
        due("whatever the places now", x.leastTangles(), 1);
        manyStrings();
        leaves("leastTangles()", y -> y.leastTangles(), 0);
        sentence(37, "-4: more than 7 LIMBS.");
        leaves("eight limbs", () -> told("puppet 6;puppet 2;string 0 to 1;"), y -> y.leastTangles(), -4);
        due("ten limbs", told(LIMBS_10).leastTangles(), -4);
        due("seven limbs", told("puppet 6;puppet 1;").leastTangles(), 0);
    }

    /** All orders are tried here, for strings between limbs that lie far and near. */
    private static void manyStrings() {
        StringHands x = new StringHands();
        for (int limbs = 3; limbs <= 7; limbs++) {
            for (int step = 1; step < 5; step++) {
                manyStrings(x, limbs, step);
            }
        }
    }

    private static void manyStrings(StringHands x, int limbs, int step) {
        int strings = 17 - step;
        int[] from = new int[strings];
        int[] to = new int[strings];
        StringBuilder t = new StringBuilder("puppet " + (limbs - 1) + ";puppet 1;");
        for (int k = 0; k < strings; k++) {
            from[k] = k * step % limbs;
            to[k] = (from[k] + 1 + k * k * step % (limbs - 1)) % limbs;
            t.append("string ").append(from[k]).append(" to ").append(to[k]).append(';');
        }
        read(x, t.toString());
        int[] inOrder = {0, 1, 2, 3, 4, 5, 6};
        int[] places = java.util.Arrays.copyOf(inOrder, limbs);
        due("tangles of " + t, x.tangles(), tangled(from, to, places));
        due("the fewest of " + t, x.leastTangles(), fewest(from, to, places, 0));
    }

    private static int tangled(int[] from, int[] to, int[] place) {
        int found = 0;
        for (int a = 0; a < from.length; a++) {
            for (int b = 0; b < from.length; b++) {
                found += place[from[a]] < place[from[b]] && place[to[a]] > place[to[b]] ? 1 : 0;
            }
        }
        return found;
    }

    /** The places ahead of n are settled. */
    private static int fewest(int[] from, int[] to, int[] place, int n) {
        if (n == place.length) {
            return tangled(from, to, place);
        }
        int best = Integer.MAX_VALUE;
        for (int i = n; i < place.length; i++) {
            int[] other = place.clone();
            other[n] = place[i];
            other[i] = place[n];
            best = Math.min(best, fewest(from, to, other, n + 1));
        }
        return best;
    }
}

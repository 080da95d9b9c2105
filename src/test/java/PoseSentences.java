/** Promises 18 to 28: what follows a pose, and poses that are wished for. */
final class PoseSentences extends Sentences {
    /** 0 and 7 rest, 2 and 5 go round; 1 and 6 come to these, 4 to 0, 3 to 7. */
    private static final String FORK = "puppet 3;string 0 to 1;string 1 to 0;string 1 to 2;life 1;";
    /** Each limb takes over from the one ahead of it, limb 0 goes down: NEXT is twice the pose. */
    private static final String DRAIN = LIMBS_10 + "rule 0 : 1 = 2;string 0 to 1;string 1 to 2;string 2 to 3;string 3 to 4;"
            + "string 4 to 5;string 5 to 6;string 6 to 7;string 7 to 8;string 8 to 9;";

    static void all() {
        next();
        later();
        round();
        rests();
        rings();
        basin();
        gardens();
        farthest();
        asTheyAre();
        soonest();
        soonestOfLikeOnes();
        soonestAsked();
        soonestWithin();
        wakes();
        cure();
        cureOfLikeOnes();
    }

    /** Poses go round by one limb a beat. */
    private static String wheel() {
        StringBuilder t = new StringBuilder(LIMBS_10);
        for (int l = 0; l < 10; l++) {
            t.append("rule ").append(l).append(" : up ").append((l + 9) % 10).append(" = 1;");
        }
        return t.toString();
    }

    private static void next() {
        sentence(18, "NEXT of a POSE: behind one BEAT.");
        StringHands x = told("puppet 3;string 0 to 1 times 2;string 2 to 1 turned;need 1 3;rule 2 : up 0 = 1 and not me = 1;");
        due("next(0)", x.next(0), 0);
        due("next(1)", x.next(1), 7);
        due("next(4)", x.next(4), 0);
        due("next(5)", x.next(5), 1);
        sentence(18, "NEXT of a POSE.");
        x = told(RING + "up 0;");
        int[] want = {0, 2, 4, 6, 1, 3, 5, 7};
        for (int p = 0; p < 8; p++) {
            due("next(" + p + ")", x.next(p), want[p]);
        }
        due("no limbs", new StringHands().next(0), 0);
        due("ten limbs", told(wheel()).next(512), 1);
        leaves("next(1)", y -> y.next(1), 3);
        sentence(18, "-3.");
        for (int p : NO_POSES) {
            leaves("next(" + p + ")", y -> y.next(p), -3);
        }
        due("next(1024) of ten", told(LIMBS_10).next(1024), -3);
    }

    private static void later() {
        sentence(19, "Where a POSE is behind n BEATS (0 to 9999).");
        StringHands x = told(RING);
        due("later(1, 0)", x.later(1, 0), 1);
        due("later(1, 1)", x.later(1, 1), 2);
        due("later(3, 2)", x.later(3, 2), 5);
        due("later(1, 9998)", x.later(1, 9998), 4);
        due("later(1, 9999)", x.later(1, 9999), 1);
        due("ten limbs", told(wheel()).later(1, 9999), 512);
        due("no limbs", new StringHands().later(0, 9999), 0);
        leaves("later(1, 9)", y -> y.later(1, 9), 3);
        sentence(19, "-3.");
        for (int p : NO_POSES) {
            leaves("later(" + p + ", 0)", y -> y.later(p, 0), -3);
        }
        int[] badCount = {-1, 10000, Integer.MIN_VALUE, Integer.MAX_VALUE};
        for (int n : badCount) {
            leaves("later(1, " + n + ")", y -> y.later(1, n), -3);
        }
    }

    private static void round() {
        sentence(20, "A RING: POSES that follow one another round (one that RESTS is one, too); its LENGTH, its LEAST POSE.");
        StringHands x = told(wheel());
        int[][] poseLengthLeast = {{0, 1, 0}, {1023, 1, 1023}, {341, 2, 341}, {682, 2, 341}, {33, 5, 33}, {528, 5, 33},
            {1, 10, 1}, {512, 10, 1}, {7, 10, 7}, {515, 10, 7}};
        for (int[] p : poseLengthLeast) {
            due("length of the ring of " + p[0], x.round(p[0], 0), p[1]);
            due("lead of " + p[0], x.round(p[0], 1), 0);
            due("least pose of the ring of " + p[0], x.round(p[0], 2), p[2]);
        }
        x = told("puppet 2;rule 0 : 1 = 1;rule 1 : up 0 * up 1 = 0;");
        due("one that comes to 3 first: its least pose", x.round(0, 2), 1);
        sentence(20, "LEAD of a POSE: BEATS till it is in a RING.");
        x = told(DRAIN);
        due("one that rests", x.round(0, 1), 0);
        due("one ahead of it", x.round(512, 1), 1);
        due("ten ahead of it", x.round(1, 1), 10);
        due("nine ahead of it", x.round(2, 1), 9);
        x.strike(1);
        due("a ring in its place", read(x, RING), 4);
        due("in it", x.round(1, 1), 0);
        sentence(20, "Of a POSE, what 0: LENGTH of the RING it comes to, 1: its LEAD, 2: the RING's LEAST POSE.");
        x = told(FORK);
        int[][] want = {{1, 0, 0}, {2, 1, 2}, {2, 0, 2}, {1, 1, 7}, {1, 1, 0}, {2, 0, 2}, {2, 1, 2}, {1, 0, 7}};
        for (int p = 0; p < 8; p++) {
            for (int what = 0; what < 3; what++) {
                due("round(" + p + ", " + what + ")", x.round(p, what), want[p][what]);
            }
        }
        due("no limbs", new StringHands().round(0, 0), 1);
        leaves("round(3, 2)", y -> y.round(3, 2), 3);
        sentence(20, "-2: what; -3.");
        int[] badWhat = {-1, 3, Integer.MIN_VALUE, Integer.MAX_VALUE};
        for (int what : badWhat) {
            leaves("round(0, " + what + ")", y -> y.round(0, what), -2);
        }
        for (int p : NO_POSES) {
            leaves("round(" + p + ", 0)", y -> y.round(p, 0), -3);
        }
        sentence(20, "(Of several that which the call tells first; all these ahead of NONE.)");
        due("what and the pose", x.round(8, 3), -2);
    }

    private static void rests() {
        sentence(21, "It RESTS, if that is it.");
        StringHands x = told(FORK);
        due("rests(0)", x.rests(0), 0);
        due("rests(1)", x.rests(1), 7);
        due("only these", x.rests(2), -1);
        due("a ring of two does not rest", told("puppet 1;rule 0 : me = 0;").rests(-1), 0);
        sentence(21, "How many POSES RESTS have (k NONE), else the k-th, the least first.");
        due("rests(-1)", x.rests(-1), 2);
        x = told(LIMBS_10);
        due("all of ten limbs", x.rests(-1), 1024);
        due("the first", x.rests(0), 0);
        due("one amidst", x.rests(600), 600);
        due("the last", x.rests(1023), 1023);
        due("no limbs", new StringHands().rests(-1), 1);
        leaves("rests(-1)", y -> y.rests(-1), 2);
        sentence(21, "NONE: not so many.");
        int[] bad = {1024, 1025, -2, Integer.MIN_VALUE, Integer.MAX_VALUE};
        for (int k : bad) {
            due("rests(" + k + ")", x.rests(k), -1);
        }
        due("none at all", told("puppet 1;rule 0 : me = 0;").rests(0), -1);
    }

    private static void rings() {
        sentence(22, "How many RINGS there are (k NONE), else the LEAST POSE of the k-th, by these.");
        StringHands x = told(FORK);
        due("rings(-1)", x.rings(-1), 3);
        due("rings(0)", x.rings(0), 0);
        due("rings(1)", x.rings(1), 2);
        due("rings(2)", x.rings(2), 7);
        x = told(wheel());
        due("rings of ten limbs that go round", x.rings(-1), 108);
        due("the first", x.rings(0), 0);
        due("the second", x.rings(1), 1);
        due("the third", x.rings(2), 3);
        due("the last", x.rings(107), 1023);
        due("as many as poses", told(LIMBS_10).rings(-1), 1024);
        due("no limbs", new StringHands().rings(-1), 1);
        due("one of two poses", told("puppet 1;rule 0 : me = 0;").rings(-1), 1);
        due("its least pose", told("puppet 1;rule 0 : me = 0;").rings(0), 0);
        leaves("rings(-1)", y -> y.rings(-1), 2);
        sentence(22, "NONE: not so many.");
        int[] bad = {3, 4, -2, Integer.MIN_VALUE, Integer.MAX_VALUE};
        x = told(FORK);
        for (int k : bad) {
            due("rings(" + k + ")", x.rings(k), -1);
        }
        due("rings(1024)", told(LIMBS_10).rings(1024), -1);
    }

    private static void basin() {
        sentence(23, "How many POSES come to the RING that a POSE comes to (those in it, too).");
        StringHands x = told(FORK);
        int[] want = {2, 4, 4, 2, 2, 4, 4, 2};
        for (int p = 0; p < 8; p++) {
            due("basin(" + p + ")", x.basin(p), want[p]);
        }
        due("all of ten limbs", told(DRAIN).basin(1023), 1024);
        due("one that rests alone", told(LIMBS_10).basin(1023), 1);
        due("a ring alone", told(wheel()).basin(512), 10);
        due("no limbs", new StringHands().basin(0), 1);
        leaves("basin(0)", y -> y.basin(0), 4);
        sentence(23, "-3.");
        for (int p : NO_POSES) {
            leaves("basin(" + p + ")", y -> y.basin(p), -3);
        }
    }

    private static void gardens() {
        sentence(24, "GARDEN: a POSE that is NEXT of none.");
        due("four of eight", told(FORK).gardens(), 4);
        due("each is the next of one", told(RING).gardens(), 0);
        due("one that rests is its own next", told("puppet 1;").gardens(), 0);
        due("0 is next of none", told("puppet 1;rule 0 : 1 = 1;").gardens(), 1);
        due("1 is next of 0", told("puppet 1;rule 0 : me = 0;").gardens(), 0);
        sentence(24, "How many GARDENS there are.");
        due("every second of ten limbs", told(DRAIN).gardens(), 512);
        due("all but two", told(LIMBS_10 + wheel().substring(LIMBS_10.length()).replaceAll("up .", "up 9")).gardens(), 1022);
        due("no limbs", new StringHands().gardens(), 0);
        StringHands thick = told("puppet 2;" + "string 0 to 1;".repeat(16));
        due("by 16 strings", thick.gardens(), 2);
        due("asked again", thick.gardens(), 2);
        leaves("gardens()", y -> y.gardens(), 4);
    }

    private static void farthest() {
        sentence(25, "The POSE with the longest LEAD, the least.");
        due("of 1, 3, 4 and 6", told(FORK).farthest(), 1);
        due("ten beats", told(DRAIN).farthest(), 1);
        due("three beats, 4 to 7", told("puppet 3;string 2 to 1;string 1 to 0;rule 2 : 1 = 2;").farthest(), 4);
        due("all are in rings", told(RING).farthest(), 0);
        due("no limbs", new StringHands().farthest(), 0);
        leaves("farthest()", y -> y.farthest(), 0);
    }

    /** A ring that would break at the first beat, and one that is otherwise each time it is asked. */
    private static void asTheyAre() {
        String all = "All below is asked with strings as they are, without WEAR.";
        StringHands worn = told(RING + "life 1;up 0;");
        StringHands x = told(RING + "up 0;");
        due("rings ahead", x.rings(-1), 4);
        x.cut(2);
        sentence(18, all);
        due("next(1)", worn.next(1), 2);
        due("next(1), one is cut", x.next(1), 3);
        sentence(19, all);
        due("later(1, 3)", worn.later(1, 3), 1);
        due("later(1, 2), one is cut", x.later(1, 2), 7);
        sentence(20, all);
        due("round(1, 0)", worn.round(1, 0), 3);
        due("round(1, 1), one is cut", x.round(1, 1), 2);
        sentence(21, all);
        due("rests(-1)", worn.rests(-1), 2);
        due("rests(1), one is cut", x.rests(1), 7);
        sentence(22, all);
        due("rings(-1)", worn.rings(-1), 4);
        due("rings(-1), one is cut", x.rings(-1), 2);
        sentence(23, all);
        due("basin(1)", worn.basin(1), 3);
        due("basin(1), one is cut", x.basin(1), 4);
        sentence(24, all);
        due("gardens()", worn.gardens(), 0);
        due("gardens(), one is cut", x.gardens(), 4);
        x.tie(2);
        due("gardens(), it is tied", x.gardens(), 0);
        x.moves(2, 1);
        due("gardens(), from another limb", x.gardens(), 4);
        x.undo(1);
        due("gardens(), undone", x.gardens(), 0);
        x.undo(1);
        due("gardens(), undone", x.gardens(), 4);
        sentence(25, all);
        due("farthest()", worn.farthest(), 0);
        due("farthest(), one is cut", x.farthest(), 1);
        sentence(26, all);
        due("soonest(4, 0)", worn.soonest(4, 0), 2);
        due("soonest(4, 1)", worn.soonest(4, 1), 0);
        due("soonest(7, 0), one is cut", x.soonest(7, 0), 1);
        due("soonest(7, 10), one is cut", x.soonest(7, 10), 1);
        sentence(27, all);
        due("wakes(1)", worn.wakes(1), 100);
        due("wakes(7), one is cut", x.wakes(7), 100);
        sentence(28, all);
        due("cure(1, 1)", worn.cure(1, 1), 5);
        due("cure(1, 1), one is cut", x.cure(1, 1), 1);
        read(x, RING + "rule 0 : me = 0;");
        due("gardens() of another troupe", x.gardens(), 4);
        due("rests(-1) of another troupe", x.rests(-1), 0);
        read(x, RING);
        due("gardens() of one with strings alike", x.gardens(), 0);
        sentence(24, all);
        x = told("puppet 3;string 0 to 2;");
        due("gardens()", x.gardens(), 4);
        x.cut(0);
        due("gardens() without strings", x.gardens(), 0);
        x.tie(0);
        due("gardens(), it is tied", x.gardens(), 4);
        due("rests(1)", x.rests(1), 2);
        x.moves(0, 1);
        due("rests(1), from another limb", x.rests(1), 1);
        x.moves(0, 0);
        due("rests(1), from the first again", x.rests(1), 2);
    }

    private static void soonest() {
        sentence(26, "SOONEST to a POSE: ahead of each BEAT one LIMB may be NUDGED");
        StringHands x = told(LIMBS_10);
        due("ten beats for ten limbs", x.soonest(1023, 0), 10);
        due("ten nudges", x.soonest(1023, 1), 10);
        due("without strings each needs a beat", x.soonest(5, 0), 2);
        due("the nudge comes ahead of the beat", told(RING).soonest(2, 10), 0);
        due("a nudge downward", told(LIMBS_10 + "up 3;").soonest(0, 10), 3);
        sentence(26, "the fewest BEATS till it is there (0: it is)");
        StringHands drain = told("puppet 4;rule 0 : 1 = 2;string 0 to 1;string 1 to 2;string 2 to 3;up 0;");
        due("two, though three need no nudge", drain.soonest(8, 0), 2);
        due("two nudges", drain.soonest(8, 1), 2);
        due("the first", drain.soonest(8, 10), 0);
        due("the second", drain.soonest(8, 11), 2);
        due("it is there", drain.soonest(1, 0), 0);
        due("it is there and never comes again", told("puppet 1;rule 0 : 1 = 1;").soonest(0, 0), 0);
        due("one beat", drain.soonest(2, 0), 1);
        due("no limbs", new StringHands().soonest(0, 0), 0);
        leaves("soonest(6, 0)", y -> y.soonest(6, 0), 0);
        leaves("soonest(4, 0)", y -> y.soonest(4, 0), 1);
    }

    private static void soonestOfLikeOnes() {
        sentence(26, "of like ones the fewest NUDGES");
        // Limb 2 wakes 3 and 4, these wake 0 and 1 for good; 0 and 1 by themselves would be first by limbs.
        StringHands x = told("puppet 5;rule 0 : up 0 = 1 or up 3 = 1;rule 1 : up 1 = 1 or up 4 = 1;rule 2 : 1 = 2;"
                + "rule 3 : up 2 = 1;rule 4 : up 2 = 1;");
        due("beats", x.soonest(3, 0), 2);
        due("nudges", x.soonest(3, 1), 1);
        due("the limb", x.soonest(3, 10), 2);
        due("none behind it", x.soonest(3, 11), -1);
        x = told(RING + "up 0;");
        due("by itself", x.soonest(4, 1), 0);
        due("no limb", x.soonest(4, 10), -1);
        sentence(26, "of like ones the first (no NUDGE ahead of others, then by LIMBS, BEAT by BEAT)");
        // The nudge of limb 1 does it ahead of either beat.
        StringHands clock = told("puppet 3;rule 0 : me = 0;rule 1 : me = 1;rule 2 : me = 1 or up 0 = 1 and up 1 = 1;");
        due("beats", clock.soonest(6, 0), 2);
        due("nudges", clock.soonest(6, 1), 1);
        due("no nudge is ahead", clock.soonest(6, 10), -1);
        due("the nudge", clock.soonest(6, 11), 1);
        due("either limb does", told("puppet 3;rule 2 : up 0 + up 1 > 0;rule 0 : 1 = 2;rule 1 : 1 = 2;").soonest(4, 10), 0);
        due("either limb does", told("puppet 3;rule 0 : up 1 + up 2 > 0;rule 1 : 1 = 2;rule 2 : 1 = 2;").soonest(1, 10), 1);
        x = told(LIMBS_10 + "up 4;");
        int[] nudged = {0, 4, 7, 9};
        for (int i = 0; i < nudged.length; i++) {
            due("by limbs, beat " + i, x.soonest(1 + 128 + 512, 10 + i), nudged[i]);
        }
        x = told(RING + "up 0;");
        due("first", x.soonest(7, 10), 1);
        due("second", x.soonest(7, 11), 0);
    }

    private static void soonestAsked() {
        sentence(26, "SOONEST, what 0: BEATS, 1: NUDGES");
        StringHands x = told(RING + "up 0;");
        due("soonest(6, 0)", x.soonest(6, 0), 1);
        due("soonest(6, 1)", x.soonest(6, 1), 1);
        due("soonest(4, 0)", x.soonest(4, 0), 2);
        due("soonest(4, 1)", x.soonest(4, 1), 0);
        due("soonest(1, 1)", x.soonest(1, 1), 0);
        sentence(26, "10 + k: the LIMB that is NUDGED ahead of BEAT k (NONE: none, not so many).");
        due("soonest(6, 10)", x.soonest(6, 10), 1);
        due("soonest(7, 11)", x.soonest(7, 11), 0);
        due("not so many", x.soonest(6, 11), -1);
        due("not so many", x.soonest(6, 49), -1);
        due("none", x.soonest(4, 11), -1);
        due("no beats", x.soonest(1, 10), -1);
        sentence(26, "-2: what (10 to 49); -3.");
        int[] badWhat = {-1, 2, 9, 50, Integer.MIN_VALUE, Integer.MAX_VALUE};
        for (int what : badWhat) {
            leaves("soonest(1, " + what + ")", y -> y.soonest(1, what), -2);
        }
        for (int p : NO_POSES) {
            leaves("soonest(" + p + ", 49)", y -> y.soonest(p, 49), -3);
        }
        sentence(26, "(Of several that which the call tells first; all these ahead of NONE.)");
        due("what and the pose", x.soonest(8, 9), -2);
        due("what, and none", told("puppet 1;up 0;rule 0 : 1 = 1;").soonest(0, 2), -2);
    }

    private static String seven(String line) {
        StringBuilder t = new StringBuilder();
        for (int l = 0; l < 7; l++) {
            t.append(String.format(line, l));
        }
        return t.toString();
    }

    private static void soonestWithin() {
        // Limbs 0 to 5 count, limb 6 makes them even, 7 and 8 both see whether they are: with any nudge among
        // them all begins anew, so that no nudge is a short way.
        StringHands x = told(LIMBS_10 + seven("string %d to 7;") + seven("string %d to 8;") + "up 7;up 8;"
                + "rule 0:up 7*up 8*(1-me)=1;rule 1:up 7*up 8=1 and not me=up 0;rule 2:up 7*up 8=1 and not me=up 0*up 1;"
                + "rule 3:up 7*up 8=1 and not me=up 0*up 1*up 2;rule 4:up 7*up 8=1 and not me=up 0*up 1*up 2*up 3;"
                + "rule 5:up 7*up 8=1 and not me=up 0*up 1*up 2*up 3*up 4;rule 6:up 7*up 8=1 and not me=1-up 0+up 0*up 1*(1-up 2)"
                + "+up 0*up 1*up 2*up 3*(1-up 4);rule 7:pulls*(pulls-2)*(pulls-4)*(pulls-6)=0;"
                + "rule 8:pulls*(pulls-2)*(pulls-4)*(pulls-6)=0;");
        sentence(26, "at most 40 BEATS.");
        due("one beat on", x.next(128 + 256), 1 + 64 + 128 + 256);
        due("40 beats", x.soonest(40 + 128 + 256, 0), 40);
        due("no nudge", x.soonest(40 + 128 + 256, 1), 0);
        due("the last of 40", x.soonest(40 + 128 + 256, 49), -1);
        due("with limb 9, the last of 40", x.soonest(40 + 128 + 256 + 512, 49), 9);
        due("with limb 9, the first", x.soonest(40 + 128 + 256 + 512, 10), -1);
        due("with limb 9, nudges", x.soonest(40 + 128 + 256 + 512, 1), 1);
        sentence(26, "NONE: not within 40");
        due("41 beats", x.soonest(41 + 64 + 128 + 256, 0), -1);
        due("41 beats, nudges", x.soonest(41 + 64 + 128 + 256, 1), -1);
        due("41 beats, a limb", x.soonest(41 + 64 + 128 + 256, 10), -1);
        due("never", told("puppet 1;up 0;rule 0 : 1 = 1;").soonest(0, 0), -1);
    }

    private static void wakes() {
        sentence(27, "WAKES: the first LIMB that, NUDGED now alone, lets a POSE come within 60 BEATS (behind 1 and more)");
        StringHands x = told(RING + "up 0;");
        due("limb 1 or 2", x.wakes(3), 1);
        due("limb 0 alone", x.wakes(0), 0);
        due("two would be needed", x.wakes(7), -1);
        StringHands count = told(COUNTER);
        due("60 beats", count.wakes(60), 100);
        due("61 beats", count.wakes(61), 0);
        due("63 beats: not by 0 or 1", count.wakes(63), 2);
        due("64 beats: 60 by limb 2", count.wakes(0), 2);
        due("behind 0 alone", told("puppet 1;rule 0 : 1 = 1;").wakes(0), -1);
        due("the nudge itself is no beat", told("puppet 1;up 0;rule 0 : 1 = 1;").wakes(0), -1);
        due("the tenth limb", told(LIMBS_10).wakes(512), 9);
        sentence(27, "none is needed, if it comes so without.");
        due("wakes(2)", x.wakes(2), 100);
        due("round the ring", x.wakes(1), 100);
        due("it is there, but not behind a beat", told("puppet 1;rule 0 : me = 0 and 1 = 2;up 0;").wakes(1), -1);
        sentence(27, "WAKES: the LIMB; 100: none is needed.");
        due("wakes(6)", x.wakes(6), 1);
        due("wakes(4)", x.wakes(4), 100);
        due("no limbs", new StringHands().wakes(0), 100);
        leaves("wakes(4)", y -> y.wakes(4), 100);
        sentence(27, "NONE: none does; -3.");
        due("wakes(7)", x.wakes(7), -1);
        for (int p : NO_POSES) {
            leaves("wakes(" + p + ")", y -> y.wakes(p), -3);
        }
    }

    private static void cure() {
        sentence(28, "CURE of a POSE: the fewest WHOLE strings that, CUT, let it REST");
        StringHands x = told(RING);
        due("one up: its own and the next one's", x.cure(1, 1), 5);
        due("two up", x.cure(3, 1), 6);
        due("it rests", x.cure(0, 1), 0);
        x = told("puppet 2;string 0 to 1;string 0 to 1;string 0 to 1 times 2;need 1 3;");
        due("one of two pulls is enough", x.cure(1, 1), 4);
        x.cut(2);
        due("one that is cut needs no cut", x.cure(1, 0), 0);
        due("all to a limb: it stays", x.cure(3, 1), 3);
        due("by needs", told("puppet 2;" + "string 0 to 1 times 3;".repeat(16) + "need 1 9;").cure(1, 1), (1 << 14) - 1);
        due("fewer by a rule", told("puppet 2;string 0 to 1;string 0 to 1;string 0 to 1 times 2;rule 1 : pulls = 2;").cure(3, 1), 4);
        due("a rule that asks for what others do", told("puppet 3;string 0 to 1;rule 1 : pulls + up 2 > 1;").cure(1 + 4, 1), 1);
        due("more cuts, fewer pulls", told("puppet 3;string 0 to 1;string 0 to 1;string 2 to 1 turned;need 1 2;").cure(2, 1), 7);
        sentence(28, "CURE, what 0: how many, 1: strings as bits.");
        x = told(RING);
        due("cure(1, 0)", x.cure(1, 0), 2);
        due("cure(1, 1)", x.cure(1, 1), 5);
        due("cure(0, 0)", x.cure(0, 0), 0);
        StringHands thick = told("puppet 2;" + "string 0 to 1 times 3;".repeat(16) + "rule 1 : pulls = 0;");
        due("16 strings", thick.cure(3, 0), 16);
        due("16 strings as bits", thick.cure(3, 1), 65535);
        due("no limbs", new StringHands().cure(0, 0), 0);
        leaves("cure(4, 1)", y -> y.cure(4, 1), 0);
        leaves("cure(6, 1)", y -> y.cure(6, 1), 1);
    }

    private static void cureOfLikeOnes() {
        sentence(28, "of like ones the least as bits.");
        due("one of two", told("puppet 2;string 0 to 1;string 0 to 1;need 1 2;").cure(1, 1), 1);
        due("two of three", told("puppet 2;string 0 to 1;string 0 to 1;string 0 to 1;rule 1 : pulls = 1;").cure(3, 1), 3);
        due("one of 16", told("puppet 2;" + "string 0 to 1 times 3;".repeat(16) + "rule 1 : pulls = 45;").cure(3, 1), 1);
        due("1 and 2 are less than 0 and 3",
                told("puppet 2;string 0 to 1 times 1;string 0 to 1 times 2;string 0 to 1 times 2;string 0 to 1 times 3;"
                        + "rule 1 : pulls = 4;").cure(3, 1), 6);
        due("each of two limbs", told("puppet 3;string 0 to 2;string 0 to 1;string 0 to 2;string 0 to 1;need 1 2;need 2 2;").cure(1, 1), 3);
        sentence(28, "NONE: no CUTS do; -2; -3.");
        due("a rule without pulls", told("puppet 1;rule 0 : 1 = 1;").cure(0, 0), -1);
        due("as bits", told("puppet 1;rule 0 : 1 = 1;").cure(0, 1), -1);
        due("a rule with pulls", told("puppet 2;string 0 to 1;rule 1 : pulls = 2;").cure(3, 0), -1);
        int[] badWhat = {-1, 2, Integer.MIN_VALUE, Integer.MAX_VALUE};
        for (int what : badWhat) {
            leaves("cure(0, " + what + ")", y -> y.cure(0, what), -2);
        }
        for (int p : NO_POSES) {
            leaves("cure(" + p + ", 0)", y -> y.cure(p, 0), -3);
        }
        sentence(28, "(Of several that which the call tells first; all these ahead of NONE.)");
        due("what and the pose", told(RING).cure(8, 2), -2);
        due("what, and none", told("puppet 1;rule 0 : 1 = 1;").cure(0, 2), -2);
        due("the pose, and none", told("puppet 1;rule 0 : 1 = 1;").cure(2, 0), -3);
    }
}

/** Promises 38 to 45: two hands, power, what a film tells, what breaks. */
final class GuessSentences extends Sentences {
    /** A scene: limb 2 is told to be up. */
    private static final int UP_2 = 4 * 1024 + 4;
    /** A scene: limb 2 is told to be down. */
    private static final int DOWN_2 = 4 * 1024;

    static void all() {
        twoHold();
        twoHave();
        twoAtRest();
        twoRefused();
        power();
        guesses();
        filmRefused();
        fewest();
        sure();
        telling();
        asTheyAre();
        film();
        breaks();
    }

    /** What the two choose and have. */
    private static void two(String what, StringHands x, int[] asked, int... want) {
        for (int i = 0; i < 4; i++) {
            due("two(.., " + i + "), " + what, x.two(asked[0], asked[1], asked[2], asked[3], i), want[i]);
        }
    }

    private static int[] asked(int l, int scene, int other, int otherScene) {
        return new int[] {l, scene, other, otherScene};
    }

    private static void twoHold() {
        sentence(38, "TWO: one holds a LIMB, another one another LIMB, each for 60 BEATS leaves it, holds it UP, or DOWN "
                + "(0, 1, 2; behind each BEAT, and at first, it is so)");
        // Limb 0 moves in each beat if it is left, and only then 1, that comes behind it, is otherwise than 0.
        String lag = "puppet 4;rule 0 : me = 0;string 0 to 1;rule 2 : not up 0 = up 1;";
        two("it is left", told(lag), asked(0, UP_2, 3, 0), 0, 0, 59, 60);
        two("it is left", told(lag + "up 1;"), asked(0, UP_2, 3, 0), 0, 0, 60, 60);
        two("the other leaves it", told(lag), asked(3, 0, 0, UP_2), 0, 0, 60, 59);
        String falls = "puppet 3;rule 0 : 1 = 2;string 0 to 2;";
        two("held up at first and behind each beat", told(falls), asked(0, UP_2, 1, 0), 1, 0, 60, 60);
        two("the other holds it up", told(falls), asked(1, 0, 0, UP_2), 0, 1, 60, 60);
        String rises = "puppet 3;up 0;rule 0 : 1 = 1;string 0 to 2;up 2;";
        two("held down at first and behind each beat", told(rises), asked(0, DOWN_2, 1, 0), 2, 0, 60, 60);
        two("the other holds it down", told(rises), asked(1, 0, 0, DOWN_2), 0, 2, 60, 60);
        two("a limb that is held and asked for", told("puppet 2;rule 0 : me = 0;"), asked(0, 1025, 1, 0), 1, 0, 60, 60);
        // Limb 0 falls, 1 rises; 2 is up by the one held up and the other held down.
        two("both hold", told("puppet 3;rule 0 : 1 = 2;rule 1 : 1 = 1;rule 2 : up 0 > up 1;up 1;"), asked(0, 1025, 1, UP_2), 1, 2, 60, 60);
    }

    private static void twoHave() {
        sentence(38, "each has as many as there are BEATS of these behind which the told LIMBS are as told (a scene).");
        String ring = "puppet 5;string 0 to 1;string 1 to 2;string 2 to 0;up 0;";
        two("each third beat, and the others", told(ring), asked(3, 1025, 4, 1024), 0, 0, 20, 40);
        two("two limbs are told", told(ring), asked(3, 3 * 1024 + 1, 4, 3 * 1024 + 3), 0, 0, 20, 0);
        two("none is told", told(ring), asked(3, 0, 4, 0), 0, 0, 60, 60);
        two("how it is at first is not counted", told("puppet 4;rule 0 : 1 = 2;up 0;"), asked(1, 1025, 2, 1024), 0, 0, 0, 60);
        two("the last of 60 beats", told(COUNTER + "puppet 2;"), asked(6, 63 * 1024 + 60, 7, 63 * 1024 + 61), 0, 0, 1, 0);
        two("the first of them", told(COUNTER + "puppet 2;"), asked(6, 63 * 1024 + 1, 7, 63 * 1024), 0, 0, 1, 0);
        sentence(38, "what 0: the first one's choice, 1: the other's, 2: what the first has, 3: the other.");
        two("first up, other down", told(RING + "up 0;"), asked(0, 1025, 1, 2048), 1, 2, 60, 60);
        two("other down, first up", told(RING + "up 0;"), asked(1, 2048, 0, 1025), 2, 1, 60, 60);
        two("what each has", told("puppet 2;"), asked(0, 1025, 1, 1024), 1, 0, 60, 0);
        StringHands x = told("puppet 2;");
        for (int i = 0; i < 14; i++) {
            due("asked again and again", x.two(0, 1025, 1, i % 2 == 0 ? 1024 : 1025, 3), i % 2 == 0 ? 0 : 60);
        }
        leaves("two(0, 1025, 1, 2048, 0)", y -> y.two(0, 1025, 1, 2048, 0) < -1 ? -2 : 0, 0);
    }

    private static void twoAtRest() {
        sentence(38, "TWO AT REST");
        two("both may do as they like", told("puppet 2;"), asked(0, 1025, 1, 2050), 1, 1, 60, 60);
        sentence(38, "AT REST: neither has more by another choice alone");
        two("only both together would have more", told("puppet 3;rule 2 : up 0 * up 1 = 1;"), asked(0, UP_2, 1, UP_2), 0, 0, 0, 0);
        two("the other would have more", told("puppet 3;rule 2 : up 0 * up 1 = 1;up 0;"), asked(0, UP_2, 1, UP_2), 0, 1, 60, 60);
        two("the first would have more", told("puppet 3;rule 2 : up 0 * up 1 = 1;up 1;"), asked(0, UP_2, 1, 2 * 1024 + 2), 1, 0, 60, 60);
        sentence(38, "the first, by the first one's choice, then the other's.");
        two("0 1 is ahead of 1 1, 2 0 and 2 2", told("puppet 3;up 0;rule 2 : up 0 = up 1;"), asked(0, UP_2, 1, UP_2), 0, 1, 60, 60);
        two("0 1 is ahead of 0 2", told("puppet 4;rule 2 : up 1 = 1;rule 3 : up 1 = 0;rule 1 : 1 = 2;"),
                asked(0, 0, 1, (8 + 4) * 1024 + 4), 0, 1, 60, 60);
        sentence(38, "NONE: none AT REST");
        // Limb 3 lags behind 0, so that they differ only if 0 is left: then the other would be down, else as 0 is.
        String leave = "puppet 5;rule 0 : me = 0;string 0 to 3;"
                + "rule 2 : [ up 1 = 1 and not up 0 = up 3 ] or [ up 1 = 0 and up 0 + up 3 = 2 ];"
                + "rule 4 : [ up 1 = 0 and not up 0 = up 3 ] or [ up 1 = 1 and up 0 + up 3 = 2 ];";
        two("the first would leave it", told(leave), asked(0, UP_2, 1, 16 * 1024 + 16), -1, -1, -1, -1);
        two("the other would leave it", told(leave), asked(1, 16 * 1024 + 16, 0, UP_2), -1, -1, -1, -1);
        two("one would be like, the other unlike", told("puppet 3;rule 2 : up 0 = up 1;"), asked(0, UP_2, 1, DOWN_2), -1, -1, -1, -1);
    }

    private static void twoRefused() {
        sentence(38, "-2: a LIMB, both one, what; -3: a scene that can't be (as in a SCRIPT).");
        for (int l : NO_LIMBS) {
            leaves("two(" + l + ", ..)", y -> y.two(l, 0, 1, 0, 0), -2);
            leaves("two(0, 0, " + l + ", ..)", y -> y.two(0, 0, l, 0, 0), -2);
        }
        leaves("both one", y -> y.two(1, 0, 1, 0, 0), -2);
        int[] badWhat = {-1, 4, Integer.MIN_VALUE, Integer.MAX_VALUE};
        for (int what : badWhat) {
            leaves("two(.., " + what + ")", y -> y.two(0, 0, 1, 0, what), -2);
        }
        int[] badScene = {-1, 1, 7, 1023, 8 * 1024, 1024 + 2, 1024 + 3, 1024 * 1024, Integer.MIN_VALUE, Integer.MAX_VALUE};
        for (int scene : badScene) {
            leaves("two(0, " + scene + ", ..)", y -> y.two(0, scene, 1, 0, 0), -3);
            leaves("two(.., " + scene + ", 0)", y -> y.two(0, 0, 1, scene, 0), -3);
        }
        sentence(38, "(Of several that which the call tells first; all these ahead of NONE.)");
        StringHands x = told("puppet 3;rule 2 : up 0 = up 1;");
        due("both one, scenes", x.two(0, -1, 0, -1, 0), -2);
        due("a limb, scenes", x.two(3, -1, 0, -1, 0), -2);
        due("what, scenes", x.two(0, -1, 1, -1, 4), -2);
        due("what, and none at rest", x.two(0, UP_2, 1, DOWN_2, 4), -2);
        due("a scene, and none at rest", x.two(0, UP_2, 1, DOWN_2 + 1, 0), -3);
    }

    private static void power() {
        sentence(39, "POWER of a LIMB for n BEATS: of all POSES how many are otherwise behind n BEATS, if it is NUDGED at first.");
        StringHands x = told("puppet 2;rule 1 : up 0 = 1 and me = 1;rule 0 : 1 = 1;");
        due("power(0, 0)", x.power(0, 0), 4);
        due("power(0, 1)", x.power(0, 1), 2);
        due("power(1, 1)", x.power(1, 1), 2);
        due("power(1, 99)", x.power(1, 99), 2);
        x = told("puppet 3;string 0 to 1;rule 0 : 1 = 2;");
        due("it is lost behind two beats", x.power(0, 1), 8);
        due("it is lost behind two beats", x.power(0, 2), 0);
        sentence(39, "POWER.");
        // Limb 7 is up for good once 0 to 6 have counted to 127: what it was is lost then.
        StringHands long8 = told(COUNTER + "puppet 2;rule 6 : not me = up 0 * up 1 * up 2 * up 3 * up 4 * up 5;"
                + "rule 7 : me = 1 or up 0 * up 1 * up 2 * up 3 * up 4 * up 5 * up 6 = 1;");
        due("98 beats", long8.power(7, 98), 2 * (128 - 98));
        due("99 beats", long8.power(7, 99), 2 * (128 - 99));
        due("no beats", long8.power(7, 0), 256);
        due("ten limbs", told(LIMBS_10).power(9, 99), 1024);
        x = told(RING);
        due("gardens ahead", x.gardens(), 0);
        due("power(0, 0) behind", x.power(0, 0), 8);
        leaves("power(2, 3)", y -> y.power(2, 3), 8);
        sentence(39, "-2; -3: n isn't 0 to 99.");
        for (int l : NO_LIMBS) {
            leaves("power(" + l + ", 0)", y -> y.power(l, 0), -2);
        }
        int[] badCount = {-1, 100, Integer.MIN_VALUE, Integer.MAX_VALUE};
        for (int n : badCount) {
            leaves("power(0, " + n + ")", y -> y.power(0, n), -3);
        }
        sentence(39, "(Of several that which the call tells first; all these ahead of NONE.)");
        due("a limb, n", x.power(3, 100), -2);
    }

    private static StringHands filmed(String text, long... poses) {
        StringHands x = told(text);
        fill(x, 0, poses);
        return x;
    }

    private static void guesses() {
        String three = "puppet 3;";
        sentence(40, "A GUESS for a LIMB: a set of LIMBS (never itself; 1 at least), each with one string to it, TIMES 1, "
                + "not turned, and NEED 1 to how many");
        due("nothing is told of 0: 1, 2 and both, these with 1 or 2", filmed(three, 0, 0).fits(0, 0), 4);
        due("never itself", filmed(three, 4, 4).fits(0, 2), 0);
        due("1 at least: none", filmed("puppet 1;", 0, 0).fits(0, 0), 0);
        due("not turned, no need 0", filmed(three, 0, 4).fits(0, 2), 0);
        due("no need above how many", filmed(three, 3, 0).fits(0, 2), 0);
        due("a need of how many", filmed(three, 1, 0).fits(0, 2), 2);
        due("times 1", filmed(three, 1, 4).fits(0, 2), 2);
        due("all of ten limbs", filmed(LIMBS_10, 0, 0).fits(0, 9), 2304);
        due("all of ten limbs", filmed(LIMBS_10, 0, 0).fits(0, 0), 2304);
        sentence(40, "it FITS, if it is as those tell behind each POSE but the last.");
        due("up behind 1, down behind 4: 0, 0 and 1", filmed(three, 1, 4, 0).fits(0, 2), 2);
        due("down behind 1 and 4: 1, 1 and 2 with 2", filmed(three, 1, 4, 0).fits(0, 0), 2);
        due("down behind 1 and 4: 0 and 2 with 2", filmed(three, 1, 4, 0).fits(0, 1), 1);
        due("the last tells nothing", filmed(three, 1, 4).fits(0, 2), 2);
        due("nor what is ahead of the first", filmed(three, 4, 0).fits(0, 2), 4);
        due("none fits", filmed(three, 1, 4, 1, 0).fits(0, 2), 0);
        due("strings as they are tell nothing", filmed(RING, 1, 4, 0).fits(0, 2), 2);
        sentence(40, "FILM in a ROW: 2 to 30 POSES, one behind the other.");
        due("2", filmed(three, 0, 0).fits(0, 1), 4);
        long[] thirty = new long[30];
        due("30", filmed(three, thirty).fits(0, 1), 4);
        thirty[28] = 1;
        thirty[29] = 2;
        due("30: the last but one tells", filmed(three, thirty).fits(0, 1), 2);
        due("all poses of ten limbs", filmed(LIMBS_10, 1023, 1022, 1).fits(0, 0), 0);
        sentence(40, "How many GUESSES for a LIMB FIT.");
        due("two", filmed(three, 1, 4, 0).fits(0, 2), 2);
        leaves("fits(2, 2)", y -> y.fits(2, 2), 1);
    }

    /** Busy, with a film of so many poses in row 2, the last of them told. */
    private static StringHands film(int length, long last) {
        StringHands x = busy();
        x.numbers(2, 3, length);
        x.write(2, length - 1, last);
        return x;
    }

    private interface Asked {
        long answer(StringHands x, int row, int l);
    }

    private static void refused(String call, Asked asked) {
        for (int row : NO_ROWS) {
            leaves(call + "(" + row + ", 0)", y -> asked.answer(y, row, 0), -2);
        }
        for (int l : NO_LIMBS) {
            leaves(call + "(2, " + l + ")", y -> asked.answer(y, 2, l), -2);
        }
        leaves(call + " of a row that is missing", y -> asked.answer(y, 3, 0), -6);
        int[] badLength = {0, 1, 31, 40};
        for (int length : badLength) {
            leaves(call + " of " + length + " numbers", () -> film(length, 0), y -> asked.answer(y, 2, 0), -4);
        }
        long[] badPose = {-1, 8, 1024, 1L << 32, Long.MIN_VALUE, Long.MAX_VALUE};
        for (long p : badPose) {
            leaves(call + " with " + p, () -> film(30, p), y -> asked.answer(y, 2, 0), -3);
        }
    }

    private static void refusedInOrder(Asked asked) {
        sentence(40, "(Of several that which the call tells first; all these ahead of NONE.)");
        due("a limb, and a row that is missing", asked.answer(busy(), 3, 3), -2);
        due("31, one of them no pose", asked.answer(film(31, -1), 2, 0), -4);
        due("a limb, and 31", asked.answer(film(31, 0), 2, 3), -2);
        StringHands none = film(3, 8);
        none.write(2, 1, 1);
        due("no pose, and none fits", asked.answer(none, 2, 0), -3);
    }

    private static void filmRefused() {
        sentence(40, "-2: the ROW, the LIMB; -6; -4: not 2 to 30 numbers; -3: one is no POSE.");
        refused("fits", (x, row, l) -> x.fits(row, l));
        refusedInOrder((x, row, l) -> x.fits(row, l));
        sentence(41, "-2 (what, too); -6; -4; -3.");
        refused("fewest", (x, row, l) -> x.fewest(row, l, 0));
        int[] badWhat = {-1, 2, Integer.MIN_VALUE, Integer.MAX_VALUE};
        for (int what : badWhat) {
            leaves("fewest(2, 0, " + what + ")", y -> y.fewest(2, 0, what), -2);
        }
        refusedInOrder((x, row, l) -> x.fewest(row, l, 1));
        due("what, and a row that is missing", busy().fewest(3, 0, 2), -2);
        due("what, and 31", film(31, 0).fewest(2, 0, 2), -2);
        due("what, and none fits", filmed("puppet 3;", 0, 1).fewest(0, 0, 2), -2);
        sentence(42, "else as fits().");
        refused("sure", (x, row, l) -> x.sure(row, l));
        refusedInOrder((x, row, l) -> x.sure(row, l));
        sentence(43, "else as fits().");
        refused("telling", (x, row, l) -> x.telling(row, l));
        refusedInOrder((x, row, l) -> x.telling(row, l));
    }

    private static void fewest() {
        String three = "puppet 3;";
        sentence(41, "FEWEST, of like ones the least set, then the least NEED");
        due("0 or 1: the least", filmed(three, 0, 0).fewest(0, 2, 0), 1);
        due("1 or 2: the least", filmed(three, 0, 0).fewest(0, 0, 0), 2);
        due("its need", filmed(three, 0, 0).fewest(0, 0, 1), 1);
        due("1 alone is fewer than 0 and 1", filmed("puppet 4;", 2, 8, 1, 0).fewest(0, 3, 0), 2);
        due("3 alone is fewer than 0 and 1", filmed("puppet 5;", 8 + 1, 16, 1 + 2, 0, 8, 16).fewest(0, 4, 0), 8);
        due("of ten limbs", filmed(LIMBS_10, 0, 0).fewest(0, 0, 0), 2);
        sentence(41, "FEWEST, what 0: LIMBS as bits, 1: NEED.");
        StringHands both = filmed(three, 1, 0, 2, 0, 3, 4);
        due("both are needed", both.fewest(0, 2, 0), 3);
        due("need two", both.fewest(0, 2, 1), 2);
        StringHands either = filmed(three, 1, 4, 2, 4, 0, 0);
        due("either is enough", either.fewest(0, 2, 0), 3);
        due("need one", either.fewest(0, 2, 1), 1);
        fill(both, 0, 0, 0);
        due("another film", both.fewest(0, 2, 0), 1);
        due("another limb", both.fewest(0, 0, 0), 2);
        sentence(41, "NONE: none FITS");
        due("none fits", filmed(three, 0, 1).fewest(0, 0, 0), -1);
        due("none fits", filmed(three, 0, 1).fewest(0, 0, 1), -1);
    }

    private static void sure() {
        String three = "puppet 3;";
        sentence(42, "SURE: LIMBS in all that FIT.");
        due("0 of 0, and of 0 and 1", filmed(three, 1, 4, 0).sure(0, 2), 1);
        due("1 of 1, and of 1 and 2", filmed(three, 1, 4, 0).sure(0, 0), 2);
        due("none is in all", filmed(three, 0, 0).sure(0, 0), 0);
        sentence(42, "SURE ones, as bits.");
        due("both of one guess", filmed(three, 1, 4, 0).sure(0, 1), 5);
        due("both of one guess", filmed(three, 1, 0, 2, 0, 3, 4).sure(0, 2), 3);
        due("nine of ten", filmed(LIMBS_10, 510, 0, 509, 0, 507, 0, 503, 0, 495, 0, 479, 0, 447, 0, 383, 0, 255, 0, 511, 512).sure(0, 9), 511);
        StringHands x = filmed(three, 1, 4, 0);
        due("one limb", x.sure(0, 1), 5);
        due("another limb", x.sure(0, 2), 1);
        sentence(42, "NONE: none FITS");
        due("none fits", filmed(three, 0, 1).sure(0, 0), -1);
        due("one limb", filmed("puppet 1;", 0, 0).sure(0, 0), -1);
    }

    private static void telling() {
        String three = "puppet 3;";
        sentence(43, "TELLING: the POSE by which, of all that FIT, fewest are left at worst (UP, or not, behind it), the least POSE.");
        due("2 tells 0 from 0 and 1", filmed(three, 1, 4, 0).telling(0, 2), 2);
        due("2 tells 1 from 1 and 2", filmed(three, 1, 4, 0).telling(0, 0), 2);
        due("2 or 4: two of four are left", filmed(three, 0, 0).telling(0, 0), 2);
        due("1 or 2: two of four are left", filmed(three, 0, 0).telling(0, 2), 1);
        // A pose with k others up tells 256 k of 2304 to be up: 4 and 5 are like ones.
        due("four limbs of nine, the least", filmed(LIMBS_10, 0, 0).telling(0, 9), 15);
        due("four limbs of nine, the least", filmed(LIMBS_10, 0, 0).telling(0, 0), 30);
        // 4 with 0 and 1 as they like, by need 1; and these with 3, by need 2: 0 and 1 tell four of eight.
        due("some need two", filmed("puppet 5;", 12, 24, 31).telling(0, 2), 3);
        StringHands x = filmed(three, 1, 4, 0);
        due("one limb", x.telling(0, 0), 2);
        fill(x, 0, 0, 0);
        due("another film", x.telling(0, 2), 1);
        due("strings as they are tell nothing", filmed(RING + "up 1;", 0, 0).telling(0, 0), 2);
        sentence(43, "TELLING: the POSE.");
        due("two fit: 1 or 3 with 1", filmed(three, 1, 4, 0).telling(0, 2), 2);
        sentence(43, "NONE: fewer than two FIT");
        due("one fits", filmed(three, 1, 4, 0).telling(0, 1), -1);
        due("none fits", filmed(three, 0, 1).telling(0, 0), -1);
        due("two fit", filmed(three, 1, 4, 0).fits(0, 2), 2);
    }

    private static void asTheyAre() {
        String all = "All below is asked with strings as they are, without WEAR.";
        StringHands worn = told(RING + "puppet 2;up 0;life 1;");
        StringHands x = told(RING + "puppet 2;up 0;");
        due("ahead", x.power(2, 1), 32);
        x.cut(2);
        sentence(38, all);
        due("two: each third beat", worn.two(3, 1025, 4, 1024, 2), 20);
        due("two: limb 0 stays up", x.two(3, 1025, 4, 1024, 2), 60);
        sentence(39, all);
        due("power(0, 3)", worn.power(0, 3), 32);
        due("power(2, 1), one is cut", x.power(2, 1), 0);
        sentence(44, all);
        fill(worn, 0, 0, 0, 0, 0);
        fill(x, 0, 0, 0, 0, 0);
        worn.film(0);
        x.film(0);
        // The poses are taken as deeds: limbs 1, 2, 4 and 1 again; and 1, 3, then 7, which is no limb.
        due("film without wear", worn.judge(0, 2), 1 + 4 + 16);
        due("nothing broke", worn.count(3), 3);
        due("film, one is cut", x.judge(0, 2), 1 + 2 + 8);
        due("film, one is cut", x.judge(0, 0), 2);
    }

    private static void film() {
        sentence(44, "The POSE and those that follow by BEATS (without WEAR) come into a ROW, as many as it has places: how many.");
        StringHands x = told(COUNTER);
        for (int n = 1; n < 7; n++) {
            x.numbers(0, 2, n);
            due("film of " + n, x.film(0), n);
            // Poses 0, 1, 2 .. as deeds nudge limbs 0, 1, 2 ..
            due("the poses", x.judge(0, 2), (1 << n) - 1);
            due("all are limbs", x.judge(0, 0), -1);
        }
        x.numbers(0, 2, 40);
        x.strike(5);
        due("forty", x.film(0), 40);
        due("from the pose as it is", x.judge(0, 0), 1);
        due("the first", x.judge(0, 2), 5 + 32);
        x.numbers(0, 2, 0);
        due("no places", x.film(0), 0);
        due("the pose stays", x.count(4), 5);
        due("nothing was done", x.count(5), 1);
        x = told(LIMBS_10 + "up 9;up 7;");
        x.numbers(0, 0, 2);
        due("film of 8 bits", x.film(0), 2);
        due("640 is cut to its sort, which is no pose", x.fits(0, 0), -3);
        x.numbers(0, 1, 2);
        due("film of 16 bits", x.film(0), 2);
        due("640 stays", x.fits(0, 0), 2304 - 2 * 256);
        x.strike(255);
        x.numbers(0, 0, 2);
        x.film(0);
        due("255 is cut to a beat", x.judge(0, 1), 0);
        due("no limbs", filmed("", 1, 1).film(0), 2);
        sentence(44, "-2; -6.");
        for (int row : NO_ROWS) {
            leaves("film(" + row + ")", y -> y.film(row), -2);
        }
        leaves("film(3)", y -> y.film(3), -6);
    }

    private static void breaks() {
        sentence(45, "BREAKS: by BEATS as they would be, WEAR and LIFE as they are");
        StringHands x = told("life 3;" + RING + "up 0;");
        due("breaks(0)", x.breaks(0), 3);
        x.beat(3);
        due("wear as it is", x.breaks(0), 0);
        x.cut(0);
        x.tie(0);
        due("the other that is worn so", x.breaks(1), 1);
        due("two moves in three beats", told("life 99;" + RING + "up 0;").breaks(0), 147);
        leaves("breaks(0)", y -> y.breaks(0), -1);
        leaves("breaks(0) of one that breaks", () -> told("life 1;" + RING + "up 0;"), y -> y.breaks(0), 0);
        sentence(45, "the first BEAT (from 0 on) behind which some string breaks, at most 200; the first string.");
        due("the first beat", told("life 1;" + RING + "up 0;").breaks(0), 0);
        due("0 and 1 break: the first", told("life 1;" + RING + "up 0;").breaks(1), 0);
        due("1 and 2 break: the first", told("life 1;" + RING + "up 1;").breaks(1), 1);
        due("one that is cut breaks no more", cutFirst("life 1;" + RING + "up 0;up 1;").breaks(1), 2);
        // Limb 2 moves in every fourth beat: from 0 first behind beat 3, from 3 first behind beat 0.
        due("the last of 200 beats", told(COUNTER + "string 2 to 3;life 50;").breaks(0), 199);
        due("the 201st", told(COUNTER + "string 2 to 3;life 51;up 0;up 1;").breaks(0), -1);
        sentence(45, "BREAKS, what 0: the BEAT, 1: the string.");
        x = told("life 67;puppet 2;string 1 to 0;string 0 to 1;rule 0 : me = 0;rule 1 : me = 1;");
        due("breaks(0)", x.breaks(0), 66);
        due("breaks(1)", x.breaks(1), 1);
        sentence(45, "NONE: none within 200; -2; -5: no LIFE.");
        due("none moves", told("life 1;" + RING).breaks(0), -1);
        due("none moves", told("life 1;" + RING).breaks(1), -1);
        due("no strings", told("life 1;").breaks(0), -1);
        due("the 201st, its string", told(COUNTER + "string 2 to 3;life 51;up 0;up 1;").breaks(1), -1);
        int[] badWhat = {-1, 2, Integer.MIN_VALUE, Integer.MAX_VALUE};
        for (int what : badWhat) {
            leaves("breaks(" + what + ")", y -> y.breaks(what), -2);
        }
        leaves("no life", () -> told(RING + "up 0;"), y -> y.breaks(0), -5);
        leaves("no life", () -> told(RING + "up 0;"), y -> y.breaks(1), -5);
        due("a new object", new StringHands().breaks(0), -5);
        sentence(45, "(Of several that which the call tells first; all these ahead of NONE.)");
        due("what, no life", told(RING).breaks(2), -2);
        due("what, none within 200", told("life 1;" + RING).breaks(2), -2);
    }

    private static StringHands cutFirst(String text) {
        StringHands x = told(text);
        x.cut(0);
        return x;
    }
}

/** Promises 1 to 4: a new object, the tape, the text and its faults. */
final class TextSentences extends Sentences {
    /** The sign at which the truth of a rule begins is 18. */
    private static final String RULE_0 = "puppet 1;rule 0 : ";

    static void all() {
        newObject();
        tape();
        troupe();
        troupeRefused();
        linesOfTexts();
        puppetsAndStrings();
        needsAndOthers();
        truths();
        tokens();
        faultsInOrder();
        faultsByKind();
        within();
        fault();
    }

    private static void newObject() {
        sentence(1, "No PUPPETS.");
        StringHands x = new StringHands();
        due("count(0)", x.count(0), 0);
        due("count(1)", x.count(1), 0);
        due("limb(0, 0)", x.limb(0, 0), -2);
        due("nudge(0)", x.nudge(0), -2);
        sentence(1, "(without one: no PUPPETS, no LIFE)");
        for (int what = 0; what < 10; what++) {
            due("count(" + what + ")", x.count(what), 0);
        }
        due("string(0, 0)", x.string(0, 0), -2);
        due("breaks(0)", x.breaks(0), -5);
        due("the one pose rests", x.rests(-1), 1);
        due("the one pose", x.next(0), 0);
        due("no other pose", x.next(1), -3);
        sentence(1, "The constants: `NONE = -1`: There is none.");
        due("NONE", StringHands.NONE, -1);
        due("there is none", x.rests(1), StringHands.NONE);
        sentence(1, "An object is used for at most 512 calls after it has been made; what later calls answer is free.");
        x = told("puppet 1;");
        for (int call = 3; call < 512; call++) {
            x.nudge(0);
        }
        due("the 512th call", x.nudge(0), 0);
    }

    private static void tape() {
        sentence(2, "Twenty bytes come behind those on THE TAPE");
        StringHands x = new StringHands();
        feedText(x, "life 1;life 2;life 3");
        feedText(x, ";");
        due("troupe: a line that lies in both", x.troupe(21), 3);
        due("life", x.count(6), 3);
        sentence(2, "the highest of each int first: how many it has.");
        due("feed", x.feed(0x6C696665, 0x20373B20, 0x20202020, 0x20202020, 0x20202041), 20);
        due("feed", x.feed(0, 0, 0, 0, 0), 40);
        due("troupe: the first 19", x.troupe(19), 1);
        due("life", x.count(6), 7);
        x.feed(0x6C696665, 0x20373B20, 0x20202020, 0x20202020, 0x20202041);
        due("troupe: the last byte", x.troupe(20), -31);
        due("its place", x.fault(1), 19);
        for (int place = 0; place < 20; place++) {
            int[] w = {0x20202020, 0x20202020, 0x20202020, 0x20202020, 0x20202020};
            w[place / 4] += 0xDF << 24 - place % 4 * 8;
            x = new StringHands();
            x.feed(w[0], w[1], w[2], w[3], w[4]);
            due("troupe: a byte of 255 at " + place, x.troupe(20), -31);
            due("the place of 255", x.fault(1), place);
        }
        sentence(2, "-5: it would have more than 900.");
        x = full("life 9;");
        due("count(8)", x.count(8), 900);
        leaves("feed", () -> full("life 9;"), y -> y.feed(0, 0, 0, 0, 0), -5);
        x.feed(0x41414141, 0, 0, 0, 0);
        due("the tape is as it was", x.troupe(900), 1);
        due("life", x.count(6), 9);
        due("there is room again", x.feed(0, 0, 0, 0, 0), 20);
    }

    /** All 900 bytes are fed; these are the last ones. */
    private static StringHands full(String end) {
        StringHands x = new StringHands();
        for (int i = 1; i < 45; i++) {
            due("feed", x.feed(0x20202020, 0x20202020, 0x20202020, 0x20202020, 0x20202020), 20 * i);
        }
        feedText(x, end);
        return x;
    }

    private static void troupe() {
        sentence(3, "The first n bytes of THE TAPE (which is empty then) are THE TROUPE");
        StringHands x = new StringHands();
        feedText(x, "puppet 2;up 1;life 5;up 0;");
        due("troupe(14)", x.troupe(14), 2);
        due("what lies behind n is not told", x.count(6), 0);
        due("pose", x.count(4), 2);
        due("the tape", x.count(8), 0);
        due("troupe(1)", x.troupe(1), -3);
        feedText(x, "puppet 1;up");
        due("a text that ends within a word", x.troupe(10), -32);
        due("its place", x.fault(1), 9);
        due("the tape behind a fault", x.count(8), 0);
        feedText(x, "puppet 2;life 12;");
        due("a text that ends within a number", x.troupe(15), -32);
        due("its place", x.fault(1), 15);
        feedText(x, "life 999;");
        due("a text that ends within a number", x.troupe(7), -32);
        x = told("puppet 3;string 1 to 0 turned;string 1 to 2;string 2 to 0;rule 0 : 1 = 1;need 1 3;up 0;up 2;life 3;");
        x.beat(1);
        x.nudge(2);
        x.beat(1);
        due("worn", x.string(2, 5), 2);
        x.cut(1);
        x.swap(0);
        due("another text", read(x, RING), 4);
        due("whole ones", x.count(3), 3);
        due("from", x.string(0, 0), 0);
        due("turned", x.string(0, 3), 0);
        due("place", x.limb(0, 8), 0);
        due("wear", x.string(2, 5), 0);
        due("need", x.limb(1, 4), 1);
        due("rules", x.count(7), 0);
        due("life", x.count(6), 0);
        due("pose", x.count(4), 0);
        due("next", x.next(1), 2);
        due("rests", x.rests(-1), 2);
        due("another text with strings alike", read(x, RING + "rule 2 : up 1 = 0;"), 5);
        due("rests", x.rests(-1), 0);
        due("troupe(0)", x.troupe(0), 0);
        due("limbs then", x.count(1), 0);
        due("rests then", x.rests(-1), 1);
        for (int i = 0; i < 5; i++) {
            due("a long text, once more", read(x, RULE_0 + "1" + "*1".repeat(200) + "-" + i + "=me;"), 2);
            due("its rule", x.next(0), i == 1 ? 1 : 0);
            due("its rule", x.next(1), i == 0 ? 1 : 0);
        }
        sentence(3, "nothing can be UNDONE: how many LINES");
        x = told("puppet 1;");
        x.nudge(0);
        due("troupe", read(x, "puppet 1;up 0;life 4;"), 3);
        due("count(5)", x.count(5), 0);
        due("undo(1)", x.undo(1), -3);
        due("count(9)", x.count(9), 3);
        x.nudge(0);
        due("troupe(0)", x.troupe(0), 0);
        due("count(5)", x.count(5), 0);
    }

    private static void troupeRefused() {
        sentence(3, "(all stays with a FAULT).");
        StringHands x = stirred();
        due("a fault at the end", read(x, "puppet 5;string 3 to 4;need 4 4;rule 4 : 1 = 1;up 4;life 4;up"), -32);
        due("its place", x.fault(1), 61);
        due("limbs", x.count(1), 3);
        due("lines", x.count(9), 9);
        due("what can be undone", x.count(5), 4);
        StringHands y = stirred();
        due("the same fault of less", read(y, " ".repeat(59) + "up"), -32);
        same("what was told ahead of the fault", x, y);
        sentence(3, "-3: n is below 0 or above what there is (THE TAPE stays)");
        int[] bad = {-1, 41, 900, Integer.MIN_VALUE, Integer.MAX_VALUE};
        for (int n : bad) {
            leaves("troupe(" + n + ")", z -> z.troupe(n), -3);
        }
        x = new StringHands();
        due("troupe(1) of an empty tape", x.troupe(1), -3);
        read(x, ";");
        feedText(x, "puppet 2;up 1;");
        due("troupe(21)", x.troupe(21), -3);
        due("fault(0) stays", x.fault(0), 2);
        due("the tape", x.count(8), 20);
        due("all that there is", x.troupe(20), 2);
        sentence(3, "-30 less the FAULT.");
        due("1", read(x, "A"), -31);
        due("2", read(x, ";"), -32);
        due("3", read(x, "life 0;"), -33);
        due("4", read(x, "puppet 6;puppet 6;"), -34);
        sentence(3, "-30 less the FAULT: a text.");
        due("1", read(x, "1000"), -31);
    }

    private static void linesOfTexts() {
        sentence(3, "THE TROUPE is a TEXT of at most 900 bytes");
        lines("puppet 2;" + "up 0;".repeat(178) + "\n", 179);
        StringHands x = told("puppet 2;" + " ".repeat(882) + "life 77;\n");
        due("the last line of 900 bytes", x.count(6), 77);
        faulty("puppet 2;" + "up 0;".repeat(178) + "A", 1, 899);
        faulty(RULE_0 + "1" + "+1".repeat(440) + "=", 2, 900);
        sentence(3, "{ LINE ; }");
        lines("", 0);
        lines(" \n  ", 0);
        lines("puppet 1;", 1);
        lines("puppet 1;life 1;", 2);
        faulty(";", 2, 0);
        faulty("puppet 1", 2, 8);
        faulty("puppet 1;;", 2, 9);
        faulty("puppet 1 life 1;", 2, 9);
        sentence(3, "LINE: puppet N | string N to N [ times N ] [ turned ] | need N N | rule N : TRUTH | up N | life N.");
        String two = "puppet 2;";
        String[] good = {"string 0 to 1;", "string 0 to 1 times 2;", "string 0 to 1 turned;", "string 0 to 1 times 2 turned;",
            "need 0 2;", "rule 0 : 1 = 1;", "up 0;", "life 1;", "puppet 1;"};
        for (String line : good) {
            lines(two + line, 2);
        }
        faulty("puppet ;", 2, 7);
        faulty("puppet 1 1;", 2, 9);
        faulty(two + "string to 1;", 2, 16);
        faulty(two + "string 0 1;", 2, 18);
        faulty(two + "string 0 to;", 2, 20);
        faulty(two + "string 0 to 1 times;", 2, 28);
        faulty(two + "string 0 to 1 2;", 2, 23);
        faulty(two + "string 0 to 1 turned times 2;", 2, 30);
        faulty(two + "string 0 to 1 turned turned;", 2, 30);
        faulty(two + "string 0 to 1 times 2 times 2;", 2, 31);
        faulty(two + "need ;", 2, 14);
        faulty(two + "need 1;", 2, 15);
        faulty(two + "need 1 1 1;", 2, 18);
        faulty(two + "rule 0 1 = 1;", 2, 16);
        faulty(two + "rule : 1 = 1;", 2, 14);
        faulty(two + "up ;", 2, 12);
        faulty(two + "up 0 1;", 2, 14);
        faulty(two + "life;", 2, 13);
        faulty(two + "turned;", 2, 9);
    }

    private static void puppetsAndStrings() {
        sentence(3, "puppet: one with so many LIMBS, 1 to 6");
        due("one", told("puppet 1;").count(1), 1);
        due("six", told("puppet 6;").count(1), 6);
        faulty("puppet 0;", 3, 7);
        faulty("puppet 7;", 3, 7);
        faulty("puppet 999;", 3, 7);
        sentence(3, "LIMBS are numbered from 0 on as they come");
        StringHands x = told("puppet 2;puppet 3;");
        int[] puppets = {0, 0, 1, 1, 1, -2};
        for (int l = 0; l < 6; l++) {
            due("limb(" + l + ", 1)", x.limb(l, 1), puppets[l]);
        }
        due("puppets", x.count(0), 2);
        sentence(3, "10 at most in all.");
        due("six and four", told(LIMBS_10).count(1), 10);
        due("ten of one", told("puppet 1;".repeat(10)).count(0), 10);
        due("the last", told(LIMBS_10).limb(9, 1), 1);
        due("behind it", told(LIMBS_10).limb(10, 1), -2);
        sentence(3, "string: from a LIMB to another one, both told ahead");
        x = told("puppet 3;string 2 to 0;");
        due("from", x.string(0, 0), 2);
        due("to", x.string(0, 1), 0);
        faulty("puppet 1;string 0 to 1;puppet 1;", 3, 21);
        faulty("puppet 1;string 1 to 0;puppet 1;", 3, 16);
        faulty("puppet 2;string 1 to 1;", 3, 21);
        faulty("string 0 to 1;puppet 2;", 3, 7);
        sentence(3, "(more than one between the same are allowed)");
        due("two", told("puppet 2;string 0 to 1;string 0 to 1;").count(2), 2);
        sentence(3, "times 1 to 3 (1)");
        x = told("puppet 2;string 0 to 1;string 0 to 1 times 1;string 0 to 1 times 3;");
        due("none is told", x.string(0, 2), 1);
        due("1", x.string(1, 2), 1);
        due("3", x.string(2, 2), 3);
        faulty("puppet 2;string 0 to 1 times 0;", 3, 29);
        faulty("puppet 2;string 0 to 1 times 4;", 3, 29);
        sentence(3, "turned; numbered from 0 on, 16 at most.");
        x = told("puppet 2;" + "string 0 to 1;".repeat(15) + "string 1 to 0 turned;");
        due("strings", x.count(2), 16);
        due("from of the last", x.string(15, 0), 1);
        due("turned", x.string(15, 3), 1);
        due("not turned", x.string(14, 3), 0);
        due("behind it", x.string(16, 3), -2);
    }

    private static void needsAndOthers() {
        sentence(3, "need: NEED 1 to 9 of a LIMB (1)");
        StringHands x = told("puppet 3;need 1 9;need 2 1;");
        due("none is told", x.limb(0, 4), 1);
        due("9", x.limb(1, 4), 9);
        due("1", x.limb(2, 4), 1);
        faulty("puppet 2;need 1 0;", 3, 16);
        faulty("puppet 2;need 1 10;", 3, 16);
        sentence(3, "rule: the RULE of a LIMB");
        x = told("puppet 3;rule 1 : 1 = 1;");
        due("a rule", x.limb(1, 6), 1);
        due("none", x.limb(0, 6), 0);
        due("only that limb moves", x.next(0), 2);
        sentence(3, "up: a LIMB that is UP at first (others are DOWN)");
        due("one", told("puppet 3;up 1;").count(4), 2);
        due("one told twice", told("puppet 3;up 1;up 1;").count(4), 2);
        due("none", told("puppet 3;").count(4), 0);
        due("the last", told(LIMBS_10 + "up 9;").count(4), 512);
        sentence(3, "life: 1 to 99.");
        due("1", told("life 1;").count(6), 1);
        due("99", told("life 99;").count(6), 99);
        faulty("life 0;", 3, 5);
        faulty("life 100;", 3, 5);
        sentence(3, "Later ones of need, rule, life strike.");
        x = told("puppet 2;need 0 9;need 0 2;life 9;life 3;rule 1 : pulls = 0;rule 1 : 1 = 2;");
        due("need", x.limb(0, 4), 2);
        due("life", x.count(6), 3);
        due("rule", x.next(2), 0);
        due("one rule", x.count(7), 1);
        due("lines", x.count(9), 7);
        sentence(3, "LIMBS of need, rule, up (also within TRUTH) are told ahead.");
        faulty("need 0 1;puppet 1;", 3, 5);
        faulty("rule 0 : 1 = 1;puppet 1;", 3, 5);
        faulty("up 0;puppet 1;", 3, 3);
        faulty("puppet 1;rule 0 : up 1 = 1;puppet 1;", 3, 21);
        faulty("puppet 1;need 1 1;", 3, 14);
        faulty("puppet 1;rule 1 : 1 = 1;", 3, 14);
        faulty("puppet 1;up 1;", 3, 12);
        faulty(LIMBS_10 + "up 10;", 3, 21);
        lines(LIMBS_10 + "need 9 1;up 9;rule 9 : up 9 = 1;", 5);
    }

    private static void truths() {
        sentence(3, "TRUTH: BOTH { or BOTH }; BOTH: UNIT { and UNIT }");
        lines(RULE_0 + "1 = 1 or 1 = 1 and 1 = 1 and 1 = 1 or 1 = 1;", 2);
        faulty(RULE_0 + ";", 2, 18);
        faulty(RULE_0 + "or 1 = 1;", 2, 18);
        faulty(RULE_0 + "1 = 1 or;", 2, 26);
        faulty(RULE_0 + "1 = 1 and;", 2, 27);
        faulty(RULE_0 + "1 = 1 and or 1 = 1;", 2, 28);
        faulty(RULE_0 + "1 = 1 1 = 1;", 2, 24);
        sentence(3, "UNIT: not UNIT, [ TRUTH ], or SUM, one of = < >, SUM.");
        lines(RULE_0 + "not [ 1 = 1 or 1 < 1 ] and not not 1 > 1;", 2);
        faulty(RULE_0 + "1;", 2, 19);
        faulty(RULE_0 + "1 =;", 2, 21);
        faulty(RULE_0 + "= 1;", 2, 18);
        faulty(RULE_0 + "1 = 1 = 1;", 2, 24);
        faulty(RULE_0 + "1 == 1;", 2, 21);
        faulty(RULE_0 + "1 <> 1;", 2, 21);
        faulty(RULE_0 + "[ 1 = 1;", 2, 25);
        faulty(RULE_0 + "1 = 1 ];", 2, 24);
        faulty(RULE_0 + "[ 1 ] = 1;", 2, 22);
        faulty(RULE_0 + "[ ];", 2, 20);
        faulty(RULE_0 + "1 = not 1;", 2, 22);
        faulty(RULE_0 + "not;", 2, 21);
        sentence(3, "SUM: TERM { + TERM | - TERM }; TERM: ATOM { * ATOM }");
        lines(RULE_0 + "1 + 2 - 3 * 4 * 5 - 6 = 1;", 2);
        faulty(RULE_0 + "- 1 = 1;", 2, 18);
        faulty(RULE_0 + "1 + = 1;", 2, 22);
        faulty(RULE_0 + "1 * - 1 = 1;", 2, 22);
        faulty(RULE_0 + "1 + not 1 = 1;", 2, 22);
        sentence(3, "ATOM: N, up N, me, pulls, ( SUM ).");
        lines(RULE_0 + "0 + 999 + up 0 + me + pulls + ( 1 + 1 ) = 1;", 2);
        faulty(RULE_0 + "up = 1;", 2, 21);
        faulty(RULE_0 + "up me = 1;", 2, 21);
        faulty(RULE_0 + "me 0 = 1;", 2, 21);
        faulty(RULE_0 + "( ) = 1;", 2, 20);
        faulty(RULE_0 + "( 1 = 1 );", 2, 22);
        faulty(RULE_0 + "( 1 = 1;", 2, 22);
        faulty(RULE_0 + "( [ 1 ] ) = 1;", 2, 20);
        faulty(RULE_0 + "turned = 1;", 2, 18);
    }

    private static void tokens() {
        sentence(3, "TOKENS, as long as they go on, between them blanks (10, 32)");
        lines("puppet2;string0to1times3turned;", 2);
        lines("\n\npuppet\n2\n;\n \nup 0 ;\n", 2);
        due("a number goes on", told("life 12;").count(6), 12);
        due("a number goes on", told("life12;").count(6), 12);
        faulty("life 1 2;", 2, 7);
        faulty("pup pet 1;", 2, 0);
        faulty("puppet 1;upup 0;", 2, 9);
        int[] blankless = {0, 9, 11, 12, 13, 31, 127, 160};
        for (int b : blankless) {
            faulty("puppet 1;" + (char) b, 1, 9);
        }
        sentence(3, "words (small letters)");
        faulty("a", 2, 0);
        faulty("z", 2, 0);
        faulty("`", 1, 0);
        faulty("{", 1, 0);
        faulty("A", 1, 0);
        faulty("Life 1;", 1, 0);
        faulty("lifE 1;", 2, 0);
        faulty("life E1;", 1, 5);
        faulty("xife 1;", 2, 0);
        faulty("lifes 1;", 2, 0);
        faulty("lif 1;", 2, 0);
        faulty("\u00e9", 1, 0);
        sentence(3, "N (1 to 3 digits)");
        lines("life 1;life 12;life 012;life 001;", 4);
        lines(RULE_0 + "999 > 000;", 2);
        faulty("0", 2, 0);
        faulty("9", 2, 0);
        faulty("999", 2, 0);
        faulty("/", 1, 0);
        faulty("0000", 1, 0);
        sentence(3, "the signs ; : + - * ( ) [ ] = < >.");
        for (int b = 33; b < 256; b++) {
            boolean begins = ";:+-*()[]=<>".indexOf(b) >= 0 || b >= 'a' && b <= 'z' || b >= '0' && b <= '9';
            faulty("" + (char) b, begins ? 2 : 1, 0);
        }
        lines(RULE_0 + "[(1)+1-1*1=1]or[1<1]or[1>1];", 2);
    }

    private static void faultsInOrder() {
        sentence(4, "FAULTS, the first along the text");
        faulty("puppet 0;A", 3, 7);
        faulty("puppet 0 A", 3, 7);
        faulty("puppet puppet A", 2, 7);
        faulty("puppet A 0;", 1, 7);
        faulty("puppet 1;life 0;up 5;", 3, 14);
        faulty("puppet 2;string 0 to 0 A", 3, 21);
        faulty("puppet 2;string 5 A", 3, 16);
        faulty("puppet 1;life 100A", 3, 14);
        faulty("puppet 1;need 0 10A", 3, 16);
        faulty(RULE_0 + "up 1 A", 3, 21);
        faulty(RULE_0 + "me me A", 2, 21);
        faulty(RULE_0 + "[ me = 1 or A", 1, 30);
        faulty(RULE_0 + "[ me = 1 and A", 1, 31);
        faulty(RULE_0 + "[ me = A", 1, 25);
        faulty(RULE_0 + "[ ( me + A", 1, 27);
        faulty(RULE_0 + "[ ( me * A", 1, 27);
        faulty(RULE_0 + "[ me = 1 or [ up 1", 3, 35);
        faulty(RULE_0 + "[ me = 1 and ( up 1", 3, 36);
        sentence(4, "of one TOKEN the least kind");
        faulty("1000", 1, 0);
        faulty("puppet 6;puppet 1000;", 1, 16);
        faulty("puppet 6;puppet 7;", 3, 16);
        faulty("puppet 2;string 0 to 1000;", 1, 21);
        faulty("puppet 2;" + "string 0 to 1;".repeat(16) + "up string 0 to 1;", 2, 236);
        faulty(RULE_0 + "((((((1(", 2, 25);
        faulty(RULE_0 + "(((((([", 2, 24);
        faulty(RULE_0 + "((((((not", 2, 24);
    }

    private static void faultsByKind() {
        sentence(4, "1 no TOKEN begins so (4 digits and more: at their first).");
        faulty("puppet 1,", 1, 8);
        faulty("puppet 1;life 1000;", 1, 14);
        faulty("life 0001;", 1, 5);
        faulty("life 1234567890123;", 1, 5);
        faulty("12 1000", 2, 0);
        sentence(4, "2 it can't stand there (the end: the text's length).");
        faulty("puppets 1;", 2, 0);
        faulty("puppet puppet", 2, 7);
        faulty("up", 2, 2);
        faulty("puppet 1  ", 2, 10);
        faulty("puppet 1\n", 2, 9);
        faulty("puppet 1;up", 2, 11);
        faulty("puppet 2;string 0 to 1 times 2 turned", 2, 37);
        faulty(RULE_0 + "[ me = 1", 2, 26);
        faulty(";".repeat(900), 2, 0);
        sentence(4, "3 an N out of its bounds (a LIMB that isn't told; the second one of a string that is the first).");
        faulty("puppet 7;", 3, 7);
        faulty("life 100;", 3, 5);
        faulty("puppet 2;string 2 to 0;", 3, 16);
        faulty("puppet 2;string 0 to 2;", 3, 21);
        faulty("puppet 2;string 0 to 0;", 3, 21);
        faulty("puppet 2;string 1 to 0 times 999;", 3, 29);
        faulty("puppet 2;need 2 1;", 3, 14);
        faulty("puppet 2;rule 1 : up 2 = 1;", 3, 21);
        faulty("puppet 2;up 2;", 3, 12);
        sentence(4, "4 an N by which there are more than 10 LIMBS");
        faulty("puppet 6;puppet 5;", 4, 16);
        faulty(LIMBS_10 + "puppet 1;", 4, 25);
        faulty("puppet 5;puppet 6;", 4, 16);
        faulty("puppet 5;puppet 6 A", 4, 16);
        sentence(4, "the first TOKEN of a 17th string");
        String sixteen = "puppet 2;" + "string 0 to 1;".repeat(16);
        lines(sixteen, 17);
        faulty(sixteen + "string 0 to 1;", 4, 233);
        faulty(sixteen + "  string 9 to 9;", 4, 235);
        faulty(sixteen + "string A", 4, 233);
        lines(sixteen + "puppet 1;up 2;", 19);
    }

    private static void within() {
        sentence(3, "At most six of not [ ( within one another.");
        lines(RULE_0 + "not not not not not not 1 = 1;", 2);
        lines(RULE_0 + "[[[[[[1 = 1]]]]]];", 2);
        lines(RULE_0 + "((((((1)))))) = ((((((1))))));", 2);
        lines(RULE_0 + "not [ not [ ( ( me ) ) = 1 ] ] and not [ not [ ( ( me ) ) = 1 ] ];", 2);
        lines(RULE_0 + "[1=1]and[1=1]and[1=1]and[1=1]and[1=1]and[1=1]and[1=1]and not 1=1;", 2);
        lines(RULE_0 + "(1)+(1)+(1)+(1)*(1)*(1)*(1)-(1)=(1);", 2);
        sentence(4, "a seventh of not [ (.");
        faulty(RULE_0 + "not not not not not not not 1 = 1;", 4, 42);
        faulty(RULE_0 + "[[[[[[[1 = 1]]]]]]];", 4, 24);
        faulty(RULE_0 + "(((((((1))))))) = 1;", 4, 24);
        faulty(RULE_0 + "1 = (((((((1)))))));", 4, 28);
        faulty(RULE_0 + "1 = 1 + 1 * (((((((1)))))));", 4, 36);
        faulty(RULE_0 + "not [ not [ ( ( ( me ) ) ) = 1 ] ];", 4, 34);
        faulty(RULE_0 + "[[[[[[ 1 = 1 and (1) = 1", 4, 35);
        faulty(RULE_0 + "[[[[[[ 1 = 1 or not 1 = 1", 4, 34);
        faulty(RULE_0 + "[[[[[[[A", 4, 24);
        faulty(RULE_0 + "[[[[[[A", 1, 24);
        faulty(RULE_0 + "[[[[[[;", 2, 24);
    }

    private static void fault() {
        sentence(4, "Of the latest troupe() that was read, what 0: its FAULT (0), 1: its place (NONE).");
        StringHands x = new StringHands();
        due("fault(0) of a new object", x.fault(0), 0);
        due("fault(1) of a new object", x.fault(1), -1);
        read(x, "puppet 1;life 0;");
        due("fault(0)", x.fault(0), 3);
        due("fault(1)", x.fault(1), 14);
        x.nudge(0);
        x.image(0);
        x.restore(0);
        due("troupe(1), which is not read", x.troupe(1), -3);
        due("fault(0) then", x.fault(0), 3);
        due("fault(1) then", x.fault(1), 14);
        read(x, "A");
        due("fault(0) of a later one", x.fault(0), 1);
        due("fault(1) of a later one", x.fault(1), 0);
        due("troupe(0)", x.troupe(0), 0);
        due("fault(0) without a fault", x.fault(0), 0);
        due("fault(1) without a fault", x.fault(1), -1);
        sentence(4, "NONE for others.");
        read(x, "puppet 1;life 0;");
        int[] others = {-1, 2, 3, Integer.MIN_VALUE, Integer.MAX_VALUE};
        for (int what : others) {
            due("fault(" + what + ")", x.fault(what), -1);
        }
    }
}

/**
 * The document's promises one by one, with answers worked out by hand: ordinary inputs, the
 * edges that the document names, wrong inputs.
 */
public final class PokerEveningPromises {
    private static final int BAD = -1, NO = -2, FULL = -3, NONE = -4;
    private static final int[] WILD = {Integer.MIN_VALUE, -1000, -1, 1000, 65536, Integer.MAX_VALUE};
    private static int wrong = 0;
    private static int asked = 0;

    private static void due(String call, int got, int want) {
        asked++;
        if (got != want) {
            wrong++;
            System.out.println(call + " answered " + got + ", due is " + want);
        }
    }

    private static void rewrite(PokerEvening x, String text) {
        x.wipe();
        for (int i = 0; i < text.length(); i++) {
            x.write(text.charAt(i));
        }
    }

    private static PokerEvening laid(String text, int tellers) {
        PokerEvening x = new PokerEvening();
        rewrite(x, text);
        due("lay() of " + text, x.lay(), tellers);
        return x;
    }

    private static void faultOf(String text, int place) {
        PokerEvening x = new PokerEvening();
        rewrite(x, text);
        due("fault() of " + text, x.fault(), place);
    }

    public static void main(String[] args) {
        constants();
        newObject();
        writing();
        wiping();
        faults();
        laying();
        lookingUp();
        turning();
        adding();
        striking();
        shifting();
        gripping();
        undoing();
        kindsOfTellers();
        ironChangesHands();
        lettingGo();
        heats();
        orders();
        leaving();
        holding();
        seeing();
        worldsSeen();
        nextClaims();
        kindsSeen();
        gripsSeen();
        chances();
        evenings();
        keeping();
        counting();
        refusalsChangeNothing();
        askedInAnyOrder();
        System.out.println(asked - wrong + " answers of " + asked + " are as due");
        if (wrong != 0) {
            System.exit(1);
        }
    }

    private static void constants() {
        due("BAD", PokerEvening.BAD, BAD);
        due("NO", PokerEvening.NO, NO);
        due("FULL", PokerEvening.FULL, FULL);
        due("NONE", PokerEvening.NONE, NONE);
    }

    // Promise 1

    private static void newObject() {
        PokerEvening x = new PokerEvening();
        int[] counts = {4, 4, 7, 2, 5, 6, 2, 0, 0, 0, 0};
        for (int what = 0; what < counts.length; what++) {
            due("new: count(" + what + ")", x.count(what), counts[what]);
        }
        int[] grips = {10, 8, 12, 9};
        int[] facts = {1, 0, 1, 0};
        for (int i = 0; i < 4; i++) {
            due("new: teller(" + i + ", 0)", x.teller(i, 0), i);
            due("new: teller(" + i + ", 1)", x.teller(i, 1), grips[i]);
            due("new: fact(" + i + ")", x.fact(i), facts[i]);
        }
        int[][] claims = {{0, 0, 1, 9, 0}, {0, 1, 1, 8, 1}, {1, 2, 0, 14, 1}, {0, 3, 1, 6, 1},
            {2, 1, 1, 5, 1}, {3, 3, 0, 20, 0}, {2, 0, 0, 4, 1}};
        for (int c = 0; c < claims.length; c++) {
            for (int what = 0; what < 5; what++) {
                due("new: claim(" + c + ", " + what + ")", x.claim(c, what), claims[c][what]);
            }
        }
        due("new: fault()", x.fault(), NONE);
        due("new: lay()", x.lay(), NO);
        due("new: wipe()", x.wipe(), 0);
        due("new: forget()", x.forget(), 0);
        due("new: undo()", x.undo(), NO);
        due("new: back()", x.back(), NO);
    }

    // Promise 2

    private static void writing() {
        PokerEvening x = new PokerEvening();
        due("write(32)", x.write(32), 1);
        due("write(126)", x.write(126), 2);
        due("write(31)", x.write(31), BAD);
        due("write(127)", x.write(127), BAD);
        for (int wild : WILD) {
            due("write(" + wild + ")", x.write(wild), BAD);
        }
        due("count(10)", x.count(10), 2);
        for (int i = 3; i <= 200; i++) {
            due("write(97), as number " + i, x.write(97), i);
        }
        due("write(97), one too many", x.write(97), FULL);
        due("write(31), bad and full", x.write(31), BAD);
        due("count(10), full", x.count(10), 200);
        due("wipe(), full", x.wipe(), 200);
        due("write(97), wiped", x.write(97), 1);
    }

    // Promise 3

    private static void wiping() {
        PokerEvening x = new PokerEvening();
        rewrite(x, "t0,1;f0;");
        due("wipe()", x.wipe(), 8);
        due("wipe() again", x.wipe(), 0);
        due("fault() of nothing", x.fault(), NONE);
        due("lay() of nothing", x.lay(), NO);
        // What stood there before must not be read on with.
        rewrite(x, "t0,1;f0;");
        rewrite(x, "t0,");
        due("fault() of a part", x.fault(), 0);
    }

    // Promise 4

    private static void faults() {
        String[] fine = {"", "t0,1;", "t3,40;", "t03,09;", "t00,01;", "f0;", "f1;", "f01;", "f0;t0,1;",
            "t0,1;f0;c0,0,0,1;", "t0,1;f0;c0,0,1,20;", "t0,1;f0;c00,00,01,09;", "f1;t2,2;c0,0,0,2;t1,1;f0;c1,1,1,1;",
            "t0,1;t0,1;t0,1;t0,1;t0,1;f0;f0;f0;f0;f0;f0;c4,5,0,1;"};
        for (String text : fine) {
            faultOf(text, NONE);
        }
        String[] notSo = {"t", "t0", "t0,", "t0,1", "t;", "t0;", "t,1;", "t0,;", "t0,1,;", "t0,1,1;", "t0,0;", "t0,41;",
            "t4,1;", "t0,001;", "t000,1;", "t0,100;", "t-1,1;", "t0.1;", "t0,1:", "T0,1;", "t 0,1;", "t0 ,1;", " t0,1;",
            "f", "f;", "f0", "f2;", "f0,0;", "f10;", "f000;", "F0;", "c", "c;", ";", ",", "0", "c0,0,0,1;", "x0;", "~", "f/;",
            "f:;", "t0,/;", "t0,1:;"};
        for (String text : notSo) {
            faultOf(text, 0);
            faultOf("f1;" + text, 3);
        }
        String room = "t0,1;f0;";
        String[] claimsNotSo = {"c", "c0", "c0,0,0,1", "c0,0,0;", "c0,0,0,1,1;", "c1,0,0,1;", "c0,1,0,1;", "c0,0,2,1;",
            "c0,0,0,0;", "c0,0,0,21;", "c0;0,0,1;", "c0,0,0,1,", "c,0,0,1;", "C0,0,0,1;"};
        for (String text : claimsNotSo) {
            faultOf(room + text, 8);
            faultOf(room + "c0,0,0,1;" + text + "q", 17);
        }
        faultOf("t0,1;c0,0,0,1;f0;", 5);
        faultOf("f0;c0,0,0,1;t0,1;", 3);
        faultOf("t0,1;f0;c0,1,0,1;f0;", 8);
        faultOf("t0,1;t0,1;t0,1;t0,1;t0,1;t0,1;", 25);
        faultOf("f0;f0;f0;f0;f0;f0;f0;", 18);
        faultOf(room + "c0,0,0,1;".repeat(7), NONE);
        faultOf(room + "c0,0,0,1;".repeat(8), 71);
        faultOf("q;t9;", 0);
        faultOf("t0,1;q;t9;", 5);
        faultOf("t0,1; f0;", 5);
        faultOf("a".repeat(200), 0);
    }

    // Promise 5

    private static void laying() {
        PokerEvening x = new PokerEvening();
        x.seen(0, 7);
        x.turn(0);
        x.keep();
        String[] refused = {"", "t0,1;", "f0;", "t0,1;f0;q", "t0,1;f0;c0,0,0,0;"};
        for (String text : refused) {
            rewrite(x, text);
            due("lay() of '" + text + "'", x.lay(), NO);
        }
        due("refused: count(0)", x.count(0), 4);
        due("refused: count(7)", x.count(7), 1);
        due("refused: count(8)", x.count(8), 1);
        due("refused: count(9)", x.count(9), 1);
        due("refused: fact(0)", x.fact(0), 0);
        rewrite(x, "t2,5;t3,40;f0;f1;f1;c1,2,0,20;");
        due("lay()", x.lay(), 2);
        int[] counts = {2, 3, 1, 2, 1, 1, 0, 0, 0, 0, 30};
        for (int what = 0; what < counts.length; what++) {
            due("laid: count(" + what + ")", x.count(what), counts[what]);
        }
        due("laid: undo()", x.undo(), NO);
        due("laid: back()", x.back(), NO);
        due("laid: forget()", x.forget(), 0);
        due("laid: fault()", x.fault(), NONE);
        x.strike(0);
        x.turn(0);
        due("lay() again", x.lay(), 2);
        due("laid again: count(2)", x.count(2), 1);
        due("laid again: fact(0)", x.fact(0), 0);
        rewrite(x, "f1;t0,9;");
        due("lay() of the least", x.lay(), 1);
        due("the least: count(2)", x.count(2), 0);
        due("the least: count(3)", x.count(3), 1);
    }

    // Promises 6, 7, 8

    private static void lookingUp() {
        PokerEvening x = laid("t3,40;t1,1;f1;f0;c1,0,0,20;c0,1,0,1;", 2);
        due("teller(0, 0)", x.teller(0, 0), 3);
        due("teller(0, 1)", x.teller(0, 1), 40);
        due("teller(1, 0)", x.teller(1, 0), 1);
        due("teller(1, 1)", x.teller(1, 1), 1);
        due("teller(2, 0)", x.teller(2, 0), BAD);
        due("teller(0, 2)", x.teller(0, 2), BAD);
        due("fact(0)", x.fact(0), 1);
        due("fact(1)", x.fact(1), 0);
        due("fact(2)", x.fact(2), BAD);
        int[][] claims = {{1, 0, 0, 20, 1}, {0, 1, 0, 1, 0}};
        for (int c = 0; c < 2; c++) {
            for (int what = 0; what < 5; what++) {
                due("claim(" + c + ", " + what + ")", x.claim(c, what), claims[c][what]);
            }
        }
        due("claim(2, 0)", x.claim(2, 0), BAD);
        due("claim(0, 5)", x.claim(0, 5), BAD);
        for (int wild : WILD) {
            due("teller(wild, 0)", x.teller(wild, 0), BAD);
            due("teller(0, wild)", x.teller(0, wild), BAD);
            due("fact(wild)", x.fact(wild), BAD);
            due("claim(wild, 0)", x.claim(wild, 0), BAD);
            due("claim(0, wild)", x.claim(0, wild), BAD);
        }
    }

    // Promise 9

    private static void turning() {
        PokerEvening x = laid("t0,9;f1;f0;c0,0,1,5;c0,1,1,5;", 1);
        due("turn(0)", x.turn(0), 0);
        due("fact(0)", x.fact(0), 0);
        due("fact(1)", x.fact(1), 0);
        due("claim(0, 4)", x.claim(0, 4), 1);
        due("turn(1)", x.turn(1), 1);
        due("claim(1, 4)", x.claim(1, 4), 0);
        due("turn(0) back", x.turn(0), 1);
        due("turn(2)", x.turn(2), BAD);
        for (int wild : WILD) {
            due("turn(wild)", x.turn(wild), BAD);
        }
        due("count(3)", x.count(3), 2);
        due("count(8)", x.count(8), 3);
    }

    // Promise 10

    private static void adding() {
        PokerEvening x = laid("t0,9;t1,9;f1;f0;", 2);
        due("add(1, 1, 1, 20)", x.add(1, 1, 1, 20), 0);
        due("add(0, 0, 0, 1)", x.add(0, 0, 0, 1), 1);
        int[] told = {1, 1, 1, 20};
        for (int what = 0; what < 4; what++) {
            due("added: claim(0, " + what + ")", x.claim(0, what), told[what]);
        }
        due("added: claim(1, 3)", x.claim(1, 3), 1);
        int[][] bad = {{2, 0, 0, 1}, {0, 2, 0, 1}, {0, 0, 2, 1}, {0, 0, 0, 0}, {0, 0, 0, 21}};
        for (int[] b : bad) {
            due("add, bad", x.add(b[0], b[1], b[2], b[3]), BAD);
        }
        for (int wild : WILD) {
            due("add(wild, ..)", x.add(wild, 0, 0, 1), BAD);
            due("add(., wild, ..)", x.add(0, wild, 0, 1), BAD);
            due("add(.., wild, .)", x.add(0, 0, wild, 1), BAD);
            due("add(.., wild)", x.add(0, 0, 0, wild), BAD);
        }
        due("count(2)", x.count(2), 2);
        due("count(8)", x.count(8), 2);
        for (int c = 2; c < 7; c++) {
            due("add, as number " + c, x.add(0, 0, 1, 3), c);
        }
        due("add, full", x.add(0, 0, 1, 3), FULL);
        due("add, bad and full", x.add(0, 0, 1, 21), BAD);
        due("count(8), full", x.count(8), 7);
    }

    // Promise 11

    private static void striking() {
        PokerEvening x = new PokerEvening();
        due("strike(7)", x.strike(7), BAD);
        for (int wild : WILD) {
            due("strike(wild)", x.strike(wild), BAD);
        }
        due("strike(2)", x.strike(2), 6);
        int[] weights = {9, 8, 6, 5, 20, 4};
        for (int c = 0; c < weights.length; c++) {
            due("struck: claim(" + c + ", 3)", x.claim(c, 3), weights[c]);
        }
        due("struck: claim(2, 0)", x.claim(2, 0), 0);
        due("struck: claim(2, 1)", x.claim(2, 1), 3);
        due("struck: claim(2, 2)", x.claim(2, 2), 1);
        due("struck: claim(6, 3)", x.claim(6, 3), BAD);
        due("strike(5), the last", x.strike(5), 5);
        due("strike(0), the first", x.strike(0), 4);
        due("claim(0, 3)", x.claim(0, 3), 8);
        for (int left = 3; left >= 0; left--) {
            due("strike(0)", x.strike(0), left);
        }
        due("strike(0) of none", x.strike(0), BAD);
    }

    // Promise 12

    private static void shifting() {
        PokerEvening x = new PokerEvening();
        due("shift(1, 4)", x.shift(1, 4), 7);
        weightsAre(x, new int[] {9, 14, 6, 5, 8, 20, 4});
        due("claim(4, 1)", x.claim(4, 1), 1);
        due("claim(1, 0)", x.claim(1, 0), 1);
        due("claim(1, 2)", x.claim(1, 2), 0);
        due("shift(6, 0)", x.shift(6, 0), 16);
        weightsAre(x, new int[] {4, 9, 14, 6, 5, 8, 20});
        due("shift(0, 6)", x.shift(0, 6), 4);
        weightsAre(x, new int[] {9, 14, 6, 5, 8, 20, 4});
        due("shift(3, 2)", x.shift(3, 2), 11);
        weightsAre(x, new int[] {9, 14, 5, 6, 8, 20, 4});
        due("shift(3, 3)", x.shift(3, 3), NO);
        due("shift(7, 7)", x.shift(7, 7), BAD);
        due("shift(7, 0)", x.shift(7, 0), BAD);
        due("shift(0, 7)", x.shift(0, 7), BAD);
        for (int wild : WILD) {
            due("shift(wild, 0)", x.shift(wild, 0), BAD);
            due("shift(0, wild)", x.shift(0, wild), BAD);
            due("shift(wild, wild)", x.shift(wild, wild), BAD);
        }
        due("count(8)", x.count(8), 4);
        x.strike(0);
        due("shift(0, 6) of six", x.shift(0, 6), BAD);
        due("shift(6, 0) of six", x.shift(6, 0), BAD);
        due("shift(5, 0) of six", x.shift(5, 0), 15);
    }

    private static void weightsAre(PokerEvening x, int[] weights) {
        for (int c = 0; c < weights.length; c++) {
            due("claim(" + c + ", 3)", x.claim(c, 3), weights[c]);
        }
    }

    // Promise 13

    private static void gripping() {
        PokerEvening x = new PokerEvening();
        due("grip(0, 10)", x.grip(0, 10), NO);
        due("grip(0, 40)", x.grip(0, 40), 10);
        due("grip(0, 1)", x.grip(0, 1), 40);
        due("grip(3, 8)", x.grip(3, 8), 9);
        due("teller(0, 1)", x.teller(0, 1), 1);
        due("teller(3, 1)", x.teller(3, 1), 8);
        due("teller(1, 1)", x.teller(1, 1), 8);
        due("grip(0, 0)", x.grip(0, 0), BAD);
        due("grip(0, 41)", x.grip(0, 41), BAD);
        due("grip(4, 8)", x.grip(4, 8), BAD);
        for (int wild : WILD) {
            due("grip(wild, 1)", x.grip(wild, 1), BAD);
            due("grip(0, wild)", x.grip(0, wild), BAD);
        }
        due("count(8)", x.count(8), 3);
    }

    // Promise 14

    private static void undoing() {
        PokerEvening x = laid("t0,9;t1,9;f1;f0;c0,0,1,5;c0,0,1,5;c1,1,0,7;", 2);
        due("undo() of nothing", x.undo(), NO);
        x.turn(1);
        x.grip(1, 20);
        x.strike(2);
        x.add(1, 0, 0, 3);
        // The two claims are alike: nothing becomes another, and yet it can be undone.
        x.shift(0, 1);
        x.shift(2, 0);
        due("count(8)", x.count(8), 6);
        due("undo() the shift", x.undo(), 5);
        due("claim(2, 3)", x.claim(2, 3), 3);
        due("undo() the idle shift", x.undo(), 4);
        due("count(2)", x.count(2), 3);
        due("undo() the claim more", x.undo(), 3);
        due("count(2)", x.count(2), 2);
        due("undo() the strike", x.undo(), 2);
        due("claim(2, 3)", x.claim(2, 3), 7);
        due("claim(2, 0)", x.claim(2, 0), 1);
        due("undo() the gloves", x.undo(), 1);
        due("teller(1, 1)", x.teller(1, 1), 9);
        due("undo() the turn", x.undo(), 0);
        due("fact(1)", x.fact(1), 0);
        due("undo() no more", x.undo(), NO);
        for (int g = 10; g <= 19; g++) {
            x.grip(0, g);
        }
        due("count(8) of ten acts", x.count(8), 8);
        for (int left = 7; left >= 0; left--) {
            due("undo()", x.undo(), left);
            due("teller(0, 1)", x.teller(0, 1), 11 + left);
        }
        due("undo(), only eight", x.undo(), NO);
        due("teller(0, 1), only eight", x.teller(0, 1), 11);
        x.grip(0, 30);
        due("undo() anew", x.undo(), 0);
        due("teller(0, 1) anew", x.teller(0, 1), 11);
        // What is asked, seen, kept or written is no act.
        x.turn(0);
        x.seen(0, 0);
        x.keep();
        x.order(-1);
        x.worlds(0);
        x.holds(0, 0);
        x.evenings(1, 60, 0);
        x.forget();
        x.write(65);
        x.wipe();
        due("undo() of the turn alone", x.undo(), 0);
        due("fact(0)", x.fact(0), 1);
    }

    // The evening: promises 15 to 18

    private static void kindsOfTellers() {
        int[] falseHeat = {9, 4, 18, 10};
        int[] trueHeat = {1, 0, 1, 2};
        for (int kind = 0; kind < 4; kind++) {
            String teller = "t" + kind + ",40;f1;";
            PokerEvening x = laid(teller + "c0,0,0,9;", 1);
            due("false, of kind " + kind, x.hot(0), falseHeat[kind]);
            x = laid(teller + "c0,0,1,9;", 1);
            due("true, of kind " + kind, x.hot(0), trueHeat[kind]);
            x = laid(teller + "c0,0,0,1;", 1);
            due("false of 1, of kind " + kind, x.hot(0), new int[] {1, 0, 2, 2}[kind]);
        }
    }

    private static void ironChangesHands() {
        // 7; 7 + 6 = 13; 13 by 2 and 1 = 7; 7 by 2 and 8 = 11.
        PokerEvening x = laid("t0,40;t0,40;f1;c0,0,0,7;c0,0,0,6;c1,0,1,5;c0,0,0,8;", 2);
        due("hot(0)", x.hot(0), 7);
        due("hot(1)", x.hot(1), 13);
        due("hot(2)", x.hot(2), 7);
        due("hot(3)", x.hot(3), 11);
        // Claims that are not told do not take the iron out of a hand: 9 lets go, 4, then 4 and 3.
        x = laid("t0,8;t0,40;f1;c0,0,0,9;c1,0,0,4;c0,0,0,5;c1,0,0,3;", 2);
        due("hot(0)", x.hot(0), 9);
        due("hot(1)", x.hot(1), 4);
        due("hot(2)", x.hot(2), NONE);
        due("hot(3)", x.hot(3), 7);
        due("told()", x.told(), 11);
    }

    private static void lettingGo() {
        PokerEvening x = laid("t0,9;t0,10;t0,40;f1;c1,0,0,10;c0,0,0,5;c0,0,1,1;c1,0,0,10;c2,0,1,1;", 3);
        // 10 is held; 5 and 5 is 10, more than 9; told no more; 10 from cold; 5 and 1.
        due("drops(0)", x.drops(0), 1);
        due("drops(1)", x.drops(1), NONE);
        due("drops(2)", x.drops(2), NONE);
        due("drops(3)", x.drops(3), BAD);
        for (int wild : WILD) {
            due("drops(wild)", x.drops(wild), BAD);
        }
        due("told()", x.told(), 1 + 2 + 8 + 16);
        due("hot(3)", x.hot(3), 10);
        due("hot(4)", x.hot(4), 6);
        due("count(5)", x.count(5), 4);
        due("count(6)", x.count(6), 1);
        x.grip(1, 9);
        due("drops(1) at 0", x.drops(1), 0);
        due("told(), both let go", x.told(), 1 + 2 + 4 + 16);
    }

    private static void heats() {
        PokerEvening x = laid("t0,9;f1;c0,0,0,10;c0,0,0,20;", 1);
        due("hot(0)", x.hot(0), 10);
        due("hot(1)", x.hot(1), NONE);
        due("hot(2)", x.hot(2), BAD);
        for (int wild : WILD) {
            due("hot(wild)", x.hot(wild), BAD);
        }
        due("hottest()", x.hottest(), 10);
        x.grip(0, 10);
        due("hot(1), held", x.hot(1), 30);
        due("hottest(), held", x.hottest(), 30);
        x = laid("t2,40;f1;c0,0,0,20;c0,0,0,20;", 1);
        due("hot(1), the most there is", x.hot(1), 80);
        x = laid("t1,9;f1;", 1);
        due("told() without claims", x.told(), 0);
        due("hottest() without claims", x.hottest(), 0);
        due("hot(0) without claims", x.hot(0), BAD);
        due("drops(0) without claims", x.drops(0), NONE);
    }

    // Promise 19

    private static void orders() {
        // Told first, the heavy claim lets its teller go; told last, all are told.
        PokerEvening x = laid("t0,9;f1;c0,0,0,20;c0,0,1,1;c0,0,1,1;", 1);
        orderIs(x, 3, new int[] {1, 2, 0});
        // One of two heavy claims is never told: the lowest comes ahead.
        x = laid("t0,9;f1;c0,0,0,20;c0,0,1,1;c0,0,0,20;", 1);
        orderIs(x, 2, new int[] {1, 0, 2});
        // As many are told by any order: the first one.
        x = laid("t0,1;f1;c0,0,0,2;c0,0,0,2;c0,0,0,2;", 1);
        orderIs(x, 1, new int[] {0, 1, 2});
        // Who lets go at the last claim of its own has told all.
        x = laid("t0,10;t0,9;f1;c0,0,0,8;c0,0,0,4;c1,0,1,1;", 2);
        orderIs(x, 3, new int[] {0, 1, 2});
        // Right behind 0 teller 0 would let go at 1, and 2 would be lost.
        x = laid("t0,10;t0,40;f1;c0,0,0,8;c0,0,0,7;c0,0,1,1;c1,0,1,1;", 2);
        orderIs(x, 4, new int[] {0, 2, 1, 3});
        // The iron has to cool in another hand: 8; 5; 9; 17 lets go, but all are told.
        x = laid("t0,10;t0,40;f1;c0,0,0,8;c0,0,0,7;c0,0,0,8;c1,0,1,1;", 2);
        orderIs(x, 4, new int[] {0, 3, 1, 2});
        // Asked again, once things are otherwise.
        x.strike(3);
        orderIs(x, 2, new int[] {0, 1, 2});
        x.turn(0);
        orderIs(x, 3, new int[] {0, 1, 2});
        x = laid("t0,9;f1;", 1);
        due("order(-1) without claims", x.order(-1), 0);
        due("order(0) without claims", x.order(0), BAD);
        x = new PokerEvening();
        due("order(7)", x.order(7), BAD);
        due("order(-2)", x.order(-2), BAD);
        for (int wild : WILD) {
            if (wild != -1) {
                due("order(wild)", x.order(wild), BAD);
            }
        }
        due("told(), as before", x.told(), 63);
    }

    private static void orderIs(PokerEvening x, int many, int[] places) {
        due("order(-1)", x.order(-1), many);
        for (int k = 0; k < places.length; k++) {
            due("order(" + k + ")", x.order(k), places[k]);
        }
        due("order(" + places.length + ")", x.order(places.length), BAD);
    }

    // Promise 20

    private static void leaving() {
        PokerEvening x = laid("t0,9;t0,40;f1;c0,0,0,5;c0,0,0,5;c1,0,0,7;c0,0,0,9;", 2);
        // 10 lets go. Without claim 0: 5, 9, 13. Without 1: 5, 9, 13. Without 0 and 1: 7, 12. Without 3: 10.
        // Two have to go: 0 and 1 leave 7, 12; 0 and 2 leave 5, 14; 1 and 2 too; 0 and 3 leave 5, 9.
        due("leave(0, 0)", x.leave(0, 0), 2);
        due("leave(0, 1)", x.leave(0, 1), 9);
        due("leave(1, 0)", x.leave(1, 0), 0);
        due("leave(1, 1)", x.leave(1, 1), 0);
        // Fewest come ahead of lowest: claim 2 alone, rather than 0 and 1.
        x = laid("t0,9;f1;c0,0,0,1;c0,0,0,1;c0,0,0,9;", 1);
        due("leave(0, 0), one", x.leave(0, 0), 1);
        due("leave(0, 1), one", x.leave(0, 1), 4);
        // Any one will do: the lowest.
        x = laid("t0,9;f1;c0,0,0,5;c0,0,0,5;", 1);
        due("leave(0, 1), lowest", x.leave(0, 1), 1);
        // All have to go.
        x = laid("t0,1;f1;c0,0,0,5;c0,0,0,5;", 1);
        due("leave(0, 0), all", x.leave(0, 0), 2);
        due("leave(0, 1), all", x.leave(0, 1), 3);
        x = laid("t0,1;f1;", 1);
        due("leave(0, 0) without claims", x.leave(0, 0), 0);
        due("leave(0, 1) without claims", x.leave(0, 1), 0);
        due("leave(1, 0)", x.leave(1, 0), BAD);
        due("leave(0, 2)", x.leave(0, 2), BAD);
        for (int wild : WILD) {
            due("leave(wild, 0)", x.leave(wild, 0), BAD);
            due("leave(0, wild)", x.leave(0, wild), BAD);
        }
    }

    // Promise 21

    private static void holding() {
        // Teller 1 would hold 20 cold; teller 2 as well, but is the higher one.
        PokerEvening x = laid("t0,9;t1,12;t1,12;f1;c0,0,0,20;", 3);
        due("holds(0, 0)", x.holds(0, 0), 1);
        due("holds(0, 1)", x.holds(0, 1), 0);
        // Whoever holds for 1, who has no claims, teller 0 lets go: the lowest.
        due("holds(1, 0)", x.holds(1, 0), 0);
        due("holds(1, 1)", x.holds(1, 1), 1);
        // Its own claims are told in their places as well: 9, then 4 and 9 by teller 1 let it go at the last.
        x = laid("t0,8;t0,17;f1;c0,0,0,9;c1,0,0,9;", 2);
        due("holds(0, 0), own claims", x.holds(0, 0), 0);
        due("holds(0, 1), own claims", x.holds(0, 1), 1);
        x.grip(1, 18);
        due("holds(0, 0), a better grip", x.holds(0, 0), 1);
        due("holds(0, 1), a better grip", x.holds(0, 1), 0);
        // Best is the one itself.
        x = laid("t2,9;t0,20;f1;c1,0,0,9;", 2);
        due("holds(1, 0), itself", x.holds(1, 0), 1);
        due("holds(1, 1), itself", x.holds(1, 1), 0);
        due("claim(0, 0), as before", x.claim(0, 0), 1);
        // All five let go; one who holds for another lets that one go free.
        x = laid("t0,1;t0,1;t0,1;t0,1;t0,1;f1;c0,0,0,9;c1,0,0,9;c2,0,0,9;c3,0,0,9;c4,0,0,9;", 5);
        due("holds(0, 0) of five", x.holds(0, 0), 1);
        due("holds(0, 1) of five", x.holds(0, 1), 4);
        due("holds(4, 0) of five", x.holds(4, 0), 0);
        x = laid("t0,9;t0,9;f1;", 2);
        due("holds(2, 0)", x.holds(2, 0), BAD);
        due("holds(0, 2)", x.holds(0, 2), BAD);
        for (int wild : WILD) {
            due("holds(wild, 0)", x.holds(wild, 0), BAD);
            due("holds(0, wild)", x.holds(0, wild), BAD);
        }
    }

    // Promises 22, 23

    private static void seeing() {
        PokerEvening x = laid("t0,9;t0,9;f1;c0,0,1,1;", 2);
        due("seen(2, 0)", x.seen(2, 0), BAD);
        due("seen(0, 8)", x.seen(0, 8), BAD);
        for (int wild : WILD) {
            due("seen(wild, 0)", x.seen(wild, 0), BAD);
            due("seen(0, wild)", x.seen(0, wild), BAD);
        }
        due("seen(0, 7)", x.seen(0, 7), 1);
        due("seen(0, 7) again", x.seen(0, 7), 2);
        due("seen(0, 6), beyond the claims", x.seen(0, 6), 3);
        due("worlds(0), beyond the claims", x.worlds(0), 0);
        due("seen(1, 0)", x.seen(1, 0), 4);
        due("seen(1, 1)", x.seen(1, 1), 5);
        due("seen(1, 7)", x.seen(1, 7), 6);
        due("seen(1, 2), full", x.seen(1, 2), FULL);
        due("seen(2, 2), bad and full", x.seen(2, 2), BAD);
        due("count(7)", x.count(7), 6);
        due("forget()", x.forget(), 6);
        due("forget() again", x.forget(), 0);
        due("count(7), forgotten", x.count(7), 0);
        due("worlds(0), forgotten", x.worlds(0), 2);
        due("seen(1, 2), anew", x.seen(1, 2), 1);
    }

    // Promise 24

    private static void worldsSeen() {
        // Teller 0 lets go by a false claim alone: 0 that fact 0 is so, 1 that fact 1 is not.
        PokerEvening x = laid("t0,9;t1,9;f1;f0;f0;c0,0,1,10;c0,1,0,10;", 2);
        worldsAre(x, 8, 0, 0, 0);
        x.seen(0, 1);
        worldsAre(x, 2, 3, 3, 0);
        x.seen(1, 7);
        worldsAre(x, 2, 3, 3, 0);
        x.forget();
        x.seen(0, 0);
        worldsAre(x, 4, 0, 0, 1);
        x.forget();
        x.seen(0, 7);
        worldsAre(x, 2, 1, 1, 2);
        x.seen(0, 0);
        worldsAre(x, 0, NONE, NONE, NONE);
        due("worlds(4)", x.worlds(4), BAD);
        for (int wild : WILD) {
            due("worlds(wild)", x.worlds(wild), BAD);
        }
        // What is seen stays by its number while claims are put in other places.
        x.forget();
        x.seen(0, 0);
        x.shift(0, 1);
        worldsAre(x, 4, 2, 2, 0);
        x.undo();
        worldsAre(x, 4, 0, 0, 1);
        due("fact(0), as before", x.fact(0), 1);
        // Six facts: all 64 worlds, the highest among them.
        x = laid("t0,9;f0;f0;f0;f0;f0;f0;c0,5,0,20;c0,4,0,20;c0,3,0,20;c0,2,0,20;c0,1,0,20;c0,0,0,20;", 1);
        worldsAre(x, 64, 0, 0, 0);
        x.seen(0, 0);
        worldsAre(x, 32, 32, 32, 0);
        x.forget();
        x.seen(0, 7);
        worldsAre(x, 1, 0, 0, 63);
        x = laid("t0,9;f0;f0;f0;f0;f0;f0;c0,5,1,20;c0,4,1,20;c0,3,1,20;c0,2,1,20;c0,1,1,20;c0,0,1,20;", 1);
        x.seen(0, 7);
        worldsAre(x, 1, 63, 63, 0);
    }

    private static void worldsAre(PokerEvening x, int many, int lowest, int so, int inNone) {
        due("worlds(0)", x.worlds(0), many);
        due("worlds(1)", x.worlds(1), lowest);
        due("worlds(2)", x.worlds(2), so);
        due("worlds(3)", x.worlds(3), inNone);
    }

    // Promise 25

    private static void nextClaims() {
        // Teller 0 lets go at claim 0 unless fact 0 is so; a claim of fact 0 tells nothing more of it.
        PokerEvening x = laid("t0,9;t0,9;f1;f0;f0;c0,0,1,10;", 2);
        due("next(0, 20)", x.next(0, 20), 1);
        due("next(1, 20)", x.next(1, 20), 0);
        due("next(0, 1), too light", x.next(0, 1), 0);
        x.seen(0, 7);
        due("next(1, 20), fact 0 is sure", x.next(1, 20), 1);
        x.seen(1, 7);
        due("next(1, 20), not let go as yet", x.next(1, 20), 1);
        // By a claim of the number that is seen the worlds stay those that are.
        x.seen(1, 1);
        due("next(1, 20), no worlds", x.next(1, 20), NONE);
        x.forget();
        due("next(2, 20)", x.next(2, 20), BAD);
        due("next(0, 0)", x.next(0, 0), BAD);
        due("next(0, 21)", x.next(0, 21), BAD);
        for (int wild : WILD) {
            due("next(wild, 1)", x.next(wild, 1), BAD);
            due("next(0, wild)", x.next(0, wild), BAD);
        }
        due("count(2), as before", x.count(2), 1);
        for (int c = 1; c < 6; c++) {
            x.add(0, 0, 1, 1);
        }
        due("next(1, 20) of six claims", x.next(1, 20), 0);
        x.add(0, 0, 1, 1);
        due("next(1, 20) of seven claims", x.next(1, 20), NONE);
        due("next(2, 20), bad", x.next(2, 20), BAD);
        // The more of both parts counts, not the less: by fact 0 it lets go in 3 of 4, by fact 1 in 2.
        x = laid("t0,9;f0;f0;c0,1,1,9;", 1);
        due("next(0, 9)", x.next(0, 9), 1);
        // An old one is by 2 hotter, so or not: it lets go in all 64 worlds, by whichever fact.
        x = laid("t3,3;f0;f0;f0;f0;f0;f0;c0,0,0,1;", 1);
        due("next(0, 1), in all worlds", x.next(0, 1), 0);
    }

    // Promise 26

    private static void kindsSeen() {
        PokerEvening x = laid("t0,9;t0,40;f1;c0,0,0,9;c1,0,1,1;", 2);
        due("kinds(0), nothing seen", x.kinds(0), 15);
        x.seen(0, 0);
        // 9; 4; 18; 10, with a grip of 9.
        due("kinds(0), let go", x.kinds(0), 12);
        due("kinds(1), of no matter", x.kinds(1), 0);
        x.forget();
        x.seen(0, 7);
        due("kinds(0), held", x.kinds(0), 3);
        due("kinds(1), of no matter", x.kinds(1), 15);
        x.seen(0, 0);
        due("kinds(0), never", x.kinds(0), 0);
        due("teller(0, 0), as before", x.teller(0, 0), 0);
        due("kinds(2)", x.kinds(2), BAD);
        for (int wild : WILD) {
            due("kinds(wild)", x.kinds(wild), BAD);
        }
    }

    // Promise 27

    private static void gripsSeen() {
        PokerEvening x = laid("t0,9;t0,40;f1;c0,0,0,9;c0,0,0,3;c1,0,1,1;", 2);
        due("grips(0, 0), nothing seen", x.grips(0, 0), 40);
        due("grips(0, 1), nothing seen", x.grips(0, 1), 1);
        x.seen(0, 1);
        due("grips(0, 0), 9 to 11", x.grips(0, 0), 3);
        due("grips(0, 1), 9 to 11", x.grips(0, 1), 9);
        due("grips(1, 0), of no matter", x.grips(1, 0), 40);
        x.forget();
        x.seen(0, 7);
        due("grips(0, 0), 12 to 40", x.grips(0, 0), 29);
        due("grips(0, 1), 12 to 40", x.grips(0, 1), 12);
        x.seen(1, 0);
        due("grips(0, 0), never", x.grips(0, 0), 0);
        due("grips(0, 1), never", x.grips(0, 1), NONE);
        due("teller(0, 1), as before", x.teller(0, 1), 9);
        due("grips(2, 0)", x.grips(2, 0), BAD);
        due("grips(0, 2)", x.grips(0, 2), BAD);
        for (int wild : WILD) {
            due("grips(wild, 0)", x.grips(wild, 0), BAD);
            due("grips(0, wild)", x.grips(0, wild), BAD);
        }
        x = laid("t2,9;f1;c0,0,0,20;", 1);
        x.seen(0, 0);
        due("grips(0, 0), 1 to 39", x.grips(0, 0), 39);
        x.forget();
        x.seen(0, 7);
        due("grips(0, 0), 40 alone", x.grips(0, 0), 1);
        due("grips(0, 1), 40 alone", x.grips(0, 1), 40);
    }

    // Promise 28

    private static void chances() {
        // Lets go unless fact 0 is so.
        PokerEvening x = laid("t0,9;t0,9;f1;f0;c0,0,1,10;", 2);
        likelyIs(x, 0, 0, 1, 1);
        likelyIs(x, 0, 3, 7, 10);
        likelyIs(x, 0, 4, 3, 5);
        likelyIs(x, 0, 5, 1, 2);
        likelyIs(x, 0, 10, 0, 1);
        likelyIs(x, 1, 3, 0, 1);
        // Lets go unless both are so: 1 less 9 of 100.
        x.add(0, 1, 1, 10);
        likelyIs(x, 0, 3, 91, 100);
        // What was seen does not matter.
        x.seen(0, 7);
        likelyIs(x, 0, 3, 91, 100);
        due("fact(0), as before", x.fact(0), 1);
        due("fact(1), as before", x.fact(1), 0);
        x = laid("t0,9;f0;f0;f0;f0;f0;f0;c0,0,1,20;c0,1,1,20;c0,2,1,20;c0,3,1,20;c0,4,1,20;c0,5,1,20;", 1);
        likelyIs(x, 0, 1, 999999, 1000000);
        likelyIs(x, 0, 10, 0, 1);
        likelyIs(x, 0, 0, 1, 1);
        due("likely(1, 0, 0)", x.likely(1, 0, 0), BAD);
        due("likely(0, 11, 0)", x.likely(0, 11, 0), BAD);
        due("likely(0, 0, 2)", x.likely(0, 0, 2), BAD);
        for (int wild : WILD) {
            due("likely(wild, 0, 0)", x.likely(wild, 0, 0), BAD);
            due("likely(0, wild, 0)", x.likely(0, wild, 0), BAD);
            due("likely(0, 0, wild)", x.likely(0, 0, wild), BAD);
        }
    }

    private static void likelyIs(PokerEvening x, int t, int ten, int above, int below) {
        due("likely(" + t + ", " + ten + ", 0)", x.likely(t, ten, 0), above);
        due("likely(" + t + ", " + ten + ", 1)", x.likely(t, ten, 1), below);
    }

    // Promise 29

    private static void evenings() {
        // By z = 0, x is 1, 6152, 12303: their squares modulo 65521 are 1, 41487, 10299, the draws 0, 20743, 5149.
        PokerEvening x = laid("t0,9;t0,5;f1;c0,0,0,4;c1,0,1,6;c0,0,0,7;", 2);
        // Draw 0: the fact is turned, the first claim put last. Teller 1 lets go at 6; then 1, 2.
        due("evenings(0, 1, 0)", x.evenings(0, 1, 0), 1);
        due("evenings(0, 1, 1)", x.evenings(0, 1, 1), 3);
        due("evenings(0, 1, 2)", x.evenings(0, 1, 2), 6);
        // Draw 20743 by 8 is 2592, even: turned back; by 16 it is 1296, 0 modulo 4: the first is put last again.
        // Teller 0 has 7, and lets go at 11; then 1.
        due("evenings(0, 2, 0)", x.evenings(0, 2, 0), 2);
        due("evenings(0, 2, 1)", x.evenings(0, 2, 1), 6);
        due("evenings(0, 2, 2)", x.evenings(0, 2, 2), 11);
        // Draw 5149 by 8 is 643, odd; by 16 it is 321, 1 modulo 4: that evening again.
        due("evenings(0, 3, 0)", x.evenings(0, 3, 0), 3);
        due("evenings(0, 3, 1)", x.evenings(0, 3, 1), 9);
        due("evenings(0, 3, 2)", x.evenings(0, 3, 2), 11);
        due("fact(0), as before", x.fact(0), 1);
        due("claim(0, 3), as before", x.claim(0, 3), 4);
        due("count(8), as before", x.count(8), 0);
        due("evenings(10000, 1, 0)", x.evenings(10000, 1, 0), BAD);
        due("evenings(0, 0, 0)", x.evenings(0, 0, 0), BAD);
        due("evenings(0, 61, 0)", x.evenings(0, 61, 0), BAD);
        due("evenings(0, 1, 3)", x.evenings(0, 1, 3), BAD);
        due("evenings(9999, 60, 1), all is told", laid("t0,40;f1;c0,0,1,1;", 1).evenings(9999, 60, 1), 60);
        for (int wild : WILD) {
            if (wild != 1000) {
                due("evenings(wild, 1, 0)", x.evenings(wild, 1, 0), BAD);
            }
            due("evenings(0, wild, 0)", x.evenings(0, wild, 0), BAD);
            due("evenings(0, 1, wild)", x.evenings(0, 1, wild), BAD);
        }
        x = laid("t0,9;f1;f1;f1;f1;f1;f1;", 1);
        for (int what = 0; what < 3; what++) {
            due("evenings without claims", x.evenings(9999, 60, what), 0);
        }
    }

    // Promises 30, 31

    private static void keeping() {
        PokerEvening x = new PokerEvening();
        due("back() of nothing", x.back(), NO);
        due("keep()", x.keep(), 1);
        x.turn(0);
        x.grip(0, 33);
        x.strike(6);
        due("keep() again", x.keep(), 2);
        due("keep(), full", x.keep(), FULL);
        due("count(9)", x.count(9), 2);
        due("count(8), kept", x.count(8), 3);
        x.add(0, 0, 0, 1);
        x.turn(1);
        x.seen(0, 3);
        x.write(65);
        due("back()", x.back(), 1);
        due("back: fact(0)", x.fact(0), 0);
        due("back: fact(1)", x.fact(1), 0);
        due("back: teller(0, 1)", x.teller(0, 1), 33);
        due("back: count(2)", x.count(2), 6);
        due("back: count(8)", x.count(8), 0);
        due("back: undo()", x.undo(), NO);
        due("back: count(7), seen stays", x.count(7), 1);
        due("back: count(10), the text stays", x.count(10), 1);
        x.shift(0, 5);
        due("keep() anew", x.keep(), 2);
        due("back() anew", x.back(), 1);
        due("back anew: claim(5, 3)", x.claim(5, 3), 9);
        due("back() to the first", x.back(), 0);
        due("the first: fact(0)", x.fact(0), 1);
        due("the first: teller(0, 1)", x.teller(0, 1), 10);
        due("the first: count(2)", x.count(2), 7);
        due("the first: claim(0, 3)", x.claim(0, 3), 9);
        x.turn(0);
        due("back() no more", x.back(), NO);
        due("refused: count(8)", x.count(8), 1);
    }

    // Promise 32

    private static void counting() {
        PokerEvening x = laid("t0,9;t0,9;t0,9;f1;f1;f0;f0;f1;c0,0,0,10;c0,0,0,1;c1,2,1,20;c2,2,0,1;", 3);
        x.seen(0, 0);
        x.seen(1, 0);
        x.turn(3);
        x.turn(3);
        x.turn(3);
        x.keep();
        int[] counts = {3, 5, 4, 4, 3, 3, 2, 2, 3, 1, 68};
        for (int what = 0; what < counts.length; what++) {
            due("count(" + what + ")", x.count(what), counts[what]);
        }
        due("count(11)", x.count(11), BAD);
        for (int wild : WILD) {
            due("count(wild)", x.count(wild), BAD);
        }
    }

    /** Of several the first in this order; nothing changes then. */
    private static void refusalsChangeNothing() {
        PokerEvening x = new PokerEvening();
        x.seen(0, 7);
        x.turn(0);
        x.keep();
        int[] before = countsOf(x);
        x.write(0);
        x.lay();
        x.turn(9);
        x.add(0, 0, 0, 1);
        x.add(9, 0, 0, 1);
        x.strike(9);
        x.shift(2, 2);
        x.shift(9, 2);
        x.grip(0, 10);
        x.grip(0, 99);
        x.seen(9, 9);
        x.worlds(9);
        x.next(0, 1);
        int[] after = countsOf(x);
        for (int what = 0; what < before.length; what++) {
            due("behind refusals: count(" + what + ")", after[what], before[what]);
        }
        due("behind refusals: undo()", x.undo(), 0);
        due("behind refusals: fact(0)", x.fact(0), 1);
    }

    /** No answer has anything of the question that was asked ahead of it. */
    private static void askedInAnyOrder() {
        PokerEvening x = new PokerEvening();
        x.seen(1, 2);
        for (int ahead = 0; ahead < 9; ahead++) {
            askAhead(x, ahead);
            due("drops(1) behind question " + ahead, x.drops(1), 2);
            askAhead(x, ahead);
            due("told() behind question " + ahead, x.told(), 63);
            askAhead(x, ahead);
            due("hot(4) behind question " + ahead, x.hot(4), 13);
            askAhead(x, ahead);
            due("hottest() behind question " + ahead, x.hottest(), 13);
            askAhead(x, ahead);
            due("count(5) behind question " + ahead, x.count(5), 6);
            askAhead(x, ahead);
            due("count(6) behind question " + ahead, x.count(6), 2);
            askAhead(x, ahead);
            due("order(4) behind question " + ahead, x.order(4), 5);
            askAhead(x, ahead);
            due("leave(1, 1) behind question " + ahead, x.leave(1, 1), 2);
            askAhead(x, ahead);
            due("holds(1, 1) behind question " + ahead, x.holds(1, 1), 1);
            askAhead(x, ahead);
            due("worlds(1) behind question " + ahead, x.worlds(1), 5);
            askAhead(x, ahead);
            due("kinds(0) behind question " + ahead, x.kinds(0), 3);
            askAhead(x, ahead);
            due("grips(1, 0) behind question " + ahead, x.grips(1, 0), 10);
            askAhead(x, ahead);
            due("likely(1, 5, 1) behind question " + ahead, x.likely(1, 5, 1), 4);
            PokerEvening other = new PokerEvening();
            for (int what = 0; what < 3; what++) {
                askAhead(x, ahead);
                due("evenings(77, 3, " + what + ") behind question " + ahead, x.evenings(77, 3, what),
                        other.evenings(77, 3, what));
            }
        }
    }

    private static void askAhead(PokerEvening x, int which) {
        switch (which) {
            case 0: x.fault(); break;
            case 1: x.order(0); break;
            case 2: x.leave(2, 1); break;
            case 3: x.holds(0, 0); break;
            case 4: x.worlds(0); break;
            case 5: x.next(0, 1); break;
            case 6: x.kinds(2); break;
            case 7: x.grips(2, 0); break;
            default: x.evenings(3, 60, 0); break;
        }
    }

    private static int[] countsOf(PokerEvening x) {
        int[] counts = new int[11];
        for (int what = 0; what < counts.length; what++) {
            counts[what] = x.count(what);
        }
        return counts;
    }
}

import java.math.BigInteger;

/**
 * Each sentence of the document that names a boundary case, in the document's own words, with a test of
 * its own: the least, the most, one less and one more, the empty, the full. PokerEveningRefusals goes
 * through the numbers that are BAD, and through what a refused call must leave alone.
 */
public final class PokerEveningBounds {
    private static final int BAD = -1, NO = -2, FULL = -3, NONE = -4;
    private static final String LEAST = "t0,1;f0;";
    private static final String LONGEST = "t00,01;t01,02;t02,03;t03,04;t00,05;" + "f00;f01;f00;f01;f00;f01;"
            + "c00,00,00,01;c01,01,01,02;c02,02,00,03;c03,03,01,04;c04,04,00,05;c00,05,01,06;c01,00,00,07;";
    private static String sentence = "";
    private static int answersOfSentence = 1;
    private static int sentences = 0;
    private static int asked = 0;
    private static int wrong = 0;

    /** What is asked from here on is due by these words of the document. */
    private static void says(String where, String words) {
        mustHaveAsked();
        sentence = where + ": " + words;
        sentences++;
        answersOfSentence = 0;
    }

    private static void mustHaveAsked() {
        if (answersOfSentence == 0) {
            wrong++;
            System.out.println("[" + sentence + "] has no test");
        }
    }

    private static void due(String call, int got, int want) {
        asked++;
        answersOfSentence++;
        if (got != want) {
            wrong++;
            System.out.println("[" + sentence + "] " + call + " answered " + got + ", due is " + want);
        }
    }

    private static void rewrite(PokerEvening x, String text) {
        x.wipe();
        for (int i = 0; i < text.length(); i++) {
            x.write(text.charAt(i));
        }
    }

    private static PokerEvening written(String text) {
        PokerEvening x = new PokerEvening();
        rewrite(x, text);
        return x;
    }

    private static PokerEvening laid(String text) {
        PokerEvening x = written(text);
        due("lay() of " + text + " is refused", x.lay() < 0 ? 1 : 0, 0);
        return x;
    }

    private static void faultOf(String text, int place) {
        due("fault() of '" + text + "'", written(text).fault(), place);
    }

    private static void itemIsSo(String ahead, String item, boolean so) {
        faultOf(ahead + item, so ? NONE : ahead.length());
    }

    private static void factsAre(PokerEvening x, int... facts) {
        due("count(1)", x.count(1), facts.length);
        for (int f = 0; f < facts.length; f++) {
            due("fact(" + f + ")", x.fact(f), facts[f]);
        }
    }

    private static void gripsAre(PokerEvening x, int... grips) {
        due("count(0)", x.count(0), grips.length);
        for (int t = 0; t < grips.length; t++) {
            due("teller(" + t + ", 1)", x.teller(t, 1), grips[t]);
        }
    }

    private static void weightsAre(PokerEvening x, int... weights) {
        due("count(2)", x.count(2), weights.length);
        for (int c = 0; c < weights.length; c++) {
            due("claim(" + c + ", 3)", x.claim(c, 3), weights[c]);
        }
    }

    private static void claimIs(PokerEvening x, int c, int... parts) {
        for (int what = 0; what < parts.length; what++) {
            due("claim(" + c + ", " + what + ")", x.claim(c, what), parts[what]);
        }
    }

    private static void countsAre(PokerEvening x, int... counts) {
        for (int what = 0; what < counts.length; what++) {
            due("count(" + what + ")", x.count(what), counts[what]);
        }
    }

    private static void hotsAre(PokerEvening x, int... hots) {
        for (int c = 0; c < hots.length; c++) {
            due("hot(" + c + ")", x.hot(c), hots[c]);
        }
    }

    private static void orderIs(PokerEvening x, int many, int... claims) {
        due("order(-1)", x.order(-1), many);
        for (int k = 0; k < claims.length; k++) {
            due("order(" + k + ")", x.order(k), claims[k]);
        }
        due("order(" + claims.length + "), one too many", x.order(claims.length), BAD);
    }

    private static void pairIs(String call, int first, int second, int wantFirst, int wantSecond) {
        due(call + ", 0", first, wantFirst);
        due(call + ", 1", second, wantSecond);
    }

    private static void leaveIs(PokerEvening x, int t, int many, int which) {
        pairIs("leave " + t, x.leave(t, 0), x.leave(t, 1), many, which);
    }

    private static void holdsIs(PokerEvening x, int t, int which, int many) {
        pairIs("holds " + t, x.holds(t, 0), x.holds(t, 1), which, many);
    }

    private static void gripsSeenAre(PokerEvening x, int t, int many, int least) {
        pairIs("grips " + t, x.grips(t, 0), x.grips(t, 1), many, least);
    }

    private static void likelyIs(PokerEvening x, int t, int ten, int above, int below) {
        pairIs("likely " + t + ", " + ten, x.likely(t, ten, 0), x.likely(t, ten, 1), above, below);
    }

    private static void worldsAre(PokerEvening x, int many, int lowest, int so, int inNone) {
        due("worlds(0)", x.worlds(0), many);
        due("worlds(1)", x.worlds(1), lowest);
        due("worlds(2)", x.worlds(2), so);
        due("worlds(3)", x.worlds(3), inNone);
    }

    private static void eveningsAre(PokerEvening x, int z, int n, int gone, int told, int most) {
        due("evenings(" + z + ", " + n + ", 0)", x.evenings(z, n, 0), gone);
        due("evenings(" + z + ", " + n + ", 1)", x.evenings(z, n, 1), told);
        due("evenings(" + z + ", " + n + ", 2)", x.evenings(z, n, 2), most);
    }

    public static void main(String[] args) {
        textsOfLetters();
        numbersOfItems();
        itemsOfTellers();
        itemsOfFacts();
        itemsOfClaims();
        lastCalls();
        faultsAndLaid();
        heatOfTheIron();
        heatByKind();
        lettingGo();
        actsOnFactsAndGrips();
        actsOnClaims();
        undone();
        whatAnEveningTells();
        orders();
        leaves();
        holds();
        seenAtMost();
        worldsThatFit();
        nextClaims();
        kindsAndGrips();
        likely();
        eveningsByDraws();
        kept();
        severalAnswersDue();
        promisesOfRooms();
        promisesOfActs();
        promisesOfTheEvening();
        promisesOfWhatIsBest();
        promisesOfWhatWasSeen();
        promisesOfChances();
        promisesOfKept();
        mustHaveAsked();
        System.out.println(sentences + " sentences, " + (asked - wrong) + " answers of " + asked + " are as due");
        if (wrong != 0) {
            System.exit(1);
        }
    }

    // "What it is"

    private static void textsOfLetters() {
        says("What it is", "A TEXT is letters (200 at most)");
        PokerEvening x = written("a".repeat(198));
        due("write, as number 199", x.write('a'), 199);
        due("write, as number 200", x.write('a'), 200);
        due("write, as number 201", x.write('a'), FULL);
        due("count(10)", x.count(10), 200);
        due("wipe()", x.wipe(), 200);
        due("write, as number 1", x.write('a'), 1);
        // All that there may be, with two figures each, has 150 letters: what is behind that is a fault.
        x = written(LONGEST);
        due("count(10) of the longest", x.count(10), 150);
        due("fault() of the longest", x.fault(), NONE);
        due("lay() of the longest", x.lay(), 5);
        countsAre(x, 5, 6, 7, 3);
        rewrite(x, LONGEST + " ".repeat(50));
        due("count(10), filled up", x.count(10), 200);
        due("fault(), filled up", x.fault(), 150);

        says("What it is", "ITEMS one behind the other, each a letter");
        for (int letter = 32; letter <= 126; letter++) {
            char first = (char) letter;
            itemIsSo("", first + "0,1;", first == 't');
            itemIsSo("", first + "0;", first == 'f');
            itemIsSo(LEAST, first + "0,0,0,1;", first == 'c');
            itemIsSo("", first + "", false);
        }
        faultOf("", NONE);
        faultOf("t0,1;f0;", NONE);
        faultOf("f0;t0,1;", NONE);
        faultOf("t0,1; f0;", 5);
        faultOf("t0,1;;f0;", 5);
        faultOf(" t0,1;f0;", 0);
        faultOf("t0,1;f0; ", 8);
        faultOf("tt0,1;", 0);
        faultOf("0,1;", 0);
    }

    private static void numbersOfItems() {
        says("What it is", "then numbers (one or two figures)");
        String[] heads = {"t", "t0,", "f", "c", "c0,", "c0,0,", "c0,0,0,"};
        String[] tails = {",1;", ";", ";", ",0,0,1;", ",0,1;", ",1;", ";"};
        for (int i = 0; i < heads.length; i++) {
            itemIsSo(LEAST, heads[i] + "1" + tails[i], i == 0 || i == 1 || i == 2 || i == 5 || i == 6);
            itemIsSo(LEAST, heads[i] + "01" + tails[i], i == 0 || i == 1 || i == 2 || i == 5 || i == 6);
            itemIsSo(LEAST, heads[i] + "00" + tails[i], i != 1 && i != 6);
            for (String none : new String[] {"", "001", "000", "-1", "+1", " 1", "1 ", "a", "1a", "/", ":", "0/", "0:"}) {
                itemIsSo(LEAST, heads[i] + none + tails[i], false);
            }
        }

        says("What it is", "parted by , and a ; behind the last one");
        itemIsSo(LEAST, "t0,1;", true);
        itemIsSo(LEAST, "f0;", true);
        itemIsSo(LEAST, "c0,0,0,1;", true);
        String[] otherwise = {"t0;1;", "t0.1;", "t0 1;", "t01;", "t0,,1;", "t,0,1;", "t0,1", "t0,1,", "t0,1:", "t0,1 ;", "t0,1,;",
            "t0,1,1;", "t0;", "t;", "f0", "f0,", "f0:", "f0,0;", "f;", "f,0;", "c0,0,0,1", "c0,0,0,1,", "c0,0,0,1:", "c0,0,0;",
            "c0,0;", "c0;", "c;", "c0,0,0,1,1;", "c0;0,0,1;", "c0,0;0,1;", "c0,0,0;1;", "c0 0,0,1;", "c0,0 0,1;", "c0,0,0 1;",
            "c,0,0,0,1;", "c0,0,0,,1;"};
        for (String item : otherwise) {
            itemIsSo(LEAST, item, false);
            itemIsSo(LEAST, item + "f0;", false);
        }
    }

    private static void itemsOfTellers() {
        says("What it is", "tK,G a TELLER of KIND K (0 PLAIN, 1 COLD, 2 CHILD, 3 OLD)");
        for (int kind = 0; kind <= 99; kind++) {
            itemIsSo("", "t" + kind + ",1;", kind <= 3);
        }
        PokerEvening x = laid("t0,5;t1,5;t2,5;t3,5;f0;");
        for (int kind = 0; kind <= 3; kind++) {
            due("teller(" + kind + ", 0)", x.teller(kind, 0), kind);
        }

        says("What it is", "with a GRIP of G (1 to 40)");
        for (int grip = 0; grip <= 99; grip++) {
            itemIsSo("", "t0," + grip + ";", grip >= 1 && grip <= 40);
        }
        gripsAre(laid("t0,1;t0,40;f0;"), 1, 40);

        says("What it is", "5 at most, 0, 1, ..");
        String four = "t0,1;t0,2;t0,3;t0,4;";
        gripsAre(laid("t0,9;f0;"), 9);
        gripsAre(laid(four + "f0;"), 1, 2, 3, 4);
        gripsAre(laid(four + "f0;t0,5;"), 1, 2, 3, 4, 5);
        faultOf(four + "t0,5;t0,6;", 25);
        faultOf(four + "f0;t0,5;t0,6;", 28);
        due("lay() of six", written(four + "t0,5;t0,6;f0;").lay(), NO);
    }

    private static void itemsOfFacts() {
        says("What it is", "fV a FACT that is so (V is 1) or not (0)");
        for (int v = 0; v <= 99; v++) {
            itemIsSo("", "f" + v + ";", v <= 1);
        }
        factsAre(laid("t0,1;f0;f1;"), 0, 1);
        factsAre(laid("t0,1;f1;f0;"), 1, 0);

        says("What it is", "6 at most, 0, 1, ..");
        factsAre(laid("t0,1;f1;"), 1);
        factsAre(laid("t0,1;f1;f0;f0;f0;f1;"), 1, 0, 0, 0, 1);
        factsAre(laid("t0,1;f1;f0;f0;f0;f0;f1;"), 1, 0, 0, 0, 0, 1);
        faultOf("f1;f0;f0;f0;f0;f1;f0;", 18);
        faultOf("f1;f0;f0;f0;f0;f1;t0,1;f0;", 23);
        due("lay() of seven", written("t0,1;f1;f0;f0;f0;f0;f1;f0;").lay(), NO);
    }

    private static void itemsOfClaims() {
        says("What it is", "cT,F,V,H a CLAIM of TELLER T that FACT F is so (V is 1) or not (0)");
        String room = "t0,1;t0,1;t0,1;f0;f0;f0;f0;";
        for (int number = 0; number <= 99; number++) {
            itemIsSo(room, "c" + number + ",0,0,1;", number <= 2);
            itemIsSo(room, "c0," + number + ",0,1;", number <= 3);
            itemIsSo(room, "c0,0," + number + ",1;", number <= 1);
        }
        PokerEvening x = laid(room + "c2,3,1,5;c0,0,0,5;c1,2,0,5;");
        claimIs(x, 0, 2, 3, 1, 5, 1);
        claimIs(x, 1, 0, 0, 0, 5, 0);
        claimIs(x, 2, 1, 2, 0, 5, 0);

        says("What it is", "as weighty as H (1 to 20)");
        for (int weight = 0; weight <= 99; weight++) {
            itemIsSo(LEAST, "c0,0,0," + weight + ";", weight >= 1 && weight <= 20);
        }
        weightsAre(laid(LEAST + "c0,0,0,1;c0,0,0,20;"), 1, 20);

        says("What it is", "(T, F told ahead)");
        faultOf("c0,0,0,1;t0,1;f0;", 0);
        faultOf("t0,1;c0,0,0,1;f0;", 5);
        faultOf("f0;c0,0,0,1;t0,1;", 3);
        faultOf("t0,1;f0;c1,0,0,1;t0,1;", 8);
        faultOf("t0,1;f0;c0,1,0,1;f0;", 8);
        faultOf("t0,1;f0;t0,1;c1,0,0,1;f0;c1,1,0,1;", NONE);
        faultOf("t0,1;t0,1;t0,1;t0,1;t0,1;f0;f0;f0;f0;f0;f0;c4,5,0,1;", NONE);
        faultOf("t0,1;t0,1;t0,1;t0,1;t0,1;f0;f0;f0;f0;f0;f0;c5,5,0,1;", 43);
        faultOf("t0,1;t0,1;t0,1;t0,1;t0,1;f0;f0;f0;f0;f0;f0;c4,6,0,1;", 43);

        says("What it is", "7 at most, 0, 1, ..");
        weightsAre(laid(LEAST));
        weightsAre(laid(LEAST + "c0,0,0,9;"), 9);
        String six = "c0,0,0,1;c0,0,0,2;c0,0,0,3;c0,0,0,4;c0,0,0,5;c0,0,0,6;";
        weightsAre(laid(LEAST + six), 1, 2, 3, 4, 5, 6);
        weightsAre(laid(LEAST + six + "c0,0,0,7;"), 1, 2, 3, 4, 5, 6, 7);
        faultOf(LEAST + six + "c0,0,0,7;c0,0,0,8;", 71);
        faultOf(LEAST + six + "c0,0,0,7;f0;c0,0,0,8;", 74);
        due("lay() of eight", written(LEAST + six + "c0,0,0,7;c0,0,0,8;").lay(), NO);
    }

    private static void lastCalls() {
        says("What it is", "An object is used for at most 512 calls after it has been made");
        PokerEvening x = new PokerEvening();
        for (int call = 1; call <= 509; call++) {
            due("turn(0), as call " + call, x.turn(0), call % 2 == 1 ? 0 : 1);
        }
        due("undo(), as call 510", x.undo(), 7);
        due("fact(0), as call 511", x.fact(0), 1);
        due("hottest(), as call 512", x.hottest(), 13);
        x = new PokerEvening();
        for (int call = 1; call <= 256; call++) {
            due("keep(), as call " + (2 * call - 1), x.keep(), 1);
            due("back(), as call " + 2 * call, x.back(), 0);
        }
    }

    // "Terms": rooms

    private static void faultsAndLaid() {
        says("Terms", "the place (from 0 on) of the first letter of the first ITEM that is not so");
        faultOf("q", 0);
        faultOf("t0,1;q", 5);
        faultOf("t0,1;f0;q", 8);
        // Not where the wrong letter is, nor where the last wrong item is.
        faultOf("t0,41;", 0);
        faultOf("t0,1;f0;c0,0,0,21;", 8);
        faultOf("t0,1;f0;c0,0,0,1", 8);
        faultOf("f2;f3;f4;", 0);
        faultOf("f1;f3;f1;f4;", 3);
        faultOf("f1;f1;f1;f1;f1;f1;f1;q", 18);

        says("Terms", "LAID is a TEXT without FAULT, of a TELLER and a FACT at least (NO else");
        String[] refused = {"", "t0,1;", "t0,1;t0,1;t0,1;t0,1;t0,1;", "f0;", "f0;f0;f0;f0;f0;f0;", "t0,1;f0", "t0,1;f0;q",
            "qt0,1;f0;", "t0,1;f2;", "t0,41;f0;", "t0,1;f0;c0,0,0,21;", " "};
        for (String text : refused) {
            due("lay() of '" + text + "'", written(text).lay(), NO);
        }
        due("lay() of the least", written("t0,1;f0;").lay(), 1);
        due("lay() of the least, the fact ahead", written("f0;t0,1;").lay(), 1);
        countsAre(laid(LEAST), 1, 1, 0, 0, 0, 0, 0, 0, 0, 0, 8);

        says("Terms", "at first t0,10;t1,8;t2,12;t3,9;f1;f0;f1;f0;c0,0,1,9;c0,1,1,8;c1,2,0,14;c0,3,1,6;c2,1,1,5;c3,3,0,20;c2,0,0,4;");
        PokerEvening x = new PokerEvening();
        gripsAre(x, 10, 8, 12, 9);
        factsAre(x, 1, 0, 1, 0);
        weightsAre(x, 9, 8, 14, 6, 5, 20, 4);
        due("teller(4, 0), one too many", x.teller(4, 0), BAD);
        due("fact(4), one too many", x.fact(4), BAD);
        due("claim(7, 0), one too many", x.claim(7, 0), BAD);
    }

    // "Terms": the evening

    private static void heatOfTheIron() {
        says("Terms", "An EVENING: the iron has a HEAT of 0");
        PokerEvening x = laid("t0,40;f1;c0,0,1,1;c0,0,0,20;");
        // What the evening asked for ahead has left of heat does not count.
        hotsAre(x, 1, 21);
        hotsAre(x, 1, 21);
        x = laid("t1,1;f1;c0,0,1,20;");
        hotsAre(x, 0);
        due("drops(0), at a heat of 0", x.drops(0), NONE);
        due("told(), at a heat of 0", x.told(), 1);

        says("Terms", "CLAIMS are told one behind the other, but those of a TELLER who has LET GO are not told");
        x = laid("t0,5;t0,40;f1;c0,0,0,6;c0,0,1,1;c1,0,1,1;c0,0,1,1;c0,0,0,20;c1,0,1,1;c0,0,1,1;");
        hotsAre(x, 6, NONE, 1, NONE, NONE, 2, NONE);
        due("told()", x.told(), 1 + 4 + 32);
        due("drops(0)", x.drops(0), 0);
        x = laid("t0,5;f1;c0,0,1,1;c0,0,0,4;c0,0,1,1;c0,0,1,1;");
        due("told() up to the claim of letting go", x.told(), 7);
        due("drops(0) at the third", x.drops(0), 2);

        says("Terms", "if it was another one who had it (told the CLAIM told ahead), its HEAT is half of what it was, cut, first");
        for (int weight = 1; weight <= 20; weight++) {
            hotsAre(laid("t0,40;t0,40;f1;c0,0,0," + weight + ";c1,0,1,1;"), weight, weight / 2 + 1);
            hotsAre(laid("t0,40;t0,40;f1;c0,0,0," + weight + ";c0,0,1,1;"), weight, weight + 1);
        }
        // First half, then hotter: 3 by 2 is 1, and 4.
        hotsAre(laid("t0,40;t0,40;f1;c0,0,0,3;c1,0,0,4;"), 3, 5);
        // To and fro: 20; 10 and 1; 5 and 1; 3 and 1.
        hotsAre(laid("t0,40;t0,40;f1;c0,0,0,20;c1,0,1,1;c0,0,1,1;c1,0,1,1;"), 20, 11, 6, 4);
        // Who has let go does not have the iron in between: 20 lets go; 7; not told; 7 and 8.
        hotsAre(laid("t0,40;t0,5;f1;c1,0,0,20;c0,0,0,7;c1,0,1,1;c0,0,0,8;"), 20, 7, NONE, 15);
    }

    private static void heatByKind() {
        says("Terms", "by a PLAIN one as much as the CLAIM is weighty, if it is false (the FACT is not as told), else by 1");
        heats(0, new int[] {1, 2, 3, 19, 20}, 1);
        says("Terms", "by a COLD one half of that, cut");
        heats(1, new int[] {0, 1, 1, 9, 10}, 0);
        says("Terms", "by a CHILD twice that, if it is false");
        heats(2, new int[] {2, 4, 6, 38, 40}, 1);
        says("Terms", "by an OLD one 1 more than that");
        heats(3, new int[] {2, 3, 4, 20, 21}, 2);
    }

    /** The heat by one claim as weighty as 1, 2, 3, 19, 20 that is false, and by one that is not. */
    private static void heats(int kind, int[] byFalse, int byTrue) {
        int[] weights = {1, 2, 3, 19, 20};
        for (int i = 0; i < weights.length; i++) {
            for (int fact = 0; fact <= 1; fact++) {
                String room = "t" + kind + ",40;f" + fact + ";c0,0,";
                hotsAre(laid(room + (1 - fact) + "," + weights[i] + ";"), byFalse[i]);
                hotsAre(laid(room + fact + "," + weights[i] + ";"), byTrue);
            }
        }
    }

    private static void lettingGo() {
        says("Terms", "Is it more than the TELLER's GRIP then, that one LETS GO, and its HEAT is 0");
        for (int grip = 1; grip <= 20; grip++) {
            PokerEvening x = laid("t0," + grip + ";f1;c0,0,0," + grip + ";");
            due("drops(0), just the grip of " + grip, x.drops(0), NONE);
            if (grip > 1) {
                x.grip(0, grip - 1);
                due("drops(0), one more than the grip of " + (grip - 1), x.drops(0), 0);
            }
        }
        PokerEvening x = laid("t0,40;f1;c0,0,0,20;c0,0,0,20;c0,0,1,1;");
        hotsAre(x, 20, 40, 41);
        due("drops(0), by 41", x.drops(0), 2);
        x.grip(0, 39);
        due("drops(0), by 40", x.drops(0), 1);
        // Behind letting go the iron is cold: 20 lets go, 0 and 3.
        hotsAre(laid("t0,5;t0,40;f1;c0,0,0,20;c1,0,0,3;"), 20, 3);
        // By an old one 2 is more than 1 even if it is so; by a cold one nothing is.
        due("an old one of grip 1", laid("t3,1;f1;c0,0,1,1;").drops(0), 0);
        due("a cold one of grip 1", laid("t1,1;f1;c0,0,0,3;").drops(0), NONE);
        // All let go, each of them once.
        x = laid("t0,1;t0,1;t0,1;t0,1;t0,1;f1;c4,0,0,2;c3,0,0,2;c2,0,0,2;c1,0,0,2;c0,0,0,2;c4,0,0,2;c0,0,0,2;");
        due("count(6), all five", x.count(6), 5);
        due("told(), all five", x.told(), 31);
        for (int t = 0; t < 5; t++) {
            due("drops(" + t + ")", x.drops(t), 4 - t);
        }
    }

    // "Terms": acts

    private static void actsOnFactsAndGrips() {
        says("Terms", "A FACT may be made otherwise");
        PokerEvening x = laid("t0,1;f0;f0;f0;f0;f0;f0;");
        due("turn(0), the first", x.turn(0), 1);
        due("turn(5), the last", x.turn(5), 1);
        factsAre(x, 1, 0, 0, 0, 0, 1);
        due("turn(0) again", x.turn(0), 0);
        factsAre(x, 0, 0, 0, 0, 0, 1);
        due("turn(6), one too many", x.turn(6), BAD);

        says("Terms", "A TELLER may have another GRIP");
        x = laid("t0,20;t1,20;t2,20;t3,20;t0,20;f0;");
        due("grip(0, 1), the least", x.grip(0, 1), 20);
        due("grip(4, 40), the most", x.grip(4, 40), 20);
        gripsAre(x, 1, 20, 20, 20, 40);
        due("grip(4, 40), as it is", x.grip(4, 40), NO);
        due("grip(4, 39), another", x.grip(4, 39), 40);
        due("grip(5, 1), one too many", x.grip(5, 1), BAD);
        for (int kind = 0; kind < 4; kind++) {
            due("teller(" + kind + ", 0), as before", x.teller(kind, 0), kind);
        }
    }

    private static void actsOnClaims() {
        says("Terms", "A CLAIM may be told more, behind all (7 at most)");
        PokerEvening x = laid("t0,1;f0;");
        for (int c = 0; c < 7; c++) {
            due("add, as claim " + c, x.add(0, 0, 0, c + 1), c);
        }
        weightsAre(x, 1, 2, 3, 4, 5, 6, 7);
        due("add, the eighth", x.add(0, 0, 0, 8), FULL);
        weightsAre(x, 1, 2, 3, 4, 5, 6, 7);
        x.strike(0);
        due("add, once there is room", x.add(0, 0, 0, 8), 6);
        weightsAre(x, 2, 3, 4, 5, 6, 7, 8);

        says("Terms", "struck out (those behind it have numbers 1 less)");
        x = new PokerEvening();
        due("strike(6), the last", x.strike(6), 6);
        weightsAre(x, 9, 8, 14, 6, 5, 20);
        due("strike(0), the first", x.strike(0), 5);
        weightsAre(x, 8, 14, 6, 5, 20);
        due("strike(2), one between", x.strike(2), 4);
        weightsAre(x, 8, 14, 5, 20);
        claimIs(x, 2, 2, 1, 1, 5, 1);
        claimIs(x, 3, 3, 3, 0, 20, 0);
        due("claim(4, 0), one too many", x.claim(4, 0), BAD);
        x = laid(LEAST + "c0,0,0,1;");
        due("strike(0), the only one", x.strike(0), 0);
        weightsAre(x);
        due("strike(0), of none", x.strike(0), BAD);

        says("Terms", "put in another place (the others stay one behind the other)");
        x = new PokerEvening();
        x.shift(0, 6);
        weightsAre(x, 8, 14, 6, 5, 20, 4, 9);
        claimIs(x, 6, 0, 0, 1, 9, 0);
        x.shift(6, 0);
        weightsAre(x, 9, 8, 14, 6, 5, 20, 4);
        x.shift(5, 6);
        weightsAre(x, 9, 8, 14, 6, 5, 4, 20);
        x.shift(1, 0);
        weightsAre(x, 8, 9, 14, 6, 5, 4, 20);
        x.shift(2, 5);
        weightsAre(x, 8, 9, 6, 5, 4, 14, 20);
        x.shift(4, 1);
        weightsAre(x, 8, 4, 9, 6, 5, 14, 20);
        claimIs(x, 1, 2, 0, 0, 4, 1);
    }

    private static void undone() {
        says("Terms", "UNDONE is the latest of these");
        PokerEvening x = laid("t0,9;f0;c0,0,0,3;");
        x.turn(0);
        x.add(0, 0, 1, 5);
        x.shift(0, 1);
        x.strike(0);
        x.grip(0, 8);
        due("undo() the grip", x.undo(), 4);
        gripsAre(x, 9);
        due("undo() the strike", x.undo(), 3);
        weightsAre(x, 5, 3);
        due("undo() the shift", x.undo(), 2);
        weightsAre(x, 3, 5);
        due("undo() the add", x.undo(), 1);
        weightsAre(x, 3);
        factsAre(x, 1);
        due("undo() the turn", x.undo(), 0);
        factsAre(x, 0);
        due("undo() of nothing", x.undo(), NO);

        says("Terms", "(such by which nothing becomes another, too");
        x = laid("t0,9;f0;c0,0,0,3;c0,0,0,3;");
        x.turn(0);
        due("shift(0, 1) of claims that are alike", x.shift(0, 1), 9);
        due("count(8)", x.count(8), 2);
        due("undo() the shift", x.undo(), 1);
        factsAre(x, 1);
        due("undo() the turn", x.undo(), 0);
        factsAre(x, 0);

        says("Terms", "the last 8 can be");
        for (int acts = 7; acts <= 20; acts++) {
            x = laid("t0,20;f0;");
            for (int act = 1; act <= acts; act++) {
                x.grip(0, act);
            }
            int most = Math.min(acts, 8);
            due("count(8) of " + acts + " acts", x.count(8), most);
            for (int left = most - 1; left >= 0; left--) {
                due("undo()", x.undo(), left);
            }
            gripsAre(x, acts == 20 ? 12 : acts <= 8 ? 20 : acts - 8);
            due("undo() once more", x.undo(), NO);
            gripsAre(x, acts == 20 ? 12 : acts <= 8 ? 20 : acts - 8);
        }
        // Undone and done anew, there are no more than eight either.
        x = laid("t0,20;f0;");
        for (int act = 1; act <= 8; act++) {
            x.grip(0, act);
        }
        x.undo();
        x.grip(0, 30);
        x.grip(0, 31);
        for (int left = 7; left >= 0; left--) {
            due("undo() anew", x.undo(), left);
        }
        gripsAre(x, 1);
    }

    // "Terms": what an evening tells

    private static void whatAnEveningTells() {
        says("Terms", "LETS GO of a TELLER: the CLAIM; none");
        PokerEvening x = laid("t0,1;t0,40;t0,1;f1;c1,0,1,1;c1,0,1,1;c1,0,1,1;c1,0,1,1;c1,0,1,1;c1,0,1,1;c0,0,0,20;");
        due("drops(0), at the last", x.drops(0), 6);
        due("drops(1), who holds", x.drops(1), NONE);
        due("drops(2), who has no claim", x.drops(2), NONE);
        x.shift(6, 0);
        due("drops(0), at the first", x.drops(0), 0);

        says("Terms", "TOLD are CLAIMS (bits) that are told");
        due("told() of none", laid(LEAST).told(), 0);
        due("told() of one", laid(LEAST + "c0,0,0,1;").told(), 1);
        due("told() of seven", laid("t0,40;f1;" + "c0,0,1,1;".repeat(7)).told(), 127);
        due("told() of seven, by the first alone", laid("t0,1;f1;" + "c0,0,0,2;".repeat(7)).told(), 1);
        due("told() of seven, but one", laid("t0,1;t1,40;f1;c0,0,0,2;" + "c1,0,1,1;".repeat(5) + "c0,0,0,2;").told(), 63);

        says("Terms", "HOT of a CLAIM: HEAT as it has been told, ahead of letting go");
        due("hot(0), of 20 by a grip of 1", laid("t0,1;f1;c0,0,0,20;").hot(0), 20);
        due("hot(1), the most there is", laid("t2,40;f1;c0,0,0,20;c0,0,0,20;").hot(1), 80);
        due("hot(0), the least there is", laid("t1,1;f1;c0,0,1,20;").hot(0), 0);

        says("Terms", "none (it is not told)");
        x = laid("t0,1;f1;c0,0,0,2;c0,0,0,2;");
        due("hot(0), told", x.hot(0), 2);
        due("hot(1), not told", x.hot(1), NONE);
        due("hot(2), no such claim", x.hot(2), BAD);

        says("Terms", "HOTTEST: the most of these (0 without CLAIMS)");
        due("hottest() without claims", laid(LEAST).hottest(), 0);
        due("hottest() of a cold one", laid("t1,1;f1;c0,0,1,20;").hottest(), 0);
        due("hottest(), the first", laid("t0,40;t0,40;f1;c0,0,0,20;c1,0,1,1;").hottest(), 20);
        due("hottest(), the last", laid("t0,40;f1;c0,0,0,20;c0,0,1,1;").hottest(), 21);
        due("hottest(), as one lets go", laid("t0,1;t0,40;f1;c0,0,0,20;c1,0,0,2;").hottest(), 20);
        due("hottest(), of what is told alone", laid("t0,1;f1;c0,0,0,2;c0,0,0,20;").hottest(), 2);
    }

    // "Terms": what is best

    private static void orders() {
        says("Terms", "ORDER: of all orders of the CLAIMS that by which most are told");
        orderIs(laid(LEAST), 0);
        orderIs(laid(LEAST + "c0,0,0,1;"), 1, 0);
        // The heavy one ahead lets its teller go: it has to come last.
        orderIs(laid("t0,9;f1;c0,0,0,20;" + "c0,0,1,1;".repeat(6)), 7, 1, 2, 3, 4, 5, 6, 0);
        // Teller 1 lets go in any case, and has to do so behind its other claim.
        orderIs(laid("t0,40;t0,9;f1;c1,0,0,10;c0,0,1,1;c1,0,1,1;"), 3, 1, 2, 0);
        // By half as it changes hands, and only then: 5; 2 and 4, just the grip; 9 lets go at the last.
        orderIs(laid("t0,11;t0,6;f1;c0,0,0,5;c1,0,0,4;c1,0,0,3;"), 3, 0, 1, 2);
        // In one hand any two are more than 9.
        orderIs(laid("t0,9;t0,9;f1;c1,0,0,6;c1,0,0,4;c1,0,0,8;"), 2, 0, 1, 2);
        // Only if the iron cools in another hand are all told: 8; 4 and 1; 2 and 7; 9 and 8 lets go at the last.
        PokerEvening x = laid("t0,10;t0,40;f1;c0,0,0,8;c0,0,0,7;c0,0,0,8;c1,0,1,1;");
        orderIs(x, 4, 0, 3, 1, 2);
        // Asked again, once fewer can be told, and once all can be told in any order.
        x.strike(3);
        orderIs(x, 2, 0, 1, 2);
        x.turn(0);
        orderIs(x, 3, 0, 1, 2);

        says("Terms", "of several the first (by which CLAIM is first, the lowest ahead, then second, ..)");
        orderIs(laid("t0,40;f1;" + "c0,0,1,1;".repeat(7)), 7, 0, 1, 2, 3, 4, 5, 6);
        orderIs(laid("t0,1;f1;" + "c0,0,0,2;".repeat(7)), 1, 0, 1, 2, 3, 4, 5, 6);
        // Two are told at most: 1 ahead, then 0 or 2, of which the one not told comes last.
        orderIs(laid("t0,9;f1;c0,0,0,20;c0,0,1,1;c0,0,0,20;"), 2, 1, 0, 2);
        // A claim that is not told has its place by its number as well.
        orderIs(laid("t0,1;t0,9;f1;c0,0,0,20;c0,0,0,20;c1,0,1,1;"), 2, 0, 1, 2);
        // 0 first would do as well as 2 first, as long as 1 is last.
        orderIs(laid("t0,9;f1;c0,0,1,1;c0,0,0,20;c0,0,1,1;"), 3, 0, 2, 1);
    }

    private static void leaves() {
        says("Terms", "LEAVE for a TELLER: of sets of CLAIMS struck out, none, too, such that this one does not LET GO");
        leaveIs(laid(LEAST), 0, 0, 0);
        leaveIs(laid("t0,9;f1;c0,0,0,9;"), 0, 0, 0);
        leaveIs(laid("t0,8;f1;c0,0,0,9;"), 0, 1, 1);
        // An old one of grip 1 holds nothing: all seven have to go.
        leaveIs(laid("t3,1;f1;" + "c0,0,1,1;".repeat(7)), 0, 7, 127);
        leaveIs(laid("t3,1;t0,1;f1;c1,0,1,1;" + "c0,0,1,1;".repeat(6)), 0, 6, 126);
        // Whether another one lets go does not matter.
        leaveIs(laid("t0,9;t0,1;f1;c1,0,0,20;c0,0,0,9;"), 0, 0, 0);
        // Another's claim may be struck out too: 18 by 2, and 1, is more than 9.
        leaveIs(laid("t0,9;t0,40;f1;c1,0,0,18;c0,0,1,1;"), 0, 1, 1);
        // Without what another tells in between it would be 9 and 9; with it 9, 5, 2 and 9.
        leaveIs(laid("t0,11;t0,40;f1;c0,0,0,9;c1,0,1,1;c0,0,0,9;"), 0, 0, 0);

        says("Terms", "that of fewest, of several the lowest as bits");
        leaveIs(laid("t0,9;f1;c0,0,0,5;c0,0,0,5;"), 0, 1, 1);
        leaveIs(laid("t0,9;f1;c0,0,0,5;c0,0,0,5;c0,0,0,5;"), 0, 2, 3);
        leaveIs(laid("t0,9;f1;c0,0,0,1;c0,0,0,1;c0,0,0,9;"), 0, 1, 4);
        leaveIs(laid("t0,6;f1;" + "c0,0,1,1;".repeat(7)), 0, 1, 1);
        leaveIs(laid("t0,6;f1;" + "c0,0,1,1;".repeat(6) + "c0,0,0,20;"), 0, 1, 64);
        leaveIs(laid("t0,5;f1;" + "c0,0,1,1;".repeat(6) + "c0,0,0,20;"), 0, 2, 65);
    }

    private static void holds() {
        says("Terms", "HOLDS for a TELLER: the TELLER, that one, too");
        holdsIs(laid(LEAST), 0, 0, 0);
        holdsIs(laid("t0,1;f1;c0,0,0,2;"), 0, 0, 1);
        // The other would let go, oneself holds.
        holdsIs(laid("t0,1;t0,9;f1;c1,0,0,9;"), 1, 1, 0);
        holdsIs(laid("t0,1;t0,1;t0,1;t0,1;t0,9;f1;c4,0,0,9;"), 4, 4, 0);

        says("Terms", "had this one told all CLAIMS of that one (in their places; its own ones as well)");
        // For 0 by 1: 9, 18, 27; with a grip of 27 it holds, with one of 26 it lets go, as 0 does at 9.
        PokerEvening x = laid("t0,8;t0,27;f1;c0,0,0,9;c1,0,0,9;c0,0,0,9;");
        holdsIs(x, 0, 1, 0);
        x.grip(1, 26);
        holdsIs(x, 0, 0, 1);
        // All claims of that one: the light one alone would be held.
        holdsIs(laid("t0,1;t0,9;f1;c0,0,1,1;c0,0,0,9;"), 0, 0, 1);
        holdsIs(laid("t0,1;t0,10;f1;c0,0,1,1;c0,0,0,9;"), 0, 1, 0);
        // In their places: 9 of 1, 4 and 5 of 0, and so 14 of 1 in place of 0.
        holdsIs(laid("t0,8;t0,14;f1;c1,0,0,9;c0,0,0,5;"), 0, 1, 0);
        holdsIs(laid("t0,8;t0,13;f1;c1,0,0,9;c0,0,0,5;"), 0, 0, 1);

        says("Terms", "fewest would LET GO, of several the lowest: which; how many");
        holdsIs(laid("t0,8;t0,9;t0,9;f1;c0,0,0,9;"), 0, 1, 0);
        holdsIs(laid("t0,8;t0,8;t0,9;f1;c0,0,0,9;"), 0, 2, 0);
        holdsIs(laid("t0,8;t0,8;t0,8;t0,8;t0,9;f1;c0,0,0,9;"), 0, 4, 0);
        holdsIs(laid("t0,8;t0,8;t0,8;f1;c0,0,0,9;"), 0, 0, 1);
        holdsIs(laid("t0,8;t0,8;t0,8;f1;c2,0,0,9;"), 2, 0, 1);
        String five = "t0,1;t0,1;t0,1;t0,1;t0,1;f1;c0,0,0,9;c1,0,0,9;c2,0,0,9;c3,0,0,9;c4,0,0,9;";
        holdsIs(laid(five), 0, 1, 4);
        holdsIs(laid(five), 4, 0, 4);
        // Of one without claims nothing changes, whoever holds: the lowest.
        holdsIs(laid("t0,1;t0,40;f1;c0,0,0,9;"), 1, 0, 1);
    }

    // "Terms": what was seen

    private static void seenAtMost() {
        says("Terms", "SEEN (6 at most)");
        PokerEvening x = laid("t0,1;f0;c0,0,0,1;");
        for (int many = 1; many <= 6; many++) {
            due("seen(0, 7), as number " + many, x.seen(0, 7), many);
        }
        due("seen(0, 7), the seventh", x.seen(0, 7), FULL);
        // The seventh, by which no world would be left, is not among those seen.
        due("seen(0, 0), the seventh", x.seen(0, 0), FULL);
        due("worlds(0)", x.worlds(0), 2);
        due("count(7)", x.count(7), 6);
        due("forget()", x.forget(), 6);
        due("seen(0, 0), anew", x.seen(0, 0), 1);
        // The sixth one counts as the first one does.
        x = laid("t0,1;f0;c0,0,0,2;");
        for (int many = 1; many <= 5; many++) {
            x.seen(0, 0);
        }
        due("worlds(0) of five", x.worlds(0), 1);
        x.seen(0, 7);
        due("worlds(0) of six", x.worlds(0), 0);

        says("Terms", "is that a TELLER LETS GO as CLAIM k is told, or not at all");
        x = laid("t0,1;t0,1;f1;" + "c0,0,1,2;".repeat(6) + "c1,0,0,2;");
        // In world 0 teller 0 lets go at claim 0; in world 1 at claim 1, and teller 1 at claim 6.
        x.seen(0, 0);
        worldsAre(x, 1, 0, 0, 1);
        x.forget();
        x.seen(1, 6);
        worldsAre(x, 1, 1, 1, 0);
        x.seen(0, 1);
        worldsAre(x, 1, 1, 1, 0);
        x.forget();
        x.seen(1, 7);
        worldsAre(x, 1, 0, 0, 1);
        x.forget();
        x.seen(0, 7);
        worldsAre(x, 0, NONE, NONE, NONE);
    }

    private static void worldsThatFit() {
        says("Terms", "WORLDS: of all that FACTS may be (bits: so), all else as it is");
        String facts = "";
        for (int many = 1; many <= 6; many++) {
            facts += many % 2 == 0 ? "f0;" : "f1;";
            worldsAre(laid("t0,1;" + facts), 1 << many, 0, 0, 0);
        }

        says("Terms", "those by which all that is SEEN would be so: how many; the lowest; none");
        String six = "t0,9;f1;f0;f1;f0;f1;f0;";
        PokerEvening x = laid(six + "c0,0,1,20;c0,1,1,20;c0,2,1,20;c0,3,1,20;c0,4,1,20;c0,5,1,20;");
        x.seen(0, 7);
        worldsAre(x, 1, 63, 63, 0);
        x.seen(0, 0);
        worldsAre(x, 0, NONE, NONE, NONE);
        x.forget();
        x.seen(0, 5);
        worldsAre(x, 1, 31, 31, 32);
        x = laid(six + "c0,0,0,20;c0,1,0,20;c0,2,0,20;c0,3,0,20;c0,4,0,20;c0,5,0,20;");
        x.seen(0, 7);
        worldsAre(x, 1, 0, 0, 63);
        x.forget();
        x.seen(0, 5);
        worldsAre(x, 1, 32, 32, 31);
        x.forget();
        x.seen(0, 0);
        worldsAre(x, 32, 1, 1, 0);
        // All else as it is: a grip by which none lets go.
        x.grip(0, 40);
        x.strike(5);
        x.strike(4);
        x.strike(3);
        x.strike(2);
        worldsAre(x, 0, NONE, NONE, NONE);

        says("Terms", "SURE: FACTS (bits) that are so in all of these; those that are so in none");
        // Unless both claims are so teller 0 lets go at claim 1: by that alone no fact is sure.
        x = laid("t0,9;f0;f0;f0;c0,0,1,9;c0,1,0,9;");
        worldsAre(x, 8, 0, 0, 0);
        x.seen(0, 1);
        worldsAre(x, 6, 0, 0, 0);
        x.forget();
        x.seen(0, 7);
        worldsAre(x, 2, 1, 1, 2);

        says("Terms", "(none of them: NONE for both)");
        x = laid(LEAST);
        x.seen(0, 6);
        due("worlds(2)", x.worlds(2), NONE);
        due("worlds(3)", x.worlds(3), NONE);
    }

    private static void nextClaims() {
        says("Terms", "NEXT for a TELLER and H: of FACTS, each with a CLAIM of that one told more behind all that it is so, as weighty as H");
        // Where fact 0 is so the iron has 1: false claims are held up to a weight of 4, and tell nothing.
        PokerEvening x = laid("t0,5;f0;f0;c0,0,1,6;");
        due("next(0, 4): 1 and 4 is held", x.next(0, 4), 0);
        due("next(0, 5): 1 and 5 is not", x.next(0, 5), 1);
        due("next(0, 20)", x.next(0, 20), 1);
        due("next(0, 1)", x.next(0, 1), 0);
        due("next(0, 20) of one fact", laid("t0,9;f0;").next(0, 20), 0);

        says("Terms", "the more of both parts (in which that one LETS GO as just that CLAIM is told, or not) are fewest, of several the lowest");
        due("next(0, 20) of six alike", laid("t0,9;f1;f0;f1;f0;f1;f0;").next(0, 20), 0);
        due("next(0, 1) of six by which none lets go", laid("t0,9;f1;f0;f1;f0;f1;f0;").next(0, 1), 0);
        due("next(0, 1) of six by which all let go", laid("t3,1;f1;f0;f1;f0;f1;f0;").next(0, 1), 0);
        // Fact 0 is sure; by facts 1 and 2 the worlds are parted alike.
        x = laid("t0,9;t0,9;f0;f0;f0;c0,0,1,20;");
        x.seen(0, 7);
        due("next(1, 20)", x.next(1, 20), 1);
        // Who has let go at claim 0 does not let go at just that claim: fact 0 parts none of these worlds.
        x.forget();
        x.seen(0, 0);
        due("next(0, 20), let go ahead", x.next(0, 20), 0);
        due("next(1, 20), another", x.next(1, 20), 1);
        // The last of six facts is the only one that is not sure.
        x = laid("t0,9;t0,9;f0;f0;f0;f0;f0;f0;c0,0,0,20;c0,1,0,20;c0,2,0,20;c0,3,0,20;c0,4,0,20;");
        x.seen(0, 7);
        due("next(1, 20), the last fact", x.next(1, 20), 5);

        says("Terms", "none (there are 7 CLAIMS, no WORLDS)");
        x = laid("t0,9;f0;" + "c0,0,0,1;".repeat(6));
        due("next(0, 20) of six claims", x.next(0, 20), 0);
        x.add(0, 0, 0, 1);
        due("next(0, 20) of seven claims", x.next(0, 20), NONE);
        x.undo();
        due("next(0, 20) of six claims again", x.next(0, 20), 0);
        x.seen(0, 6);
        due("next(0, 20) of no worlds", x.next(0, 20), NONE);
        x.forget();
        due("next(0, 20) of all worlds", x.next(0, 20), 0);
    }

    private static void kindsAndGrips() {
        says("Terms", "KINDS of a TELLER (bits of 0 to 3), in place of its own, by which all that is SEEN would be so");
        // Heats of 9, 4, 18 and 10, whatever kind it is of itself.
        for (int kind = 0; kind < 4; kind++) {
            int[] grips = {18, 17, 10, 9, 8, 4, 3};
            int[] lettingGo = {0, 4, 4, 12, 13, 13, 15};
            for (int i = 0; i < grips.length; i++) {
                PokerEvening x = laid("t" + kind + "," + grips[i] + ";f1;c0,0,0,9;");
                due("kinds(0), nothing seen", x.kinds(0), 15);
                x.seen(0, 0);
                due("kinds(0) letting go by " + grips[i], x.kinds(0), lettingGo[i]);
                x.forget();
                x.seen(0, 7);
                due("kinds(0) holding by " + grips[i], x.kinds(0), 15 - lettingGo[i]);
                x.seen(0, 0);
                due("kinds(0) by both", x.kinds(0), 0);
                due("teller(0, 0), as before", x.teller(0, 0), kind);
            }
        }

        // All else as it stands by then: another fact, another grip, a claim more.
        PokerEvening x = laid("t0,9;t0,1;f0;c0,0,0,9;");
        x.seen(0, 0);
        x.drops(0);
        due("kinds(0), by 1, 0, 1, 2", x.kinds(0), 0);
        x.turn(0);
        due("kinds(0), by 9, 4, 18, 10", x.kinds(0), 12);
        x.grip(0, 8);
        due("kinds(0), by a grip less", x.kinds(0), 13);
        x.seen(1, 1);
        due("kinds(0), of what is not so as yet", x.kinds(0), 0);
        x.add(1, 0, 0, 2);
        due("kinds(0), of what is so then", x.kinds(0), 13);

        says("Terms", "GRIPS (1 to 40) likewise: how many; the least; none");
        x = laid("t2,20;t0,1;f1;c0,0,0,20;c0,0,1,1;");
        gripsSeenAre(x, 0, 40, 1);
        // 40 is held by 40 alone; 41 by none.
        x.seen(0, 0);
        gripsSeenAre(x, 0, 39, 1);
        gripsSeenAre(x, 1, 40, 1);
        x.forget();
        x.seen(0, 1);
        gripsSeenAre(x, 0, 1, 40);
        gripsSeenAre(x, 1, 0, NONE);
        x.forget();
        x.seen(0, 7);
        gripsSeenAre(x, 0, 0, NONE);
        gripsAre(x, 20, 1);
        // 1 is held by all; 2 by all but 1.
        x = laid("t0,20;f1;c0,0,1,1;c0,0,1,1;");
        x.seen(0, 1);
        gripsSeenAre(x, 0, 1, 1);
        x.forget();
        x.seen(0, 7);
        gripsSeenAre(x, 0, 39, 2);
        // All else as it stands by then.
        x.turn(0);
        gripsSeenAre(x, 0, 39, 2);
        x.add(0, 0, 1, 20);
        gripsSeenAre(x, 0, 19, 22);
        x.undo();
        gripsSeenAre(x, 0, 39, 2);
    }

    // "Terms": chances, evenings

    private static void likely() {
        says("Terms", "LIKELY for a TELLER: each FACT is so by x (0 to 10) of ten, for itself");
        // Lets go if any of six is so: by x of 10 it holds in (10 - x) to the power of 6, of a million.
        PokerEvening x = laid("t0,9;t0,9;f1;f1;f1;f1;f1;f1;c0,0,0,20;c0,1,0,20;c0,2,0,20;c0,3,0,20;c0,4,0,20;c0,5,0,20;");
        likelyIs(x, 0, 0, 0, 1);
        likelyIs(x, 0, 10, 1, 1);
        likelyIs(x, 0, 1, 1000000 - 531441, 1000000);
        likelyIs(x, 0, 9, 999999, 1000000);
        likelyIs(x, 0, 5, 63, 64);
        likelyIs(x, 1, 5, 0, 1);
        // One fact: just x of ten.
        int[] above = {0, 1, 1, 3, 2, 1, 3, 7, 4, 9, 1};
        int[] below = {1, 10, 5, 10, 5, 2, 5, 10, 5, 10, 1};
        x = laid("t0,9;f0;c0,0,0,20;");
        for (int ten = 0; ten <= 10; ten++) {
            likelyIs(x, 0, ten, above[ten], below[ten]);
        }

        // All else as it stands by then: whether the fact is so does not matter, a grip does.
        x.turn(0);
        likelyIs(x, 0, 3, 3, 10);
        x.grip(0, 20);
        likelyIs(x, 0, 3, 0, 1);
        x.add(0, 0, 1, 20);
        x.add(0, 0, 1, 1);
        // 20 and 1, if it is so; 1 and 20, if not.
        likelyIs(x, 0, 3, 1, 1);

        says("Terms", "how likely it LETS GO, in lowest terms");
        likelyIs(laid(LEAST), 0, 5, 0, 1);
        likelyIs(laid("t3,1;f0;f0;c0,0,1,1;"), 0, 3, 1, 1);
        // Two facts, both of them so: 36 of 100, 16 of 100.
        x = laid("t0,9;f0;f0;c0,0,0,5;c0,1,0,5;");
        likelyIs(x, 0, 6, 9, 25);
        likelyIs(x, 0, 4, 4, 25);
        likelyIs(x, 0, 7, 49, 100);
    }

    private static int draw(int z, int which) {
        BigInteger x = BigInteger.valueOf(7919).multiply(BigInteger.valueOf(z))
                .add(BigInteger.valueOf(6151).multiply(BigInteger.valueOf(which))).add(BigInteger.ONE);
        return x.multiply(x).mod(BigInteger.valueOf(65521)).intValue() / 2;
    }

    private static void eveningsByDraws() {
        says("Terms", "EVENINGS by z (0 to 9999), n (1 to 60) of them");
        PokerEvening x = laid("t3,1;t0,40;f1;c0,0,1,1;c1,0,1,1;");
        // In each evening the old one lets go by 2, or 3, and both claims are told.
        due("evenings(0, 1, 0)", x.evenings(0, 1, 0), 1);
        due("evenings(0, 1, 1)", x.evenings(0, 1, 1), 2);
        due("evenings(9999, 1, 0)", x.evenings(9999, 1, 0), 1);
        due("evenings(0, 60, 0)", x.evenings(0, 60, 0), 60);
        due("evenings(9999, 60, 0)", x.evenings(9999, 60, 0), 60);
        due("evenings(9999, 60, 1)", x.evenings(9999, 60, 1), 120);
        due("evenings(-1, 1, 0)", x.evenings(-1, 1, 0), BAD);
        due("evenings(10000, 1, 0)", x.evenings(10000, 1, 0), BAD);
        due("evenings(0, 0, 0)", x.evenings(0, 0, 0), BAD);
        due("evenings(0, 61, 0)", x.evenings(0, 61, 0), BAD);

        says("Terms", "FACT DRAW modulo as many is made otherwise, if (DRAW by 8, cut) modulo 2 is 0");
        // The claim of a fact that is made otherwise is false: by its weight one knows which.
        String claims = "";
        String facts = "";
        for (int many = 1; many <= 6; many++) {
            facts += "f0;";
            claims += "c0," + (many - 1) + ",0," + (10 + many) + ";";
            x = laid("t0,40;" + facts + claims);
            for (int z = 0; z < 10000; z += 101) {
                int draw = draw(z, 0);
                due("evenings(" + z + ", 1, 2) of " + many + " facts", x.evenings(z, 1, 2),
                        draw / 8 % 2 == 0 ? many - 1 + 11 + draw % many : many);
            }
        }

        says("Terms", "if (DRAW by 16, cut) modulo 4 is 0, the first CLAIM is put behind all (if there is one)");
        // An old one lets go at the first claim of the evening: by 5, or by 6 if the first has become the last.
        x = laid("t3,4;f0;f0;f0;f0;f0;f0;c0,0,1,4;c0,0,1,5;");
        PokerEvening one = laid("t3,4;f0;f0;f0;f0;f0;f0;c0,0,1,4;");
        PokerEvening empty = laid("t3,4;f0;f0;f0;f0;f0;f0;");
        for (int z = 0; z < 10000; z += 101) {
            int draw = draw(z, 0);
            boolean toldSo = draw / 8 % 2 == 0 && draw % 6 == 0;
            if (!toldSo) {
                due("evenings(" + z + ", 1, 2) of two claims", x.evenings(z, 1, 2), draw / 16 % 4 == 0 ? 6 : 5);
            }
            due("evenings(" + z + ", 1, 2) of one claim", one.evenings(z, 1, 2), toldSo ? 2 : 5);
            due("evenings(" + z + ", 1, 2) without claims", empty.evenings(z, 1, 2), 0);
        }

        says("Terms", "DRAW being ((x times x) modulo 65521) by 2, cut, x 7919 z, 6151 (which of these, 0 first) and 1 together");
        drawsOfOneFact(0);
        drawsOfOneFact(1);
        drawsOfOneFact(5000);
        drawsOfOneFact(9998);
        drawsOfOneFact(9999);

        says("Terms", "how often one LETS GO in all; how many CLAIMS are told in all; the most HEAT in any");
        eveningsAre(laid(LEAST), 0, 1, 0, 0, 0);
        eveningsAre(laid("t0,1;f0;f0;f0;f0;f0;f0;"), 9999, 60, 0, 0, 0);
        // Five let go at each evening, and seven are told at each: as many as there may be.
        eveningsAre(laid("t3,1;t3,1;t3,1;t3,1;t3,1;f0;c0,0,0,1;c1,0,0,1;c2,0,0,1;c3,0,0,1;c4,0,0,1;"), 9999, 60, 300, 300, 2);
        due("evenings(9999, 60, 1) of seven", laid("t1,40;f0;" + "c0,0,0,1;".repeat(7)).evenings(9999, 60, 1), 420);
    }

    /** One fact, one claim that it is not so: by the draws one knows in which evenings it is false. */
    private static void drawsOfOneFact(int z) {
        PokerEvening x = laid("t0,4;f0;c0,0,0,5;");
        boolean so = false;
        int gone = 0;
        int most = 1;
        for (int n = 1; n <= 60; n++) {
            so ^= draw(z, n - 1) / 8 % 2 == 0;
            gone += so ? 1 : 0;
            most = so ? 5 : most;
            eveningsAre(x, z, n, gone, n, most);
        }
        factsAre(x, 0);
    }

    private static void kept() {
        says("Terms", "KEPT is all as it stands, but THE TEXT and what is SEEN: 2 at most");
        PokerEvening x = laid("t0,9;f0;c0,0,0,3;");
        due("keep(), the first", x.keep(), 1);
        x.turn(0);
        x.grip(0, 8);
        x.add(0, 0, 0, 4);
        due("keep(), the second", x.keep(), 2);
        due("keep(), the third", x.keep(), FULL);
        due("count(9)", x.count(9), 2);
        x.strike(0);
        x.seen(0, 5);
        x.seen(0, 6);
        x.write('q');
        due("back() to the second", x.back(), 1);
        factsAre(x, 1);
        gripsAre(x, 8);
        weightsAre(x, 3, 4);
        due("count(7): seen stays", x.count(7), 2);
        due("fault(): the text stays", x.fault(), 17);
        x.forget();
        x.wipe();
        due("back() to the first", x.back(), 0);
        factsAre(x, 0);
        gripsAre(x, 9);
        weightsAre(x, 3);
        due("count(7): forgotten stays", x.count(7), 0);
        due("count(10): wiped stays", x.count(10), 0);
        due("back() to none", x.back(), NO);
    }

    // "Of several the first in this order": BAD, NO, NONE, FULL

    private static void severalAnswersDue() {
        says("Terms", "BAD: a number is none that is told (TELLERS, FACTS, CLAIMS: such as there are)");
        PokerEvening x = laid("t0,9;f1;c0,0,0,3;");
        // There were four tellers, four facts and seven claims ahead of lay().
        due("teller(1, 0)", x.teller(1, 0), BAD);
        due("fact(1)", x.fact(1), BAD);
        due("claim(1, 0)", x.claim(1, 0), BAD);
        due("drops(1)", x.drops(1), BAD);
        due("hot(1)", x.hot(1), BAD);
        due("turn(1)", x.turn(1), BAD);
        due("add(1, 0, 0, 1)", x.add(1, 0, 0, 1), BAD);
        due("add(0, 1, 0, 1)", x.add(0, 1, 0, 1), BAD);
        due("seen(1, 7)", x.seen(1, 7), BAD);
        due("kinds(1)", x.kinds(1), BAD);
        x.strike(0);
        due("claim(0, 0), struck out", x.claim(0, 0), BAD);
        due("hot(0), struck out", x.hot(0), BAD);
        due("order(0), struck out", x.order(0), BAD);
        // The second of the four tellers that there were would hold 20: it is there no more.
        x = new PokerEvening();
        x.grip(1, 40);
        x.kinds(0);
        rewrite(x, "t0,1;f1;c0,0,0,20;");
        x.lay();
        holdsIs(x, 0, 0, 1);
        // Nor is the claim that is struck out, by which one would let go.
        x = laid("t0,9;f1;c0,0,1,1;c0,0,0,20;");
        x.strike(1);
        leaveIs(x, 0, 0, 0);
        orderIs(x, 1, 0);
        due("told(), struck out", x.told(), 1);
        due("hottest(), struck out", x.hottest(), 1);
        likelyIs(x, 0, 10, 0, 1);

        says("Terms", "NO: not as things stand. NONE: there is none. FULL. Of several the first in this order; nothing changes then.");
        x = written("a".repeat(200));
        due("write(31), BAD and FULL", x.write(31), BAD);
        due("write(127), BAD and FULL", x.write(127), BAD);
        due("write(32), FULL alone", x.write(32), FULL);
        x = new PokerEvening();
        due("add(4, 0, 0, 1), BAD and FULL", x.add(4, 0, 0, 1), BAD);
        due("add(0, 4, 0, 1), BAD and FULL", x.add(0, 4, 0, 1), BAD);
        due("add(0, 0, 2, 1), BAD and FULL", x.add(0, 0, 2, 1), BAD);
        due("add(0, 0, 0, 0), BAD and FULL", x.add(0, 0, 0, 0), BAD);
        due("add(0, 0, 0, 21), BAD and FULL", x.add(0, 0, 0, 21), BAD);
        due("add(0, 0, 0, 1), FULL alone", x.add(0, 0, 0, 1), FULL);
        due("shift(7, 7), BAD and NO", x.shift(7, 7), BAD);
        due("shift(-1, -1), BAD and NO", x.shift(-1, -1), BAD);
        due("shift(6, 6), NO alone", x.shift(6, 6), NO);
        due("next(4, 1), BAD and NONE", x.next(4, 1), BAD);
        due("next(0, 21), BAD and NONE", x.next(0, 21), BAD);
        due("next(0, 20), NONE alone", x.next(0, 20), NONE);
        for (int i = 0; i < 6; i++) {
            x.seen(0, 6);
        }
        due("seen(4, 7), BAD and FULL", x.seen(4, 7), BAD);
        due("seen(0, 8), BAD and FULL", x.seen(0, 8), BAD);
        due("seen(0, 7), FULL alone", x.seen(0, 7), FULL);
        due("worlds(4), BAD and NONE", x.worlds(4), BAD);
        due("worlds(3), NONE alone", x.worlds(3), NONE);
        due("grips(4, 1), BAD and NONE", x.grips(4, 1), BAD);
        due("grips(0, 2), BAD and NONE", x.grips(0, 2), BAD);
        due("grips(0, 1), NONE alone", x.grips(0, 1), NONE);
        // Teller 3 is no longer there, nor is claim 6; what they had been must not be found again.
        rewrite(x, "t0,10;t1,8;t2,12;f1;c0,0,1,9;");
        x.lay();
        due("grip(3, 9), BAD and NO", x.grip(3, 9), BAD);
        due("grip(2, 12), NO alone", x.grip(2, 12), NO);
        due("shift(1, 1), BAD and NO", x.shift(1, 1), BAD);
        due("drops(3), BAD and NONE", x.drops(3), BAD);
        due("drops(2), NONE alone", x.drops(2), NONE);
        due("hot(1), BAD and NONE", x.hot(1), BAD);
    }

    // Promises 1 to 8

    private static void promisesOfRooms() {
        says("Promise 1", "As told; THE TEXT is empty.");
        countsAre(new PokerEvening(), 4, 4, 7, 2, 5, 6, 2, 0, 0, 0, 0);
        due("fault()", new PokerEvening().fault(), NONE);
        due("wipe()", new PokerEvening().wipe(), 0);
        due("lay()", new PokerEvening().lay(), NO);
        due("undo()", new PokerEvening().undo(), NO);
        due("back()", new PokerEvening().back(), NO);

        says("Promise 2", "A letter (32 to 126, as in ASCII) comes behind THE TEXT: how long it is. BAD; FULL.");
        PokerEvening x = new PokerEvening();
        for (int letter = -300; letter < 32; letter++) {
            due("write(" + letter + ")", x.write(letter), BAD);
        }
        for (int letter = 32; letter <= 126; letter++) {
            due("write(" + letter + ")", x.write(letter), letter - 31);
        }
        x = new PokerEvening();
        for (int letter = 127; letter < 500; letter++) {
            due("write(" + letter + ")", x.write(letter), BAD);
        }
        due("count(10)", x.count(10), 0);

        says("Promise 3", "THE TEXT is empty: how long it was.");
        x = written("t0,1;f0;");
        due("wipe()", x.wipe(), 8);
        due("wipe() of the empty text", x.wipe(), 0);
        due("fault() of the empty text", x.fault(), NONE);
        due("lay() of the empty text", x.lay(), NO);
        // What had been written is not read on with.
        rewrite(x, "t0,1");
        due("fault() of a part", x.fault(), 0);

        says("Promise 4", "FAULT. NONE.");
        due("fault() of nothing", new PokerEvening().fault(), NONE);
        x = written("t0,1;f0");
        due("fault(), as long as the last item has no end", x.fault(), 5);
        x.write(';');
        due("fault(), once it has", x.fault(), NONE);
        x.write(';');
        due("fault(), of one letter more", x.fault(), 8);
        due("count(10), as before", x.count(10), 9);

        says("Promise 5", "LAID: how many TELLERS; nothing SEEN, UNDONE, KEPT (THE TEXT stays). NO.");
        due("lay() of one", written("t0,1;f0;").lay(), 1);
        x = written("t0,1;t0,2;t0,3;t0,4;t0,5;f0;");
        x.seen(0, 0);
        x.turn(0);
        x.keep();
        x.keep();
        due("lay() of five", x.lay(), 5);
        countsAre(x, 5, 1, 0, 0, 0, 0, 0, 0, 0, 0, 28);
        due("undo()", x.undo(), NO);
        due("back()", x.back(), NO);
        due("forget()", x.forget(), 0);
        due("worlds(0)", x.worlds(0), 2);
        due("lay() again: the text stays", x.lay(), 5);
        due("wipe(): the text stays", x.wipe(), 28);
        due("lay() of the empty text", x.lay(), NO);

        says("Promise 6", "Of a TELLER: KIND (what = 0), GRIP (1). BAD.");
        x = laid("t3,40;t0,1;f0;");
        due("teller(0, 0)", x.teller(0, 0), 3);
        due("teller(0, 1)", x.teller(0, 1), 40);
        due("teller(1, 0)", x.teller(1, 0), 0);
        due("teller(1, 1)", x.teller(1, 1), 1);
        due("teller(-1, 0)", x.teller(-1, 0), BAD);
        due("teller(2, 0)", x.teller(2, 0), BAD);
        due("teller(0, -1)", x.teller(0, -1), BAD);
        due("teller(0, 2)", x.teller(0, 2), BAD);

        says("Promise 7", "1 if a FACT is so, 0. BAD.");
        x = laid("t0,1;f1;f0;f0;f0;f0;f1;");
        due("fact(-1)", x.fact(-1), BAD);
        due("fact(0)", x.fact(0), 1);
        due("fact(1)", x.fact(1), 0);
        due("fact(5)", x.fact(5), 1);
        due("fact(6)", x.fact(6), BAD);

        says("Promise 8", "Of a CLAIM: TELLER (what = 0), FACT (1), V (2), H (3), 1 if it is false (4). BAD.");
        x = laid("t0,1;t0,1;f1;f0;c1,0,0,20;c0,1,1,1;c0,1,0,2;c1,0,1,3;");
        claimIs(x, 0, 1, 0, 0, 20, 1);
        claimIs(x, 1, 0, 1, 1, 1, 1);
        claimIs(x, 2, 0, 1, 0, 2, 0);
        claimIs(x, 3, 1, 0, 1, 3, 0);
        due("claim(-1, 0)", x.claim(-1, 0), BAD);
        due("claim(4, 0)", x.claim(4, 0), BAD);
        due("claim(0, -1)", x.claim(0, -1), BAD);
        due("claim(0, 5)", x.claim(0, 5), BAD);
    }

    // Promises 9 to 14

    private static void promisesOfActs() {
        says("Promise 9", "A FACT is made otherwise: 1 if it is so then, 0. BAD.");
        PokerEvening x = laid("t0,1;f0;f1;");
        due("turn(0)", x.turn(0), 1);
        due("turn(1)", x.turn(1), 0);
        due("turn(-1)", x.turn(-1), BAD);
        due("turn(2)", x.turn(2), BAD);
        factsAre(x, 1, 0);
        due("count(8)", x.count(8), 2);

        says("Promise 10", "A CLAIM is told more: its number. BAD; FULL.");
        x = laid("t0,1;t0,1;f0;f0;");
        due("add(0, 0, 0, 1), the least", x.add(0, 0, 0, 1), 0);
        due("add(1, 1, 1, 20), the most", x.add(1, 1, 1, 20), 1);
        claimIs(x, 0, 0, 0, 0, 1, 0);
        claimIs(x, 1, 1, 1, 1, 20, 1);
        due("add(2, 1, 1, 20)", x.add(2, 1, 1, 20), BAD);
        due("add(1, 2, 1, 20)", x.add(1, 2, 1, 20), BAD);
        due("add(1, 1, 2, 20)", x.add(1, 1, 2, 20), BAD);
        due("add(1, 1, 1, 21)", x.add(1, 1, 1, 21), BAD);
        due("add(-1, 0, 0, 1)", x.add(-1, 0, 0, 1), BAD);
        due("add(0, -1, 0, 1)", x.add(0, -1, 0, 1), BAD);
        due("add(0, 0, -1, 1)", x.add(0, 0, -1, 1), BAD);
        due("add(0, 0, 0, 0)", x.add(0, 0, 0, 0), BAD);
        due("count(2)", x.count(2), 2);
        due("count(8)", x.count(8), 2);
        for (int c = 2; c < 7; c++) {
            due("add, as claim " + c, x.add(0, 0, 0, 1), c);
        }
        due("add, the eighth", x.add(0, 0, 0, 1), FULL);
        due("count(2), full", x.count(2), 7);
        due("count(8), full", x.count(8), 7);

        says("Promise 11", "Struck out: how many there are. BAD.");
        x = new PokerEvening();
        due("strike(7)", x.strike(7), BAD);
        due("strike(-1)", x.strike(-1), BAD);
        for (int left = 6; left >= 0; left--) {
            due("strike(" + left + "), the last", x.strike(left), left);
            due("strike(" + left + "), gone", x.strike(left), BAD);
        }
        due("count(8)", x.count(8), 7);

        says("Promise 12", "CLAIM c is put in place k: where it was less k, and 10. BAD; NO: it is there.");
        x = new PokerEvening();
        due("shift(0, 6), the least", x.shift(0, 6), 4);
        due("shift(6, 0), the most", x.shift(6, 0), 16);
        due("shift(0, 1)", x.shift(0, 1), 9);
        due("shift(1, 0)", x.shift(1, 0), 11);
        for (int c = 0; c < 7; c++) {
            due("shift to where it is", x.shift(c, c), NO);
        }
        due("shift(7, 0)", x.shift(7, 0), BAD);
        due("shift(0, 7)", x.shift(0, 7), BAD);
        due("shift(-1, 0)", x.shift(-1, 0), BAD);
        due("shift(0, -1)", x.shift(0, -1), BAD);
        due("count(8)", x.count(8), 4);
        weightsAre(x, 9, 8, 14, 6, 5, 20, 4);
        x = laid(LEAST + "c0,0,0,1;");
        due("shift(0, 0) of one", x.shift(0, 0), NO);
        due("shift(0, 1) of one", x.shift(0, 1), BAD);
        x.strike(0);
        due("shift(0, 0) of none", x.shift(0, 0), BAD);

        says("Promise 13", "A TELLER has a GRIP of g: what it was. BAD; NO: it has that.");
        x = laid("t0,2;t0,39;f0;");
        due("grip(0, 1)", x.grip(0, 1), 2);
        due("grip(1, 40)", x.grip(1, 40), 39);
        due("grip(0, 1), it has that", x.grip(0, 1), NO);
        due("grip(1, 40), it has that", x.grip(1, 40), NO);
        due("grip(0, 0)", x.grip(0, 0), BAD);
        due("grip(1, 41)", x.grip(1, 41), BAD);
        due("grip(2, 1)", x.grip(2, 1), BAD);
        due("grip(-1, 1)", x.grip(-1, 1), BAD);
        due("count(8)", x.count(8), 2);
        gripsAre(x, 1, 40);

        says("Promise 14", "UNDONE: how many more can be. NO.");
        x = laid(LEAST);
        due("undo() of nothing", x.undo(), NO);
        x.turn(0);
        due("undo() of one", x.undo(), 0);
        due("undo() of none more", x.undo(), NO);
        for (int i = 0; i < 9; i++) {
            x.turn(0);
        }
        due("undo() of nine", x.undo(), 7);
        due("count(8)", x.count(8), 7);
        // Undoing is no act: it is not undone itself.
        factsAre(x, 0);
        due("undo() again", x.undo(), 6);
        factsAre(x, 1);
    }

    // Promises 15 to 18

    private static void promisesOfTheEvening() {
        says("Promise 15", "LETS GO. NONE; BAD.");
        PokerEvening x = laid("t0,1;t0,2;f1;c0,0,0,2;c1,0,0,2;");
        due("drops(0)", x.drops(0), 0);
        due("drops(1)", x.drops(1), NONE);
        due("drops(2)", x.drops(2), BAD);
        due("drops(-1)", x.drops(-1), BAD);
        due("drops(0) without claims", laid(LEAST).drops(0), NONE);

        says("Promise 16", "TOLD, as bits.");
        due("told()", x.told(), 3);
        due("told() without claims", laid(LEAST).told(), 0);
        due("told() of seven", laid("t1,1;f1;" + "c0,0,1,20;".repeat(7)).told(), 127);

        says("Promise 17", "HOT. NONE; BAD.");
        x = laid("t0,1;t0,2;f1;c0,0,0,2;c0,0,0,2;c1,0,0,2;");
        hotsAre(x, 2, NONE, 2);
        due("hot(3)", x.hot(3), BAD);
        due("hot(-1)", x.hot(-1), BAD);
        due("hot(0) without claims", laid(LEAST).hot(0), BAD);

        says("Promise 18", "HOTTEST.");
        due("hottest() without claims", laid(LEAST).hottest(), 0);
        due("hottest(), the least of a claim", laid("t0,1;f1;c0,0,1,20;").hottest(), 1);
        due("hottest(), the most there is", laid("t2,40;f1;c0,0,0,20;c0,0,0,20;c0,0,0,20;").hottest(), 80);
    }

    // Promises 19 to 21

    private static void promisesOfWhatIsBest() {
        says("Promise 19", "ORDER: how many (k = -1), the k-th (0 on, such as there are). BAD.");
        PokerEvening x = new PokerEvening();
        due("order(-2)", x.order(-2), BAD);
        due("order(-1)", x.order(-1), 7);
        due("order(0)", x.order(0), 0);
        due("order(6)", x.order(6), 6);
        due("order(7)", x.order(7), BAD);
        x.strike(6);
        due("order(6), struck out", x.order(6), BAD);
        orderIs(laid(LEAST), 0);

        says("Promise 20", "LEAVE: how many (what = 0), which (1; bits). BAD.");
        x = laid("t0,1;t0,1;f1;c0,0,0,2;c1,0,1,2;");
        leaveIs(x, 0, 1, 1);
        leaveIs(x, 1, 0, 0);
        due("leave(2, 0)", x.leave(2, 0), BAD);
        due("leave(-1, 0)", x.leave(-1, 0), BAD);
        due("leave(0, 2)", x.leave(0, 2), BAD);
        due("leave(0, -1)", x.leave(0, -1), BAD);
        leaveIs(laid(LEAST), 0, 0, 0);
        weightsAre(x, 2, 2);

        says("Promise 21", "HOLDS: which (what = 0), how many (1). BAD.");
        x = laid("t0,1;t0,3;f1;c0,0,0,2;c1,0,1,2;");
        holdsIs(x, 0, 1, 0);
        holdsIs(x, 1, 0, 1);
        due("holds(2, 0)", x.holds(2, 0), BAD);
        due("holds(-1, 0)", x.holds(-1, 0), BAD);
        due("holds(0, 2)", x.holds(0, 2), BAD);
        due("holds(0, -1)", x.holds(0, -1), BAD);
        claimIs(x, 0, 0);
        claimIs(x, 1, 1);
    }

    // Promises 22 to 27

    private static void promisesOfWhatWasSeen() {
        says("Promise 22", "SEEN: how many; k (0 to 6), or 7: not at all. BAD; FULL.");
        PokerEvening x = laid("t0,1;t0,1;f0;");
        due("seen(0, -1)", x.seen(0, -1), BAD);
        due("seen(0, 0)", x.seen(0, 0), 1);
        due("seen(1, 6)", x.seen(1, 6), 2);
        due("seen(0, 7)", x.seen(0, 7), 3);
        due("seen(0, 8)", x.seen(0, 8), BAD);
        due("seen(2, 0)", x.seen(2, 0), BAD);
        due("seen(-1, 0)", x.seen(-1, 0), BAD);
        due("count(7)", x.count(7), 3);
        x.seen(0, 0);
        x.seen(0, 0);
        due("seen(0, 0), the sixth", x.seen(0, 0), 6);
        due("seen(0, 0), the seventh", x.seen(0, 0), FULL);
        due("count(7), full", x.count(7), 6);

        says("Promise 23", "Nothing is SEEN: how many were.");
        due("forget() of six", x.forget(), 6);
        due("forget() of none", x.forget(), 0);
        due("count(7)", x.count(7), 0);
        due("worlds(0)", x.worlds(0), 2);
        due("seen(0, 7), anew", x.seen(0, 7), 1);
        due("forget() of one", x.forget(), 1);

        says("Promise 24", "WORLDS: how many (what = 0), the lowest (1), SURE: so (2), in none (3). NONE (1 to 3); BAD.");
        x = laid("t0,1;f1;f0;c0,0,1,2;c0,1,0,2;");
        due("worlds(-1)", x.worlds(-1), BAD);
        due("worlds(4)", x.worlds(4), BAD);
        worldsAre(x, 4, 0, 0, 0);
        x.seen(0, 7);
        // By true claims alone it is 1 and 1, more than 1: there is none.
        worldsAre(x, 0, NONE, NONE, NONE);
        due("worlds(4), of none", x.worlds(4), BAD);
        x.forget();
        x.seen(0, 1);
        worldsAre(x, 2, 1, 1, 0);
        factsAre(x, 1, 0);

        says("Promise 25", "NEXT. NONE; BAD.");
        x = laid("t0,1;t0,1;f1;f0;");
        due("next(0, 1), the least", x.next(0, 1), 0);
        due("next(1, 20), the most", x.next(1, 20), 0);
        due("next(0, 0)", x.next(0, 0), BAD);
        due("next(0, 21)", x.next(0, 21), BAD);
        due("next(2, 1)", x.next(2, 1), BAD);
        due("next(-1, 1)", x.next(-1, 1), BAD);
        x.seen(0, 0);
        due("next(0, 1) of no worlds", x.next(0, 1), NONE);
        due("next(0, 0) of no worlds", x.next(0, 0), BAD);
        due("next(0, 1) of seven claims", new PokerEvening().next(0, 1), NONE);
        due("next(4, 1) of seven claims", new PokerEvening().next(4, 1), BAD);
        due("count(2), as before", x.count(2), 0);

        says("Promise 26", "KINDS, as bits. BAD.");
        due("kinds(0), none", x.kinds(0), 0);
        due("kinds(1), none", x.kinds(1), 0);
        due("kinds(2)", x.kinds(2), BAD);
        due("kinds(-1)", x.kinds(-1), BAD);
        x.forget();
        due("kinds(1), all", x.kinds(1), 15);

        says("Promise 27", "GRIPS: how many (what = 0), the least (1; NONE). BAD.");
        gripsSeenAre(x, 0, 40, 1);
        gripsSeenAre(x, 1, 40, 1);
        due("grips(2, 0)", x.grips(2, 0), BAD);
        due("grips(-1, 0)", x.grips(-1, 0), BAD);
        due("grips(0, 2)", x.grips(0, 2), BAD);
        due("grips(0, -1)", x.grips(0, -1), BAD);
        x.seen(0, 0);
        gripsSeenAre(x, 0, 0, NONE);
    }

    // Promises 28 and 29

    private static void promisesOfChances() {
        says("Promise 28", "LIKELY: above (part = 0), below (1). BAD.");
        PokerEvening x = laid("t0,1;t0,1;f1;c1,0,0,2;");
        likelyIs(x, 0, 0, 0, 1);
        likelyIs(x, 1, 0, 0, 1);
        likelyIs(x, 1, 10, 1, 1);
        likelyIs(x, 1, 1, 1, 10);
        due("likely(2, 0, 0)", x.likely(2, 0, 0), BAD);
        due("likely(-1, 0, 0)", x.likely(-1, 0, 0), BAD);
        due("likely(0, 11, 0)", x.likely(0, 11, 0), BAD);
        due("likely(0, -1, 0)", x.likely(0, -1, 0), BAD);
        due("likely(0, 0, 2)", x.likely(0, 0, 2), BAD);
        due("likely(0, 0, -1)", x.likely(0, 0, -1), BAD);
        factsAre(x, 1);

        says("Promise 29", "EVENINGS: LET GO (what = 0), TOLD (1), HEAT (2). BAD.");
        // By draw 0 the fact is made otherwise: the claim is told by 1, and held.
        eveningsAre(x, 0, 1, 0, 1, 1);
        due("evenings(0, 1, 3)", x.evenings(0, 1, 3), BAD);
        due("evenings(0, 1, -1)", x.evenings(0, 1, -1), BAD);
        due("evenings(0, 61, 0)", x.evenings(0, 61, 0), BAD);
        due("evenings(0, 0, 0)", x.evenings(0, 0, 0), BAD);
        due("evenings(10000, 1, 0)", x.evenings(10000, 1, 0), BAD);
        due("evenings(-1, 1, 0)", x.evenings(-1, 1, 0), BAD);
        factsAre(x, 1);
        due("count(8), as before", x.count(8), 0);
    }

    // Promises 30 to 32

    private static void promisesOfKept() {
        says("Promise 30", "KEPT: how many. FULL.");
        PokerEvening x = laid(LEAST);
        due("keep(), the first", x.keep(), 1);
        due("keep(), the second", x.keep(), 2);
        x.turn(0);
        due("keep(), the third", x.keep(), FULL);
        due("count(9)", x.count(9), 2);
        due("count(8): what can be undone stays", x.count(8), 1);
        // What was refused is not kept: the fact is as it was.
        x.back();
        factsAre(x, 0);
        due("keep(), once there is room", x.keep(), 2);

        says("Promise 31", "As KEPT last (it is KEPT no more then): how many are left; nothing is UNDONE then. NO.");
        x = laid("t0,1;f0;f0;");
        due("back() of none", x.back(), NO);
        x.keep();
        x.turn(0);
        x.keep();
        x.turn(1);
        due("back() of two", x.back(), 1);
        factsAre(x, 1, 0);
        due("undo()", x.undo(), NO);
        due("count(8)", x.count(8), 0);
        due("back() of one", x.back(), 0);
        factsAre(x, 0, 0);
        x.turn(1);
        due("back() of none more", x.back(), NO);
        factsAre(x, 0, 1);
        due("undo(): what was refused has left it", x.undo(), 0);
        // Undoing does not reach what is kept.
        x.turn(0);
        x.keep();
        x.undo();
        due("back() behind undo()", x.back(), 0);
        factsAre(x, 1, 0);

        says("Promise 32", "How many: 0 TELLERS, 1 FACTS, 2 CLAIMS, 3 FACTS that are so, 4 CLAIMS that are false, 5 told, 6 TELLERS who LET GO, 7 SEEN, 8 that can be UNDONE, 9 KEPT, 10 letters of THE TEXT. BAD.");
        x = laid(LEAST);
        x.wipe();
        countsAre(x, 1, 1, 0, 0, 0, 0, 0, 0, 0, 0, 0);
        due("count(-1)", x.count(-1), BAD);
        due("count(11)", x.count(11), BAD);
        // As many of each as there may be.
        x = laid("t0,1;t0,1;t0,1;t0,1;t0,1;f1;f1;f1;f1;f1;f1;c0,0,0,2;c1,0,0,2;c2,0,0,2;c3,0,0,2;c4,0,0,2;c0,0,0,2;c1,0,0,2;");
        for (int i = 0; i < 10; i++) {
            x.turn(5);
        }
        for (int i = 0; i < 7; i++) {
            x.seen(0, 0);
            x.keep();
        }
        for (int i = 0; i < 100; i++) {
            x.write('q');
        }
        countsAre(x, 5, 6, 7, 6, 7, 5, 5, 6, 8, 2, 200);
        x.turn(0);
        // All claims are so now: each is told by half of what it was, and 1; 1 and 1 by 2, 1.
        countsAre(x, 5, 6, 7, 5, 0, 7, 0, 6, 8, 2, 200);
    }
}

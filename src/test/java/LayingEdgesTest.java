/** Promises 16 to 19 and part 3 of the document at their edges: each test names the words that it holds. */
final class LayingEdgesTest {
    private static final int BAD = Edges.BAD, NONE = Edges.NONE;
    private static final Check check = new Check("LayingEdgesTest");

    public static void main(String[] args) {
        emptyTrail();
        silentPiece();
        runOfDeed();
        runsOfRow();
        runsOfChoice();
        runsOfBeside();
        runsOfLoop();
        loopAsOftenAsOneLikes();
        priceCountsOthersOfBoth();
        theLeastPrice();
        bothByEachDeed();
        bothTheGreatestNumber();
        bothWithTheLeastPriceAlone();
        ofSize60();
        changedTrails();
        priceAndBothBad();
        shortestOfKinds();
        shortestBad();
        fitOfNoTrails();
        fitOfEmptyTrails();
        fitOfPriceZero();
        fitTogether();
        fitTheFirstOfSeveral();
        fitInTheLog();
        fitBad();
        check.end();
    }

    /** The price of a trail on a net, and of its deeds those that are both: a 1 for each, a 0 for the others. */
    private static void laid(String trail, String net, int price, String both) {
        TrailFinder x = Edges.log(trail);
        int p = PiecesTest.make(x, net);
        int number = 0;
        for (int i = 0; i < both.length(); i++) {
            if (both.charAt(i) == '1') number += 32 >> i;
        }
        check.due("price of " + trail + " on " + net, x.price(0, p), price);
        check.due("both of " + trail + " on " + net, x.both(0, p), number);
    }

    // ---- part 3, promises 16 and 17

    /** An empty TRAIL: the PRICE is the fewest DEEDS of a RUN, and none is BOTH. */
    private static void emptyTrail() {
        laid("", "-", 0, "");
        laid("", "l", 1, "");
        laid("", "R(ab)", 2, "");
        laid("", "R(--)", 0, "");
        laid("", "C(R(ab)c)", 1, "");
        laid("", "C(ab)", 1, "");
        laid("", "C(a-)", 0, "");
        laid("", "B(abc)", 3, "");
        laid("", "L(ab)", 1, "");
        laid("", "L(-a)", 0, "");
    }

    /** "of SILENT the empty one": every DEED of the TRAIL is another. */
    private static void silentPiece() {
        laid("a", "-", 1, "0");
        laid("abcdef", "-", 6, "000000");
        laid("aaaaaa", "R(--)", 6, "000000");
        laid("ab", "L(--)", 2, "00");
        laid("ab", "C(--)", 2, "00");
        laid("ab", "B(--)", 2, "00");
    }

    /** "of a DEED its NAME". */
    private static void runOfDeed() {
        laid("a", "a", 0, "1");
        laid("l", "l", 0, "1");
        laid("l", "k", 2, "0");
        laid("aaaaaa", "a", 5, "100000");
        laid("bbbbba", "a", 5, "000001");
        laid("bbbbbb", "a", 7, "000000");
    }

    /** "of a ROW one of each PART, one behind the other". */
    private static void runsOfRow() {
        laid("abcdef", "R(abcdef)", 0, "111111");
        laid("fedcba", "R(abcdef)", 10, "100000");
        laid("ba", "R(ab)", 2, "10");
        laid("a", "R(aaaaaa)", 5, "1");
        laid("ab", "R(-a-b-)", 0, "11");
        laid("ab", "R(C(ab)C(ab))", 0, "11");
        laid("ab", "R(aa)", 2, "10");
    }

    /** "of a CHOICE those of its PARTS": not two of them. */
    private static void runsOfChoice() {
        laid("ab", "C(ab)", 1, "10");
        laid("ba", "C(ab)", 1, "10");
        laid("ab", "C(aR(ab))", 0, "11");
        laid("", "C(R(ab)-)", 0, "");
        laid("b", "C(R(ab)-)", 1, "1");
        laid("c", "C(abc)", 0, "1");
        laid("aa", "C(aa)", 1, "10");
    }

    /** "of BESIDE one of each PART, mixed, each in its own order". */
    private static void runsOfBeside() {
        laid("abcdef", "B(fedcba)", 0, "111111");
        laid("acbd", "B(R(ab)R(cd))", 0, "1111");
        laid("cdab", "B(R(ab)R(cd))", 0, "1111");
        laid("badc", "B(R(ab)R(cd))", 4, "1010");
        laid("aaa", "B(aaa)", 0, "111");
        laid("aaa", "B(aa)", 1, "110");
        laid("abab", "B(R(ab)R(ab))", 0, "1111");
        laid("aabb", "B(R(ab)R(ab))", 0, "1111");
        laid("abba", "B(R(ab)R(ab))", 2, "1110");
        laid("ab", "B(C(ab)C(ab))", 0, "11");
        laid("ab", "B(a-)", 1, "10");
    }

    /** "of a LOOP one of its first PART, then .. one of another PART and one of the first". */
    private static void runsOfLoop() {
        laid("a", "L(ab)", 0, "1");
        laid("b", "L(ab)", 2, "1");
        laid("ab", "L(ab)", 1, "11");
        laid("aba", "L(ab)", 0, "111");
        laid("ba", "L(ab)", 1, "11");
        laid("bb", "L(ab)", 3, "11");
        laid("aa", "L(ab)", 1, "11");
        laid("aa", "L(a-)", 0, "11");
        laid("aa", "L(aa)", 1, "11");
        laid("abaca", "L(abc)", 0, "11111");
        laid("abca", "L(abc)", 1, "1111");
        laid("abcba", "L(R(abc)-)", 2, "11100");
    }

    /** "as often as one likes": not at all, and more often than a TRAIL has DEEDS. */
    private static void loopAsOftenAsOneLikes() {
        laid("aaaaaa", "L(a-)", 0, "111111");
        laid("aaaaaa", "L(-a)", 0, "111111");
        laid("bbbbbb", "L(-b)", 0, "111111");
        laid("ababab", "L(ab)", 1, "111111");
        laid("bbbbbb", "L(ab)", 7, "111111");
        laid("aaaaaa", "L(ab)", 5, "111111");
        laid("cccccc", "L(R(ab)c)", 8, "000000");
        laid("bbbbbb", "L(R(ab)-)", 6, "111111");
        laid("abcdef", "L(-C(abcdef))", 0, "111111");
        laid("fedcba", "L(-C(abcdef))", 0, "111111");
        laid("abcdef", "L(-abcdef)", 0, "111111");
        laid("aaaaaa", "L(L(a-)-)", 0, "111111");
        laid("abacab", "L(L(ab)c)", 1, "111111");
    }

    /** "the PRICE is how many others there are in both together". */
    private static void priceCountsOthersOfBoth() {
        laid("ac", "R(ab)", 2, "10");
        laid("acc", "R(ab)", 3, "100");
        laid("ac", "R(abb)", 3, "10");
        laid("cccccc", "R(aaaaaa)", 12, "000000");
        laid("cbaccc", "R(ab)", 6, "010000");
    }

    /** 16: "The least PRICE .. of all RUNS". */
    private static void theLeastPrice() {
        laid("abcd", "C(R(abcl)R(ab)-)", 2, "1110");
        laid("l", "C(R(al)k)", 1, "1");
        laid("lk", "C(R(alk)-)", 1, "11");
        laid("c", "C(R(aaaaaa)b)", 2, "0");
        laid("c", "C(R(aaaaaa)-)", 1, "0");
    }

    /** 17, "that of the DEED at i (from 0) being 32 by 2 to the i, added up": each of six alone, all, none. */
    private static void bothByEachDeed() {
        for (int i = 0; i < 6; i++) {
            TrailFinder x = Edges.log("bbbbbb".substring(0, i) + "a" + "bbbbb".substring(i));
            x.deed(0);
            check.due("both: the deed at " + i, x.both(0, 0), new int[] {32, 16, 8, 4, 2, 1}[i]);
            check.due("both: its price", x.price(0, 0), 5);
        }
        laid("abcdef", "R(abcdef)", 0, "111111");
        laid("abcdef", "R(bdf)", 3, "010101");
        laid("abcdef", "R(ace)", 3, "101010");
        laid("abcdef", "l", 7, "000000");
    }

    /** "of layings with it the one whose DEEDS that are BOTH are told by the greatest number". */
    private static void bothTheGreatestNumber() {
        laid("aa", "a", 1, "10");
        laid("ab", "C(ab)", 1, "10");
        laid("ba", "R(ab)", 2, "10");
        laid("aab", "R(ab)", 1, "101");
        laid("abb", "R(ab)", 1, "110");
        laid("abab", "R(ab)", 2, "1100");
        laid("cba", "R(abc)", 4, "100");
        laid("bcabca", "R(abc)", 3, "001110");
        // 16 and 8 and 4 and 2 and 1 are less than 32.
        laid("lbcdef", "C(R(bcdef)R(lbcd))", 1, "011111");
        laid("lbcdef", "C(R(bcd)R(lbc))", 3, "111000");
        laid("abbbbb", "C(aR(bb))", 4, "011000");
        laid("abcdef", "C(R(bcdeff)R(afffff))", 2, "011111");
    }

    /** A greater number with a greater PRICE does not count; with more DEEDS of the RUN at one PRICE it does. */
    private static void bothWithTheLeastPriceAlone() {
        laid("ab", "C(R(akl)b)", 1, "01");
        laid("ab", "C(R(ak)R(bkl)-)", 2, "10");
        laid("a", "C(R(ak)-)", 1, "1");
        laid("a", "C(-R(ak))", 1, "1");
        laid("a", "C(-R(akl))", 1, "0");
        laid("ab", "C(-R(bk))", 2, "01");
    }

    /** SIZE 60, the longest RUNS and the deepest trees; a TRAIL of six on them. */
    private static void ofSize60() {
        TrailFinder x = Edges.log("aaaaaa", "", "bbbbbb");
        x.deed(0);
        int row = Edges.wide(x, 2, 0, 59);
        int beside = Edges.wide(x, 4, 0, 59);
        for (int p = row; p <= beside; p += beside - row) {
            check.due("59 deeds: price of six", x.price(0, p), 53);
            check.due("59 deeds: all are both", x.both(0, p), 63);
            check.due("59 deeds: price of none", x.price(1, p), 59);
            check.due("59 deeds: price of six others", x.price(2, p), 65);
            check.due("59 deeds: none is both", x.both(2, p), 0);
            check.due("59 deeds: shortest", x.shortest(p), 59);
        }
        TrailFinder y = Edges.log("abcabc", "abab", "bbbbbb");
        y.deed(0);
        y.deed(1);
        int loops = 0;
        for (int level = 0; level < 29; level++) loops = y.join(5, loops, 1);
        check.due("29 loops: size", y.piece(loops, 3), 59);
        check.due("29 loops: price", y.price(0, loops), 3);
        check.due("29 loops: both", y.both(0, loops), 32 + 16 + 4 + 2);
        check.due("29 loops: an end is missing", y.price(1, loops), 1);
        check.due("29 loops: seven others of the run", y.price(2, loops), 7);
        check.due("29 loops: six are both", y.both(2, loops), 63);
    }

    /** A PIECE that was laid on before is laid on anew: by another TRAIL, a longer and a shorter one. */
    private static void changedTrails() {
        TrailFinder x = Edges.log("abcdef", "", "b");
        int p = PiecesTest.make(x, "L(C(aR(bc))-)");
        check.due("laid: the longest", x.price(0, p), 3);
        check.due("laid: an empty one", x.price(1, p), 1);
        check.due("laid: one deed", x.price(2, p), 1);
        check.due("laid: the longest again", x.both(0, p), 32 + 16 + 8);
        x.cut(0);
        check.due("laid: cut", x.price(0, p), 2);
        x.add(2, 2, 0, 0, 0);
        check.due("laid: one more", x.price(2, p), 0);
        check.due("laid: one more, both", x.both(2, p), 32 + 16);
        check.due("laid: a part of it", x.price(2, 0), 3);
        check.due("laid: the whole again", x.price(2, p), 0);
    }

    /** 16: "BAD: also a DROPPED CASE."; 17: "BAD likewise." */
    private static void priceAndBothBad() {
        TrailFinder x = Edges.log("a", "", "a");
        Edges.fill(x, 3);
        Edges.within(check, "price: CASE of 3", 0, 2, BAD, c -> x.price(c, 0));
        Edges.within(check, "both: CASE of 3", 0, 2, BAD, c -> x.both(c, 0));
        Edges.within(check, "price: piece of 3", 0, 2, BAD, p -> x.price(0, p));
        Edges.within(check, "both: piece of 3", 0, 2, BAD, p -> x.both(0, p));
        TrailFinder y = Edges.logOf24("a");
        Edges.fill(y, 200);
        Edges.within(check, "price: CASE of 24", 0, 23, BAD, c -> y.price(c, 199));
        Edges.within(check, "both: CASE of 24", 0, 23, BAD, c -> y.both(c, 199));
        Edges.within(check, "price: piece of 200", 0, 199, BAD, p -> y.price(23, p));
        Edges.within(check, "both: piece of 200", 0, 199, BAD, p -> y.both(23, p));
        x.drop(1, true);
        x.drop(2, true);
        for (int c = 1; c < 3; c++) {
            check.due("price: dropped", x.price(c, 0), BAD);
            check.due("both: dropped", x.both(c, 0), BAD);
        }
        check.due("price: the other is not", x.price(0, 0), 0);
        x.drop(1, false);
        check.due("price: dropped no more", x.price(1, 0), 1);
        check.due("both: dropped no more", x.both(1, 0), 0);
    }

    // ---- promise 18

    /** 18: "The fewest DEEDS of a RUN", of each KIND. */
    private static void shortestOfKinds() {
        String[] nets = {"-", "a", "R(ab)", "R(--)", "R(a-)", "C(R(abc)R(ab))", "C(R(ab)R(abc))", "C(a-)", "C(-a)",
            "B(ab)", "B(--)", "B(aR(ab)C(-b))", "L(ab)", "L(-a)", "L(R(ab)-)", "L(C(-a)R(aaa))", "R(L(ab)L(R(ab)c)C(ab))"};
        int[] want = {0, 1, 2, 0, 1, 2, 2, 0, 0, 2, 0, 3, 1, 0, 2, 0, 4};
        for (int i = 0; i < nets.length; i++) {
            TrailFinder x = new TrailFinder();
            check.due("shortest: " + nets[i], x.shortest(PiecesTest.make(x, nets[i])), want[i]);
        }
    }

    /** 18: "BAD." */
    private static void shortestBad() {
        TrailFinder x = new TrailFinder();
        Edges.fill(x, 3);
        Edges.within(check, "shortest: p of 3", 0, 2, BAD, x::shortest);
        Edges.fill(x, 200);
        Edges.within(check, "shortest: p of 200", 0, 199, BAD, x::shortest);
    }

    // ---- promise 19

    private static void fit(String when, TrailFinder x, int p, int... want) {
        for (int what = 0; what < 4; what++) check.due("fit: " + when + ", " + what, x.fit(p, what), want[what]);
    }

    /** 19: "NONE without TRAILS": no CASES, all of them DROPPED. */
    private static void fitOfNoTrails() {
        for (String net : new String[] {"a", "-", "R(ab)", "L(ab)"}) {
            TrailFinder x = new TrailFinder();
            int p = PiecesTest.make(x, net);
            fit("no cases", x, p, 0, 0, 0, NONE);
            for (int c = 0; c < 24; c++) Edges.trail(x, "ab");
            Edges.dropAll(x);
            fit("all dropped", x, p, 0, 0, 0, NONE);
            x.drop(23, false);
            check.due("fit: one is back", x.fit(p, 3), 23);
        }
    }

    /** Empty TRAILS are TRAILS. */
    private static void fitOfEmptyTrails() {
        TrailFinder x = Edges.log("", "");
        x.deed(-1);
        x.deed(0);
        fit("empty, on silent", x, 0, 2, 0, 0, 0);
        fit("empty, on a deed", x, 1, 0, 2, 2, 0);
        TrailFinder y = Edges.logOf24("");
        y.deed(0);
        fit("24 empty", y, 0, 0, 24, 24, 0);
    }

    /** 19: "0 how many TRAILS have the PRICE 0". */
    private static void fitOfPriceZero() {
        TrailFinder x = Edges.log("a", "b", "ab", "", "a");
        int p = PiecesTest.make(x, "C(ab)");
        check.due("fit: price 0, 0, 1, 1, 0", x.fit(p, 0), 3);
        check.due("fit: none with price 0", x.fit(x.deed(11), 0), 0);
        TrailFinder y = Edges.logOf24("abcdef");
        p = PiecesTest.make(y, "R(abcdef)");
        fit("24 with price 0", y, p, 24, 0, 288, 0);
        y.cut(23);
        fit("the last one of 24 has a price", y, p, 23, 1, 287, 23);
    }

    /** 19: "1 PRICES together, 2 DEEDS of all TRAILS and the fewest of a RUN for each together". */
    private static void fitTogether() {
        TrailFinder x = Edges.logOf24("bbbbbb");
        x.deed(0);
        int p = Edges.wide(x, 2, 0, 59);
        fit("the greatest prices", x, p, 0, 24 * 65, 144 + 24 * 59, 0);
        TrailFinder y = Edges.log("a", "ab", "");
        p = PiecesTest.make(y, "R(aC(b-))");
        fit("1, 2 and 0 deeds", y, p, 2, 1, 6, 2);
    }

    /** 19: "3 the CASE with the greatest PRICE (of several the first; ..)". */
    private static void fitTheFirstOfSeveral() {
        TrailFinder x = Edges.log("a", "bb", "b", "bb", "bb");
        x.deed(0);
        check.due("fit: the first of three", x.fit(0, 3), 1);
        x.drop(1, true);
        check.due("fit: the first of two that are left", x.fit(0, 3), 3);
        x.drop(3, true);
        check.due("fit: the last", x.fit(0, 3), 4);
        x.drop(4, true);
        check.due("fit: a lesser price", x.fit(0, 3), 2);
        x.drop(2, true);
        check.due("fit: price 0 is the greatest", x.fit(0, 3), 0);
        x.drop(1, false);
        x.drop(4, false);
        check.due("fit: two are back", x.fit(0, 3), 1);
    }

    /** 19: "Of THE LOG". */
    private static void fitInTheLog() {
        TrailFinder x = Edges.log("a", "ab", "abc");
        x.deed(0);
        fit("all", x, 0, 1, 3, 9, 2);
        x.drop(2, true);
        fit("the last dropped", x, 0, 1, 1, 5, 1);
        x.drop(0, true);
        fit("the first dropped", x, 0, 0, 1, 3, 1);
    }

    /** 19: "BAD." */
    private static void fitBad() {
        TrailFinder x = Edges.log("a");
        Edges.fill(x, 3);
        TrailFinder empty = new TrailFinder();
        Edges.fill(empty, 200);
        for (int k = 0; k < 4; k++) {
            int what = k;
            Edges.within(check, "fit: p of 3, " + what, 0, 2, BAD, p -> x.fit(p, what));
            Edges.within(check, "fit: p of 200 without trails, " + what, 0, 199, BAD, p -> empty.fit(p, what));
        }
        Edges.within(check, "fit: what", 0, 3, BAD, what -> x.fit(0, what));
        Edges.within(check, "fit: what without trails", 0, 3, BAD, what -> empty.fit(0, what));
    }
}

/** The edges that the document names for what was missed, fog and lots (promises 21 to 28), sentence by sentence. */
public final class MissedEdgesTest {
    private static final int LEAST = Integer.MIN_VALUE, MOST = Integer.MAX_VALUE;
    private static final long BAD_LONG = Long.MIN_VALUE + 2;
    private static final String OPEN_WARD = "......;......;......;......;......;......";
    private static final String REST = ".......................";

    public static void main(String[] args) {
        missedCells();
        missedEightAtMost();
        missedOfNoCell();
        forgotten();
        readWholePairs();
        readAsLongAsEachMayBe();
        readUpToEight();
        readForms();
        readRefusals();
        omittedFromNoneToAll();
        omittedFollowOneAnother();
        meantOfCellsThatThereAre();
        meantLikewise();
        meantRefusals();
        askOfNoShops();
        askOfLikeOnes();
        askTheGreatestIsLeast();
        foggedByNoneAndByAll();
        foggedUpToATold();
        foggedLaterNone();
        foggedInPlaceOfWhatIsTold();
        foggedInLowestTerms();
        foggedOfNoShop();
        foggedRefusals();
        lotsWrap();
        lotsOfOneTo24();
        lotsInPlaceOfTheBeat();
        nightsFromNowhere();
        nightsRefusals();
        Due.end();
    }

    private static CatBeat shortSighted(String ward, String beat, String thieves) {
        CatBeat x = Due.of(ward, beat, thieves);
        x.set(2, 0);
        return x;
    }

    private static CatBeat from(int start, CatBeat x) {
        x.set(0, start);
        return x;
    }

    private static void fill(CatBeat x, int s, int form, int... items) {
        x.sheet(s, form, items.length);
        for (int i = 0; i < items.length; i++) {
            x.put(s, form, i, items[i]);
        }
    }

    private static void missedCells() {
        Due.under("by the end of the NIGHT a CELL (0 to 35) had been taken from (1), or not (0)");
        CatBeat x = new CatBeat();
        int[] wrongCells = {-1, 36, LEAST, MOST};
        int[] wrong = {-1, 2, LEAST, MOST};
        for (int cell : wrongCells) {
            Due.due("missed(" + cell + ", 0)", x.missed(cell, 0), -2);
            Due.due("missed(" + cell + ", 1)", x.missed(cell, 1), -2);
        }
        for (int is : wrong) {
            Due.due("missed(0, " + is + ")", x.missed(0, is), -2);
        }
        Due.due("count(7)", x.count(7), 0);
        Due.due("missed(0, 0)", x.missed(0, 0), 1);
        Due.due("missed(0, 1)", x.missed(0, 1), 2);
        Due.due("missed(35, 0)", x.missed(35, 0), 3);
        Due.due("missed(35, 1)", x.missed(35, 1), 4);
    }

    private static void missedEightAtMost() {
        Due.under("MISSED, 8 at most; MISSED more: how many. BAD; FULL.");
        CatBeat x = new CatBeat();
        for (int i = 1; i <= 8; i++) {
            Due.due("missed, " + i, x.missed(i, 0), i);
        }
        Due.due("missed, a ninth", x.missed(9, 0), -4);
        Due.due("missed, a ninth again", x.missed(1, 0), -4);
        Due.due("missed, a ninth and no cell", x.missed(36, 0), -2);
        Due.due("missed, a ninth and neither", x.missed(0, 2), -2);
        Due.due("count(7)", x.count(7), 8);
        x.forget();
        Due.due("missed behind forget", x.missed(0, 0), 1);
    }

    private static void missedOfNoCell() {
        Due.under("MISSED of a CELL that there is not: it is never taken from");
        CatBeat x = Due.of("s", "e.", "001");
        x.missed(35, 0);
        Due.due("omitted(), not taken from", x.omitted(), 3);
        Due.due("meant(0, NONE), not taken from", x.meant(0, -1), 1);
        x.missed(35, 1);
        Due.due("omitted(), taken from", x.omitted(), 0);
        Due.due("meant(0, NONE), taken from", x.meant(0, -1), 0);
    }

    private static void forgotten() {
        Due.under("All MISSED is forgotten: how many.");
        CatBeat x = Due.of("s", "e", "001");
        Due.due("forget() of none", x.forget(), 0);
        for (int i = 0; i < 9; i++) {
            x.missed(0, 1);
        }
        Due.due("omitted()", x.omitted(), 0);
        Due.due("forget() of eight", x.forget(), 8);
        Due.due("forget() again", x.forget(), 0);
        Due.due("omitted() behind it", x.omitted(), 1);
        Due.due("count(7)", x.count(7), 0);
    }

    private static void readWholePairs() {
        Due.under("its items, two for each, as many as are whole");
        int[] whole = {0, 0, 1, 1, 2, 2, 3};
        for (int n = 0; n < whole.length; n++) {
            CatBeat x = new CatBeat();
            x.sheet(0, 2, n);
            Due.due("read(0) of " + n + " items", x.read(0), whole[n]);
            Due.due("count(7) of " + n + " items", x.count(7), whole[n]);
            Due.due("lose(0), the sheet is as it was", x.lose(0), n);
        }
    }

    private static void dueRead(String name, int want, int... items) {
        CatBeat x = new CatBeat();
        fill(x, 3, 2, items);
        Due.due("read(3), " + name, x.read(3), want);
        Due.due("count(7), " + name, x.count(7), want);
        Due.due("count(8), " + name, x.count(8), 0);
    }

    private static void readAsLongAsEachMayBe() {
        Due.under("as long as each may be: how many");
        dueRead("all may be", 4, 0, 0, 35, 1, 0, 1, 35, 0);
        dueRead("the first may not", 0, 36, 0, 1, 1);
        dueRead("a cell below", 1, 1, 1, -1, 0, 1, 1);
        dueRead("a cell above", 1, 1, 1, 36, 0, 1, 1);
        dueRead("neither 0 nor 1", 2, 1, 1, 2, 0, 3, 2, 1, 1);
        dueRead("below 0", 2, 1, 1, 2, 0, 3, -1, 1, 1);
        dueRead("the last may not", 1, 1, 1, 1, MOST);
        dueRead("half a one that may not", 1, 1, 1, 99);
        dueRead("the least", 0, LEAST, LEAST);
    }

    private static void readUpToEight() {
        Due.under("MISSED, 8 at most: from a SHEET");
        CatBeat x = new CatBeat();
        x.sheet(0, 0, 60);
        Due.due("read(0) of thirty", x.read(0), 8);
        Due.due("count(7)", x.count(7), 8);
        Due.due("read(0) where it is full", x.read(0), 0);
        Due.due("count(7)", x.count(7), 8);
        Due.due("count(8)", x.count(8), 0);
        x.forget();
        for (int i = 0; i < 7; i++) {
            x.missed(0, 0);
        }
        Due.due("read(0) where one may come", x.read(0), 1);
        CatBeat y = shortSighted("s.", "e.", "001");
        y.missed(0, 0);
        fill(y, 1, 1, 1, 0);
        Due.due("read(1) behind what is missed", y.read(1), 1);
        Due.due("count(7)", y.count(7), 2);
        Due.due("omitted(), both hold", y.omitted(), 1);
    }

    private static void readForms() {
        Due.under("MISSED from a SHEET (of any FORM)");
        for (int form = 0; form < 3; form++) {
            CatBeat x = shortSighted("s.", "e", "001");
            fill(x, form, form, 0, 1);
            Due.due("read(" + form + ")", x.read(form), 1);
            Due.due("omitted()", x.omitted(), 0);
            x.forget();
            fill(x, form, form, 0, 0);
            Due.due("read(" + form + ")", x.read(form), 1);
            Due.due("omitted()", x.omitted(), 1);
        }
        CatBeat cut = new CatBeat();
        fill(cut, 0, 0, 256 + 3, 256 + 1);
        Due.due("read(0), bytes cut to 3 and 1", cut.read(0), 1);
        fill(cut, 1, 1, 256 + 3, 1);
        Due.due("read(1), shorts that are not cut", cut.read(1), 0);
    }

    private static void readRefusals() {
        Due.under("how many. BAD; NULL.");
        CatBeat x = new CatBeat();
        int[] wrong = {-1, 4, LEAST, MOST};
        for (int s : wrong) {
            Due.due("read(" + s + ")", x.read(s), -2);
        }
        Due.due("count(8) behind BAD", x.count(8), 0);
        for (int s = 0; s < 4; s++) {
            Due.due("read(" + s + ") of a lost one", x.read(s), -11);
        }
        Due.due("count(8) behind NULL", x.count(8), 1);
        Due.due("count(7)", x.count(7), 0);
    }

    private static void omittedFromNoneToAll() {
        Due.under("OMITTED: STEPS of THE BEAT each of which, had it alone been left out, makes all that was MISSED come out so, as bits");
        Due.due("omitted() of no steps", Due.of("s", "", "001").omitted(), 0);
        Due.due("omitted() of 24, nothing missed", Due.of("", "n" + REST, "").omitted(), 16777215);
        CatBeat x = shortSighted("s.", REST + "e", "001");
        x.missed(0, 0);
        Due.due("omitted(), the last alone", x.omitted(), 1 << 23);
        x.forget();
        x.missed(0, 1);
        Due.due("omitted(), all but the last", x.omitted(), (1 << 23) - 1);
        x.missed(0, 1);
        Due.due("omitted(), told twice", x.omitted(), (1 << 23) - 1);
        x.missed(0, 0);
        Due.due("omitted(), against each other", x.omitted(), 0);
        CatBeat one = shortSighted("s.", "e", "001");
        one.missed(0, 0);
        Due.due("omitted(), the only step", one.omitted(), 1);
        CatBeat whole = from(35, shortSighted("......;......;......;......;......;.....s", "w", "351"));
        whole.missed(35, 0);
        Due.due("omitted(), the very last cell", whole.omitted(), 1);
    }

    private static void omittedFollowOneAnother() {
        Due.under("had it alone been left out (the others follow one another)");
        CatBeat x = shortSighted("s.", "e..w", "003");
        Due.due("takes(0)", x.takes(0), 3);
        x.missed(0, 0);
        Due.due("omitted()", x.omitted(), 7);
    }

    private static void meantOfCellsThatThereAre() {
        Due.under("MEANT of a THIEF: CELLS (that there are) that it may have wanted: how many; the i-th; NONE");
        CatBeat none = Due.of("", "", "001");
        Due.due("meant(0, NONE), no cells", none.meant(0, -1), 0);
        Due.due("meant(0, 0), no cells", none.meant(0, 0), -1);
        CatBeat whole = Due.of(OPEN_WARD, "", "391");
        Due.due("meant(0, NONE), all", whole.meant(0, -1), 36);
        for (int i = 0; i < 36; i++) {
            Due.due("meant(0, " + i + "), all", whole.meant(0, i), i);
        }
        CatBeat some = Due.of("...;...", "", "391");
        Due.due("meant(0, NONE) of six", some.meant(0, -1), 6);
        Due.due("meant(0, 5) of six", some.meant(0, 5), 5);
        Due.due("meant(0, 6) of six", some.meant(0, 6), -1);
        Due.due("meant(0, 35) of six", some.meant(0, 35), -1);
    }

    private static void meantLikewise() {
        Due.under("that it may have wanted, in place of its own, likewise");
        CatBeat x = shortSighted(".....;s...s", "", "005;091;101");
        x.missed(5, 1);
        Due.due("meant(0, NONE), only the shop", x.meant(0, -1), 1);
        Due.due("meant(0, 0), only the shop", x.meant(0, 0), 5);
        Due.due("meant(1, NONE), only the shop", x.meant(1, -1), 1);
        Due.due("meant(1, 0), only the shop", x.meant(1, 0), 5);
        x.forget();
        x.missed(9, 1);
        Due.due("meant(1, NONE)", x.meant(1, -1), 1);
        Due.due("meant(1, 0), its own", x.meant(1, 0), 9);
        Due.due("meant(1, 1)", x.meant(1, 1), -1);
        Due.due("meant(0, NONE), by another", x.meant(0, -1), 10);
        x.missed(5, 1);
        Due.due("meant(0, NONE), and the other shop", x.meant(0, -1), 1);
        Due.due("meant(0, 0), and the other shop", x.meant(0, 0), 5);
        Due.due("thief(0, 0) is kept", x.thief(0, 0), 0);
        x.missed(0, 1);
        Due.due("meant(0, NONE), from an open cell", x.meant(0, -1), 0);
        Due.due("meant(0, 0), from an open cell", x.meant(0, 0), -1);
        CatBeat y = shortSighted("s..", "", "001");
        y.missed(1, 0);
        Due.due("meant(0, NONE), nothing from an open cell", y.meant(0, -1), 3);
        y.missed(0, 0);
        Due.due("meant(0, NONE), nothing from a shop that is seen", y.meant(0, -1), 3);
        y.set(0, 1);
        Due.due("meant(0, NONE), the shop is unseen now", y.meant(0, -1), 2);
        Due.due("meant(0, 0), the shop is unseen now", y.meant(0, 0), 1);
    }

    private static void meantRefusals() {
        Due.under("MEANT: how many (i = NONE), the i-th (0 to 35; NONE). BAD.");
        CatBeat x = Due.of("s.", "", "001;011");
        int[] wrongThieves = {-1, 2, 8, LEAST, MOST};
        int[] wrong = {-2, 36, LEAST, MOST};
        for (int thief : wrongThieves) {
            Due.due("meant(" + thief + ", NONE)", x.meant(thief, -1), -2);
            Due.due("meant(" + thief + ", 0)", x.meant(thief, 0), -2);
        }
        for (int i : wrong) {
            Due.due("meant(1, " + i + ")", x.meant(1, i), -2);
        }
    }

    private static void askOfNoShops() {
        Due.under("ASK; NONE: there are no shops.");
        Due.due("ask() of a new one", new CatBeat().ask(), -1);
        Due.due("ask() without shops", Due.of(".#ld", "e", "001").ask(), -1);
        Due.due("ask() with a faulty ward", Due.of("s;", "e", "001").ask(), -1);
        Due.due("ask(), the very last", Due.of("......;......;......;......;......;.....s", "", "").ask(), 35);
    }

    private static void askOfLikeOnes() {
        Due.under("of like ones the least");
        Due.due("ask(), no steps", Due.of("##s.s", "", "021").ask(), 2);
        Due.due("ask(), no thieves", Due.of("##s.s", "ew", "").ask(), 2);
        CatBeat x = Due.of("s.s", "e", "021");
        x.missed(35, 1);
        Due.due("ask(), no step is left", x.ask(), 0);
        Due.due("ask(), taken from by all or by none", shortSighted("sss", "..", "016;014").ask(), 0);
        Due.due("ask(), like ones at the ends", shortSighted("sss", "ew", "025;006").ask(), 0);
    }

    /** Without the rest nothing is taken; without an e the second shop is, without a w the first. */
    private static void askTheGreatestIsLeast() {
        Due.under("the shop of which the greatest number of those STEPS by which it is taken from, or not, is least");
        CatBeat x = shortSighted("s.s", ".eeww", "004;025");
        Due.due("ask(), two of five by either", x.ask(), 0);
        x.missed(0, 0);
        Due.due("ask(), none of three by the first", x.ask(), 2);
        x.forget();
        x.missed(2, 0);
        Due.due("ask(), none of three by the second", x.ask(), 0);
        x.missed(0, 0);
        Due.due("ask(), one step is left", x.ask(), 0);
        Due.due("ask(), the whole beat is none of them", shortSighted("ss.", "ew", "016").ask(), 0);
        CatBeat y = shortSighted(".ss", "ew", "026");
        Due.due("ask(), by one of two", y.ask(), 2);
        y.missed(2, 0);
        Due.due("ask(), of those steps alone", y.ask(), 1);
    }

    private static void dueFog(CatBeat x, int c, int steps, int thief, long above, long below) {
        Due.due("fogged(" + c + ", " + steps + ", " + thief + ", 0)", x.fogged(c, steps, thief, 0), above);
        Due.due("fogged(" + c + ", " + steps + ", " + thief + ", 1)", x.fogged(c, steps, thief, 1), below);
    }

    /** Two cells away from a shop: it is seen but in fog. */
    private static CatBeat twoAway(String thieves) {
        return from(2, Due.of("s..", "", thieves));
    }

    private static void foggedByNoneAndByAll() {
        Due.under("there is FOG by c sixteenths (0 to 16)");
        CatBeat x = twoAway("001;009");
        for (int steps = 0; steps <= 9; steps++) {
            dueFog(x, 0, steps, 0, 0, 1);
            dueFog(x, 16, steps, 0, 1, 1);
            dueFog(x, 16, steps, 1, steps >= 8 ? 1 : 0, 1);
        }
        long[] above = {0, 1, 1, 3, 1, 5, 3, 7, 1, 9, 5, 11, 3, 13, 7, 15, 1};
        long[] below = {1, 16, 8, 16, 4, 16, 8, 16, 2, 16, 8, 16, 4, 16, 8, 16, 1};
        for (int c = 0; c <= 16; c++) {
            dueFog(x, c, 0, 0, above[c], below[c]);
        }
    }

    private static void foggedUpToATold() {
        Due.under("behind each number of STEPS up to a told one (0 to 9), by itself");
        CatBeat x = twoAway("001;002;009");
        for (int steps = 0; steps <= 9; steps++) {
            dueFog(x, 8, steps, 0, (2L << steps) - 1, 2L << steps);
        }
        dueFog(x, 8, 0, 1, 0, 1);
        dueFog(x, 8, 1, 1, 1, 4);
        dueFog(x, 8, 2, 1, 3, 8);
        dueFog(x, 8, 3, 1, 1, 2);
        dueFog(x, 8, 4, 1, 19, 32);
        dueFog(x, 8, 7, 2, 0, 1);
        dueFog(x, 8, 8, 2, 1, 512);
        dueFog(x, 8, 9, 2, 3, 1024);
    }

    /** Cells 2, 3, 4, 3, 2 and so on, with sight 3: behind 2, 6, 10 .. steps the shop is unseen without fog. */
    private static void foggedLaterNone() {
        Due.under("later none");
        CatBeat x = from(2, Due.of("s.....", "eeww", "001;002;003;004"));
        dueFog(x, 8, 0, 0, 1, 1);
        dueFog(x, 8, 0, 1, 0, 1);
        dueFog(x, 8, 1, 1, 1, 2);
        dueFog(x, 8, 2, 1, 1, 2);
        dueFog(x, 8, 3, 1, 3, 4);
        dueFog(x, 8, 4, 1, 3, 4);
        dueFog(x, 8, 2, 2, 1, 4);
        dueFog(x, 8, 3, 2, 3, 8);
        dueFog(x, 16, 2, 3, 0, 1);
        dueFog(x, 16, 3, 3, 1, 1);
    }

    private static void foggedInPlaceOfWhatIsTold() {
        Due.under("in place of what is told");
        CatBeat x = twoAway("001;009");
        x.set(3, 1);
        Due.due("takes(0) in the fog that is told", x.takes(0), 0);
        dueFog(x, 0, 9, 0, 0, 1);
        dueFog(x, 4, 0, 0, 1, 4);
        dueFog(x, 16, 7, 1, 0, 1);
        Due.due("FOG is kept", x.set(3, 1), 1);
        x.set(2, 1);
        dueFog(x, 0, 0, 0, 1, 1);
        dueFog(from(1, x), 16, 9, 0, 0, 1);
        x.set(2, 0);
        dueFog(x, 0, 0, 0, 1, 1);
        dueFog(from(0, x), 16, 9, 0, 0, 1);
    }

    private static void foggedInLowestTerms() {
        Due.under("FRACTIONS are told in lowest terms, above and below (0 by 1)");
        CatBeat x = twoAway("001;009");
        dueFog(x, 1, 9, 0, 522861237151L, 1L << 40);
        dueFog(x, 1, 9, 1, 31, 1L << 40);
        dueFog(x, 2, 9, 1, 15, 1L << 30);
        dueFog(x, 15, 9, 1, 653537109375L, 1L << 40);
        dueFog(x, 15, 9, 0, (1L << 40) - 1, 1L << 40);
        dueFog(x, 12, 1, 0, 15, 16);
        dueFog(x, 0, 9, 1, 0, 1);
        dueFog(x, 16, 9, 1, 1, 1);
    }

    private static void foggedOfNoShop() {
        Due.under("the chance that a THIEF takes something (no shop, no CELL, NOWHERE)");
        CatBeat x = from(2, Due.of("s..", "", "011;031;391;001"));
        dueFog(x, 16, 9, 0, 0, 1);
        dueFog(x, 16, 9, 1, 0, 1);
        dueFog(x, 16, 9, 2, 0, 1);
        dueFog(x, 16, 9, 3, 1, 1);
        dueFog(from(35, x), 0, 0, 3, 1, 1);
        dueFog(x, 0, 0, 2, 0, 1);
        dueFog(from(0, Due.of("#..s", "", "039")), 0, 0, 0, 1, 1);
    }

    private static void foggedRefusals() {
        Due.under("Where the answer is a long, a refusal -x is the least long and x more.");
        CatBeat x = twoAway("001");
        int[] wrongSixteenths = {-1, 17, LEAST, MOST};
        int[] wrongSteps = {-1, 10, LEAST, MOST};
        int[] wrongThieves = {-1, 1, 8, LEAST, MOST};
        int[] wrongWhats = {-1, 2, LEAST, MOST};
        for (int c : wrongSixteenths) {
            Due.due("fogged(" + c + ", 0, 0, 0)", x.fogged(c, 0, 0, 0), BAD_LONG);
        }
        for (int steps : wrongSteps) {
            Due.due("fogged(0, " + steps + ", 0, 0)", x.fogged(0, steps, 0, 0), BAD_LONG);
        }
        for (int thief : wrongThieves) {
            Due.due("fogged(0, 0, " + thief + ", 0)", x.fogged(0, 0, thief, 0), BAD_LONG);
        }
        for (int what : wrongWhats) {
            Due.due("fogged(0, 0, 0, " + what + ")", x.fogged(0, 0, 0, what), BAD_LONG);
        }
        Due.due("fogged of no thieves", new CatBeat().fogged(0, 0, 0, 0), BAD_LONG);
    }

    /** Goes in the middle of open cells, as far as its rows and columns let it. */
    private static void dueLots(int seed, String lots) {
        CatBeat x = from(14, Due.of(OPEN_WARD, "eeee", ""));
        int row = 2;
        int column = 2;
        for (int n = 1; n <= lots.length(); n++) {
            char step = lots.charAt(n - 1);
            row = Math.max(0, Math.min(5, row + (step == 's' ? 1 : step == 'n' ? -1 : 0)));
            column = Math.max(0, Math.min(5, column + (step == 'e' ? 1 : step == 'w' ? -1 : 0)));
            Due.due("nights(" + seed + ", " + n + ", 1)", x.nights(seed, n, 1), 6 * row + column);
        }
    }

    private static void lotsWrap() {
        Due.under("SEED becomes 1103515245 SEED and 12345, as ints that wrap; its upper 16 bits as a number from 0 on, modulo m");
        dueLots(0, "neenwnn.nn.sswsnwene..ne");
        dueLots(1, "weww.nwsne.s.wnesen..ene");
        dueLots(-1, "s.sew.wen.wsn..w.nnnws.n");
        dueLots(LEAST, "wwwsesweswen.enwews.eew.");
        dueLots(MOST, ".snweenwsse.wesessssn.ss");
        dueLots(65536, "s..wenw.wes.enenwwnn.nsw");
    }

    private static void lotsOfOneTo24() {
        Due.under("n STEPS (1 to 24)");
        CatBeat x = shortSighted(".s", "", "012;013;014");
        Due.due("nights(1, 1, 0), w round and round", x.nights(1, 1, 0), 3);
        Due.due("nights(1, 2, 0), we round and round", x.nights(1, 2, 0), 1);
        Due.due("nights(1, 24, 0)", x.nights(1, 24, 0), 3);
        int[] wrong = {0, -1, 25, LEAST, MOST};
        for (int n : wrong) {
            Due.due("nights(1, " + n + ", 0)", x.nights(1, n, 0), -2);
            Due.due("nights(1, " + n + ", 1)", x.nights(1, n, 1), -2);
        }
    }

    private static void lotsInPlaceOfTheBeat() {
        Due.under("in place of THE BEAT");
        CatBeat x = shortSighted(".s", "e", "012");
        Due.due("lost()", x.lost(), 0);
        Due.due("nights(1, 1, 0), w round and round", x.nights(1, 1, 0), 1);
        Due.due("nights(1, 1, 1)", x.nights(1, 1, 1), 0);
        Due.due("at(1) as before", x.at(1), 1);
        Due.due("beat(0) as before", x.beat(0), 1);
        Due.due("count(1) as before", x.count(1), 1);
        Due.due("lost() as before", x.lost(), 0);
    }

    private static void nightsFromNowhere() {
        Due.under("where the constable is behind as many STEPS; NONE");
        CatBeat x = from(1, Due.of("s", "", "001;002"));
        Due.due("nights(9, 9, 0)", x.nights(9, 9, 0), 2);
        Due.due("nights(9, 9, 1)", x.nights(9, 9, 1), -1);
        Due.due("nights(9, 24, 1) of a new one", new CatBeat().nights(9, 24, 1), -1);
        Due.due("nights(9, 24, 0) of a new one", new CatBeat().nights(9, 24, 0), 0);
    }

    private static void nightsRefusals() {
        Due.under("NIGHTS: how many (what = 0), where (1; NONE). BAD.");
        CatBeat x = Due.of("s", "", "001");
        int[] wrong = {-1, 2, LEAST, MOST};
        for (int what : wrong) {
            Due.due("nights(1, 1, " + what + ")", x.nights(1, 1, what), -2);
        }
    }
}

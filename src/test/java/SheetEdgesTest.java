import java.math.BigInteger;

/** The edges that the document names for sheets, counts and the digest (promises 29 to 36), sentence by sentence. */
public final class SheetEdgesTest {
    private static final int LEAST = Integer.MIN_VALUE, MOST = Integer.MAX_VALUE;
    private static final int NULL = -11, INDEX = -12, CAST = -13, STORE = -14, SIZE = -15;

    /** What the digest of a new object is made of: counts, faults, four numbers of steps, the night, beats, nights. */
    private static final int[] PARTS_OF_NOTHING = {0, 0, 0, 0, 0, 0, 0, 0, -1, -1, -1, -1, 0, 0, -1, 0, 0, -1, 0, 0,
        -1, 0, 0, 0, 0, 0, -1, 0, -1, -1, -1, -1, 0, 0, 0, -1, 0, -1};

    public static void main(String[] args) {
        lostAtFirst();
        upTo60Items();
        zeroAtFirst();
        sheetBad();
        sizeBelow0();
        loseOnce();
        loseRefusals();
        putLowestBits();
        putOrder();
        putIndex();
        getRefusals();
        getOrder();
        copyWithin();
        copyToTheEnds();
        copyOrder();
        copyIndex();
        writeAsManyAsItems();
        writeFromNowhere();
        writeRefusals();
        countEach();
        latestFinding();
        digestOfNothing();
        digestWraps();
        digestOfTheMost();
        digestOfToldNumbers();
        Due.end();
    }

    private static void dueFinding(CatBeat x, int number) {
        Due.due("count(8)", x.count(8), number);
    }

    private static CatBeat withSheet(int form, int n) {
        CatBeat x = new CatBeat();
        x.sheet(0, form, n);
        return x;
    }

    private static void dueItems(CatBeat x, int s, int form, int... want) {
        for (int i = 0; i < want.length; i++) {
            Due.due("item " + i + " of " + s, x.get(s, form, i), want[i]);
        }
    }

    private static void lostAtFirst() {
        Due.under("SHEETS 0 .. 3 are LOST (at first)");
        for (int s = 0; s < 4; s++) {
            Due.due("lose(" + s + ")", new CatBeat().lose(s), NULL);
            Due.due("put(" + s + ", 0, 0, 0)", new CatBeat().put(s, 0, 0, 0), NULL);
            Due.due("read(" + s + ")", new CatBeat().read(s), NULL);
            Due.due("write(" + s + ")", new CatBeat().write(s), NULL);
            CatBeat x = new CatBeat();
            Due.due("get(" + s + ", 0, 0)", x.get(s, 0, 0), LEAST);
            dueFinding(x, 1);
            x.sheet(s, 0, 1);
            for (int other = 0; other < 4; other++) {
                Due.due("lose(" + other + ") beside " + s, x.lose(other), other == s ? 1 : NULL);
            }
        }
    }

    private static void upTo60Items() {
        Due.under("a row of a FORM: 0 bytes, 1 shorts, 2 ints, of 0 to 60 items");
        for (int form = 0; form < 3; form++) {
            int[] sizes = {0, 1, 59, 60};
            for (int n : sizes) {
                CatBeat x = new CatBeat();
                Due.due("sheet(1, " + form + ", " + n + ")", x.sheet(1, form, n), n);
                Due.due("put at the end", x.put(1, form, n, 1), INDEX);
                Due.due("put at the last", x.put(1, form, n - 1, 1), n == 0 ? INDEX : 1);
                Due.due("lose(1)", x.lose(1), n);
            }
        }
    }

    private static void zeroAtFirst() {
        Due.under("items (0 at first); a SHEET is a new row");
        for (int form = 0; form < 3; form++) {
            CatBeat x = withSheet(form, 60);
            for (int i = 0; i < 60; i++) {
                Due.due("get, new", x.get(0, form, i), 0);
                x.put(0, form, i, i + 1);
            }
            x.sheet(0, form, 3);
            Due.due("get, beyond the new row", x.get(0, form, 3), LEAST);
            x.sheet(0, form, 60);
            for (int i = 0; i < 60; i++) {
                Due.due("get, new again", x.get(0, form, i), 0);
            }
            x.put(0, form, 0, 7);
            x.lose(0);
            x.sheet(0, form, 1);
            Due.due("get, behind lose", x.get(0, form, 0), 0);
        }
        CatBeat x = withSheet(2, 1);
        x.put(0, 2, 0, -1);
        x.sheet(0, 0, 1);
        Due.due("put as ints in a row of bytes now", x.put(0, 2, 0, 1), CAST);
        Due.due("get, of another form", x.get(0, 0, 0), 0);
    }

    private static void sheetBad() {
        Due.under("BAD: SHEET, FORM, above 60; SIZE.");
        CatBeat x = withSheet(1, 5);
        int[] wrongSheets = {-1, 4, LEAST, MOST};
        int[] wrongForms = {-1, 3, LEAST, MOST};
        int[] tooLarge = {61, 255, MOST};
        for (int s : wrongSheets) {
            Due.due("sheet(" + s + ", 0, 1)", x.sheet(s, 0, 1), -2);
            Due.due("sheet(" + s + ", 0, -1)", x.sheet(s, 0, -1), -2);
        }
        for (int form : wrongForms) {
            Due.due("sheet(0, " + form + ", 1)", x.sheet(0, form, 1), -2);
            Due.due("sheet(0, " + form + ", -1)", x.sheet(0, form, -1), -2);
        }
        for (int n : tooLarge) {
            Due.due("sheet(0, 0, " + n + ")", x.sheet(0, 0, n), -2);
        }
        dueFinding(x, 0);
        Due.due("the row is as it was", x.lose(0), 5);
    }

    private static void sizeBelow0() {
        Due.under("5 SIZE: below 0");
        int[] sizes = {-1, -60, LEAST};
        for (int n : sizes) {
            CatBeat x = withSheet(1, 2);
            x.put(0, 1, 1, 9);
            Due.due("sheet(0, 0, " + n + ")", x.sheet(0, 0, n), SIZE);
            dueFinding(x, 5);
            Due.due("the row is as it was", x.get(0, 1, 1), 9);
            Due.due("sheet(1, 0, " + n + ")", x.sheet(1, 0, n), SIZE);
            Due.due("sheet 1 is lost yet", x.lose(1), NULL);
        }
    }

    private static void loseOnce() {
        Due.under("It is LOST: how many items it had.");
        int[] sizes = {0, 1, 60};
        for (int n : sizes) {
            CatBeat x = withSheet(2, n);
            Due.due("lose(0)", x.lose(0), n);
            dueFinding(x, 0);
            Due.due("lose(0) again", x.lose(0), NULL);
            dueFinding(x, 1);
            Due.due("put in it", x.put(0, 2, 0, 1), NULL);
        }
    }

    private static void loseRefusals() {
        Due.under("It is LOST. BAD; NULL.");
        CatBeat x = withSheet(0, 1);
        int[] wrong = {-1, 4, LEAST, MOST};
        for (int s : wrong) {
            Due.due("lose(" + s + ")", x.lose(s), -2);
        }
        dueFinding(x, 0);
        Due.due("lose(3)", x.lose(3), NULL);
        dueFinding(x, 1);
    }

    private static void putLowestBits() {
        Due.under("becomes v (the lowest bits that it has): 1");
        int[] values = {0, 127, 128, 255, 256, -128, -129, 32767, 32768, 65535, 65536, -32768, -32769, LEAST, MOST};
        int[] bytes = {0, 127, -128, -1, 0, -128, 127, -1, 0, -1, 0, 0, -1, 0, -1};
        int[] shorts = {0, 127, 128, 255, 256, -128, -129, 32767, -32768, -1, 0, -32768, 32767, 0, -1};
        for (int k = 0; k < values.length; k++) {
            int[] want = {bytes[k], shorts[k], values[k]};
            for (int form = 0; form < 3; form++) {
                CatBeat x = withSheet(form, 3);
                Due.due("put " + values[k] + " as " + form, x.put(0, form, 1, values[k]), 1);
                dueItems(x, 0, form, 0, want[form], 0);
                dueFinding(x, 0);
            }
        }
    }

    private static void putOrder() {
        Due.under("Item i, treated as of a FORM: BAD; NULL; CAST; INDEX.");
        CatBeat x = withSheet(1, 2);
        int[] wrongSheets = {-1, 4, LEAST, MOST};
        int[] wrongForms = {-1, 3, LEAST, MOST};
        for (int s : wrongSheets) {
            Due.due("put(" + s + ", 1, 9, 1)", x.put(s, 1, 9, 1), -2);
        }
        for (int form : wrongForms) {
            Due.due("put(0, " + form + ", 9, 1)", x.put(0, form, 9, 1), -2);
            Due.due("put(1, " + form + ", 9, 1), lost", x.put(1, form, 9, 1), -2);
        }
        dueFinding(x, 0);
        Due.due("put(1, 0, 9, 1), lost", x.put(1, 0, 9, 1), NULL);
        dueFinding(x, 1);
        Due.due("put(0, 0, 9, 1), another form", x.put(0, 0, 9, 1), CAST);
        dueFinding(x, 3);
        Due.due("put(0, 1, 9, 1), no such item", x.put(0, 1, 9, 1), INDEX);
        dueFinding(x, 2);
        Due.due("put(0, 2, 0, 1), another form", x.put(0, 2, 0, 1), CAST);
        dueItems(x, 0, 1, 0, 0);
    }

    private static void putIndex() {
        Due.under("2 INDEX: there is no such item");
        for (int n = 0; n <= 2; n++) {
            CatBeat x = withSheet(2, n);
            int[] wrong = {-1, n, n + 1, 60, LEAST, MOST};
            for (int i : wrong) {
                Due.due("put(0, 2, " + i + ", 1) of " + n, x.put(0, 2, i, 1), INDEX);
                Due.due("get(0, 2, " + i + ") of " + n, x.get(0, 2, i), LEAST);
                dueFinding(x, 2);
            }
            for (int i = 0; i < n; i++) {
                Due.due("put(0, 2, " + i + ", 5) of " + n, x.put(0, 2, i, 5), 1);
                Due.due("get(0, 2, " + i + ") of " + n, x.get(0, 2, i), 5);
            }
        }
    }

    private static void getRefusals() {
        Due.under("BAD: the least int; so are NULL, CAST, INDEX (count() 8 tells).");
        CatBeat x = withSheet(2, 1);
        int[] wrong = {-1, 4, LEAST, MOST};
        for (int s : wrong) {
            Due.due("get(" + s + ", 2, 0)", x.get(s, 2, 0), LEAST);
        }
        int[] wrongForms = {-1, 3, LEAST, MOST};
        for (int form : wrongForms) {
            Due.due("get(0, " + form + ", 0)", x.get(0, form, 0), LEAST);
        }
        dueFinding(x, 0);
        x.put(0, 2, 0, LEAST);
        Due.due("get(0, 2, 0), the least int itself", x.get(0, 2, 0), LEAST);
        dueFinding(x, 0);
    }

    private static void getOrder() {
        Due.under("Item i of it. BAD; NULL; CAST; INDEX");
        CatBeat x = withSheet(1, 2);
        Due.due("get(1, 3, 9)", x.get(1, 3, 9), LEAST);
        dueFinding(x, 0);
        Due.due("get(1, 0, 9)", x.get(1, 0, 9), LEAST);
        dueFinding(x, 1);
        Due.due("get(0, 0, 9)", x.get(0, 0, 9), LEAST);
        dueFinding(x, 3);
        Due.due("get(0, 1, 9)", x.get(0, 1, 9), LEAST);
        dueFinding(x, 2);
        Due.due("get(0, 2, 0)", x.get(0, 2, 0), LEAST);
        dueFinding(x, 3);
        Due.due("get(0, 1, 1)", x.get(0, 1, 1), 0);
        dueFinding(x, 3);
    }

    private static CatBeat numbered(int form) {
        CatBeat x = withSheet(form, 5);
        x.sheet(1, form, 3);
        for (int i = 0; i < 5; i++) {
            x.put(0, form, i, i + 1);
        }
        return x;
    }

    private static void copyWithin() {
        Due.under("come to SHEET t (perhaps s, as they were)");
        for (int form = 0; form < 3; form++) {
            CatBeat up = numbered(form);
            Due.due("copy up", up.copy(0, 0, 0, 2, 3), 1);
            dueItems(up, 0, form, 1, 2, 1, 2, 3);
            CatBeat down = numbered(form);
            Due.due("copy down", down.copy(0, 2, 0, 0, 3), 1);
            dueItems(down, 0, form, 3, 4, 5, 4, 5);
            CatBeat same = numbered(form);
            Due.due("copy in place", same.copy(0, 0, 0, 0, 5), 1);
            dueItems(same, 0, form, 1, 2, 3, 4, 5);
            CatBeat other = numbered(form);
            Due.due("copy to another", other.copy(0, 2, 1, 0, 3), 1);
            dueItems(other, 1, form, 3, 4, 5);
            dueItems(other, 0, form, 1, 2, 3, 4, 5);
        }
    }

    private static void copyToTheEnds() {
        Due.under("n items of SHEET s, from i on, come to SHEET t, from j on: 1 (none, up to the end)");
        CatBeat x = numbered(2);
        Due.due("copy(0, 0, 1, 0, 0)", x.copy(0, 0, 1, 0, 0), 1);
        Due.due("copy(0, 5, 1, 3, 0)", x.copy(0, 5, 1, 3, 0), 1);
        dueItems(x, 1, 2, 0, 0, 0);
        Due.due("copy(0, 4, 1, 2, 1)", x.copy(0, 4, 1, 2, 1), 1);
        dueItems(x, 1, 2, 0, 0, 5);
        x.sheet(2, 2, 0);
        Due.due("copy(2, 0, 2, 0, 0), no items", x.copy(2, 0, 2, 0, 0), 1);
        Due.due("copy(2, 0, 1, 3, 0), no items", x.copy(2, 0, 1, 3, 0), 1);
        dueFinding(x, 0);
        Due.due("copy(2, 0, 1, 0, 1), no items", x.copy(2, 0, 1, 0, 1), INDEX);
        Due.due("copy(1, 0, 2, 0, 1), no items", x.copy(1, 0, 2, 0, 1), INDEX);
        Due.due("copy(2, 1, 1, 0, 0), no items", x.copy(2, 1, 1, 0, 0), INDEX);
        x.sheet(0, 2, 60);
        x.sheet(3, 2, 60);
        x.put(0, 2, 0, 1);
        x.put(0, 2, 59, 2);
        Due.due("copy(0, 0, 3, 0, 60)", x.copy(0, 0, 3, 0, 60), 1);
        Due.due("the first of 60", x.get(3, 2, 0), 1);
        Due.due("the last of 60", x.get(3, 2, 59), 2);
        Due.due("copy(0, 0, 3, 0, 61)", x.copy(0, 0, 3, 0, 61), INDEX);
    }

    private static void copyOrder() {
        Due.under("BAD: the SHEETS; NULL: s, t; STORE; INDEX: below 0, not so many.");
        CatBeat x = numbered(2);
        x.sheet(2, 1, 3);
        int[] wrong = {-1, 4, LEAST, MOST};
        for (int s : wrong) {
            Due.due("copy(" + s + ", -1, 3, -1, -1)", x.copy(s, -1, 3, -1, -1), -2);
            Due.due("copy(3, -1, " + s + ", -1, -1)", x.copy(3, -1, s, -1, -1), -2);
        }
        dueFinding(x, 0);
        Due.due("copy(3, -1, 2, -1, -1), from a lost one", x.copy(3, -1, 2, -1, -1), NULL);
        Due.due("copy(2, -1, 3, -1, -1), to a lost one", x.copy(2, -1, 3, -1, -1), NULL);
        Due.due("copy(3, 0, 3, 0, 0), within a lost one", x.copy(3, 0, 3, 0, 0), NULL);
        dueFinding(x, 1);
        Due.due("copy(0, -1, 2, -1, -1), unlike", x.copy(0, -1, 2, -1, -1), STORE);
        Due.due("copy(2, 0, 0, 0, 0), unlike and none", x.copy(2, 0, 0, 0, 0), STORE);
        dueFinding(x, 4);
        Due.due("copy(0, -1, 1, 0, 1)", x.copy(0, -1, 1, 0, 1), INDEX);
        dueFinding(x, 2);
    }

    private static void copyIndex() {
        Due.under("INDEX: below 0, not so many");
        CatBeat x = numbered(1);
        int[][] wrong = {{-1, 0, 0}, {0, -1, 0}, {0, 0, -1}, {6, 0, 0}, {0, 4, 0}, {5, 0, 1}, {0, 3, 1}, {3, 0, 3},
            {0, 1, 3}, {0, 0, 4}, {0, 0, 6}, {-1, 0, 1}, {-1, 0, 2}, {LEAST, 0, 1}, {0, LEAST, 1}, {0, 0, LEAST},
            {MOST, 0, 1}, {0, MOST, 1}, {0, 0, MOST}, {1, 1, MOST}, {MOST, MOST, MOST}, {LEAST, LEAST, LEAST}};
        for (int[] w : wrong) {
            Due.due("copy(0, " + w[0] + ", 1, " + w[1] + ", " + w[2] + ")", x.copy(0, w[0], 1, w[1], w[2]), INDEX);
        }
        dueFinding(x, 2);
        dueItems(x, 0, 1, 1, 2, 3, 4, 5);
        dueItems(x, 1, 1, 0, 0, 0);
    }

    private static void writeAsManyAsItems() {
        Due.under("behind 0 STEPS on comes to a SHEET from item 0 on, as many as there are items: how many");
        int[] sizes = {0, 1, 2, 59, 60};
        for (int n : sizes) {
            CatBeat x = Due.of("......", "ew", "");
            x.sheet(2, 0, n);
            Due.due("write(2) to " + n, x.write(2), n);
            for (int i = 0; i < n; i++) {
                Due.due("item " + i + " of " + n, x.get(2, 0, i), i % 2);
            }
            Due.due("lose(2)", x.lose(2), n);
        }
        CatBeat far = Due.of("......;......;......;......;......;......", "es", "");
        for (int form = 0; form < 3; form++) {
            far.sheet(form, form, 12);
            Due.due("write(" + form + ")", far.write(form), 12);
            dueItems(far, form, form, 0, 1, 7, 8, 14, 15, 21, 22, 28, 29, 35, 35);
        }
    }

    private static void writeFromNowhere() {
        Due.under("Where the constable is (NONE: NOWHERE)");
        for (int form = 0; form < 3; form++) {
            CatBeat x = withSheet(form, 60);
            Due.due("write(0)", x.write(0), 60);
            Due.due("the first", x.get(0, form, 0), -1);
            Due.due("the last", x.get(0, form, 59), -1);
            dueFinding(x, 0);
        }
    }

    private static void writeRefusals() {
        Due.under("how many. BAD; NULL. (write)");
        CatBeat x = Due.of(".", "", "");
        int[] wrong = {-1, 4, LEAST, MOST};
        for (int s : wrong) {
            Due.due("write(" + s + ")", x.write(s), -2);
        }
        dueFinding(x, 0);
        Due.due("write(3)", x.write(3), NULL);
        dueFinding(x, 1);
    }

    private static void countEach() {
        Due.under("0 CELLS, 1 STEPS of THE BEAT, 2 THIEVES, 3 to 5 bytes of texts, 6 shops, 7 MISSED, 8 the number of the latest FINDING. BAD.");
        CatBeat x = Due.of("ssssss;ssssss;ssssss;ssssss;ssssss;ssssss", "nesw.nesw.nesw.nesw.nesw", "001;001;001;001;001;001;001;001");
        for (int i = 0; i < 8; i++) {
            x.missed(i, 0);
        }
        int[] most = {36, 24, 8, 41, 24, 31, 36, 8, 0};
        for (int what = 0; what <= 8; what++) {
            Due.due("count(" + what + ")", x.count(what), most[what]);
        }
        int[] wrong = {-1, 9, LEAST, MOST};
        for (int what : wrong) {
            Due.due("count(" + what + ")", x.count(what), -2);
        }
        CatBeat faulty = Due.of("ss;s", "nx", "00");
        int[] withFaults = {0, 0, 0, 4, 2, 2, 0, 0, 0};
        for (int what = 0; what <= 8; what++) {
            Due.due("count(" + what + ") with faults", faulty.count(what), withFaults[what]);
        }
    }

    private static void latestFinding() {
        Due.under("8 the number of the latest FINDING (0 before any)");
        CatBeat x = new CatBeat();
        dueFinding(x, 0);
        x.type(0, -1);
        x.undo(0);
        x.lose(4);
        dueFinding(x, 0);
        x.sheet(0, 0, -1);
        dueFinding(x, 5);
        x.sheet(0, 0, 1);
        x.sheet(1, 2, 1);
        dueFinding(x, 5);
        x.copy(0, 0, 1, 0, 1);
        dueFinding(x, 4);
        x.put(0, 2, 0, 0);
        dueFinding(x, 3);
        x.get(0, 0, 1);
        dueFinding(x, 2);
        x.write(2);
        dueFinding(x, 1);
        x.put(0, 0, 0, 1);
        x.undo(0);
        x.lose(-1);
        dueFinding(x, 1);
    }

    private static void digestOfNothing() {
        Due.under("h is 17; h becomes 31 h and each of: .. (of no CELLS, STEPS, THIEVES)");
        long h = 17;
        for (int part : PARTS_OF_NOTHING) {
            h = 31 * h + part;
        }
        Due.due("digest()", new CatBeat().digest(), h);
        CatBeat faulty = Due.of("x", "", "");
        Due.dueTrue("a byte and a fault tell", faulty.digest() != h);
    }

    private static void digestWraps() {
        Due.under("as longs that wrap");
        BigInteger h = BigInteger.valueOf(17);
        for (int part : PARTS_OF_NOTHING) {
            h = h.multiply(BigInteger.valueOf(31)).add(BigInteger.valueOf(part));
        }
        Due.dueTrue("it is more than a long", h.bitLength() > 64);
        Due.due("digest()", new CatBeat().digest(), h.longValue());
    }

    private static void digestOfTheMost() {
        Due.under("h becomes 31 h and each of: .. (of the most CELLS, STEPS, THIEVES)");
        CatBeat x = Due.of("s..#.s;.l..d.;s.#..s;..s...;.d..l.;s....s", "eessww.nnesw.eessww.nnes", "001;052;123;174;205;306;357;359");
        Due.due("fault(0)", x.fault(0), -1);
        Due.due("fault(1)", x.fault(1), -1);
        Due.due("fault(2)", x.fault(2), -1);
        Due.due("digest()", x.digest(), Due.digestOf(x));
        CatBeat y = Due.of("s..#.s;.l..d.;s.#..s;..s...;.d..l.;s....s", "eessww.nnesw.eessww.nnes", "001;052;123;174;205;306;357;359");
        for (int i = 0; i < 8; i++) {
            y.missed(5 * i, i % 2);
        }
        Due.due("digest() with all that may be missed", y.digest(), Due.digestOf(y));
    }

    /** Where each number of steps leads elsewhere than its neighbours, the digest must ask about the told ones. */
    private static void digestOfToldNumbers() {
        Due.under("of numbers of STEPS 0, 7, 50, 95 at(), sees() 0, 1; .. nights(7, 12, 0 and 1)");
        CatBeat x = Due.of("......;......;......;......;......;......", "ew", "");
        x.set(0, 14);
        x.set(2, 1);
        int[] told = {0, 7, 50, 95};
        for (int steps : told) {
            Due.due("at(" + steps + ")", x.at(steps), 14 + steps % 2);
        }
        Due.due("nights(7, 11, 1)", x.nights(7, 11, 1), 8);
        Due.due("nights(7, 12, 1)", x.nights(7, 12, 1), 9);
        Due.due("nights(7, 13, 1)", x.nights(7, 13, 1), 3);
        Due.due("digest()", x.digest(), Due.digestOf(x));
    }
}

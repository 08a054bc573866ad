/** Promises 29 to 36: sheets and findings, count, digest. */
public final class SheetTest {
    private static final int LEAST = Integer.MIN_VALUE;

    public static void main(String[] args) {
        making();
        losing();
        putting();
        cutting();
        getting();
        copying();
        copyRefusals();
        writing();
        counting();
        digesting();
        Due.end();
    }

    private static void dueFinding(CatBeat x, int number) {
        Due.due("count(8)", x.count(8), number);
    }

    private static void making() {
        CatBeat x = new CatBeat();
        Due.due("sheet(-1, 0, 1)", x.sheet(-1, 0, 1), -2);
        Due.due("sheet(4, 0, 1)", x.sheet(4, 0, 1), -2);
        Due.due("sheet(0, -1, 1)", x.sheet(0, -1, 1), -2);
        Due.due("sheet(0, 3, 1)", x.sheet(0, 3, 1), -2);
        Due.due("sheet(0, 0, 61)", x.sheet(0, 0, 61), -2);
        Due.due("sheet(4, 0, -1)", x.sheet(4, 0, -1), -2);
        Due.due("sheet(0, 3, -1)", x.sheet(0, 3, -1), -2);
        dueFinding(x, 0);
        Due.due("sheet(0, 0, -1)", x.sheet(0, 0, -1), -15);
        dueFinding(x, 5);
        Due.due("sheet 0 is lost yet", x.lose(0), -11);
        dueFinding(x, 1);
        Due.due("sheet(3, 2, 60)", x.sheet(3, 2, 60), 60);
        Due.due("put at the last", x.put(3, 2, 59, 7), 1);
        Due.due("a refused one leaves it", x.sheet(3, 2, -5), -15);
        Due.due("get at the last", x.get(3, 2, 59), 7);
        Due.due("sheet(3, 2, 60) again", x.sheet(3, 2, 60), 60);
        Due.due("new items are 0", x.get(3, 2, 59), 0);
        Due.due("sheet(3, 1, 0)", x.sheet(3, 1, 0), 0);
        Due.due("no items", x.get(3, 1, 0), LEAST);
        dueFinding(x, 2);
    }

    private static void losing() {
        CatBeat x = new CatBeat();
        Due.due("lose(-1)", x.lose(-1), -2);
        Due.due("lose(4)", x.lose(4), -2);
        dueFinding(x, 0);
        x.sheet(2, 0, 7);
        Due.due("lose(2)", x.lose(2), 7);
        Due.due("lose(2) again", x.lose(2), -11);
        dueFinding(x, 1);
        x.sheet(2, 0, 0);
        Due.due("lose(2), no items", x.lose(2), 0);
    }

    private static void putting() {
        CatBeat x = new CatBeat();
        Due.due("put(-1, 0, 0, 0)", x.put(-1, 0, 0, 0), -2);
        Due.due("put(4, 0, 0, 0)", x.put(4, 0, 0, 0), -2);
        Due.due("put(0, -1, 0, 0)", x.put(0, -1, 0, 0), -2);
        Due.due("put(0, 3, 0, 0)", x.put(0, 3, 0, 0), -2);
        dueFinding(x, 0);
        Due.due("put in a lost one", x.put(0, 1, 9, 0), -11);
        dueFinding(x, 1);
        x.sheet(0, 1, 2);
        Due.due("put as bytes", x.put(0, 0, 9, 0), -13);
        dueFinding(x, 3);
        Due.due("put as ints", x.put(0, 2, 0, 5), -13);
        Due.due("put below", x.put(0, 1, -1, 0), -12);
        dueFinding(x, 2);
        Due.due("put above", x.put(0, 1, 2, 0), -12);
        Due.due("put", x.put(0, 1, 1, 5), 1);
        Due.due("get", x.get(0, 1, 1), 5);
        Due.due("get beside", x.get(0, 1, 0), 0);
        dueFinding(x, 2);
    }

    private static void cutting() {
        CatBeat x = new CatBeat();
        for (int form = 0; form < 3; form++) {
            x.sheet(form, form, 1);
        }
        int[] values = {127, 128, 255, 256, -129, 32767, 32768, 65535, 65536, -32769, LEAST, Integer.MAX_VALUE};
        for (int v : values) {
            for (int form = 0; form < 3; form++) {
                Due.due("put " + v, x.put(form, form, 0, v), 1);
            }
            Due.due("byte of " + v, x.get(0, 0, 0), (byte) v);
            Due.due("short of " + v, x.get(1, 1, 0), (short) v);
            Due.due("int of " + v, x.get(2, 2, 0), v);
        }
    }

    private static void getting() {
        CatBeat x = new CatBeat();
        Due.due("get(-1, 0, 0)", x.get(-1, 0, 0), LEAST);
        Due.due("get(4, 0, 0)", x.get(4, 0, 0), LEAST);
        Due.due("get(0, -1, 0)", x.get(0, -1, 0), LEAST);
        Due.due("get(0, 3, 0)", x.get(0, 3, 0), LEAST);
        dueFinding(x, 0);
        Due.due("get of a lost one", x.get(0, 0, -1), LEAST);
        dueFinding(x, 1);
        x.sheet(0, 0, 3);
        Due.due("get below", x.get(0, 0, -1), LEAST);
        dueFinding(x, 2);
        Due.due("get as ints, above", x.get(0, 2, 3), LEAST);
        dueFinding(x, 3);
        Due.due("get above", x.get(0, 0, 3), LEAST);
        dueFinding(x, 2);
        Due.due("get", x.get(0, 0, 2), 0);
        dueFinding(x, 2);
    }

    private static CatBeat numbered() {
        CatBeat x = new CatBeat();
        x.sheet(0, 2, 5);
        x.sheet(1, 2, 3);
        x.sheet(2, 1, 5);
        for (int i = 0; i < 5; i++) {
            x.put(0, 2, i, i + 1);
        }
        return x;
    }

    private static void dueItems(CatBeat x, int s, int... want) {
        for (int i = 0; i < want.length; i++) {
            Due.due("item " + i + " of " + s, x.get(s, 2, i), want[i]);
        }
    }

    private static void copying() {
        CatBeat x = numbered();
        Due.due("copy(0, 1, 1, 0, 3)", x.copy(0, 1, 1, 0, 3), 1);
        dueItems(x, 1, 2, 3, 4);
        Due.due("copy up within one", x.copy(0, 0, 0, 1, 4), 1);
        dueItems(x, 0, 1, 1, 2, 3, 4);
        Due.due("copy down within one", x.copy(0, 1, 0, 0, 4), 1);
        dueItems(x, 0, 1, 2, 3, 4, 4);
        Due.due("copy nothing, at the ends", x.copy(0, 5, 1, 3, 0), 1);
        dueItems(x, 0, 1, 2, 3, 4, 4);
        dueItems(x, 1, 2, 3, 4);
        dueFinding(x, 0);
    }

    private static void copyRefusals() {
        CatBeat x = numbered();
        Due.due("copy from -1", x.copy(-1, 0, 0, 0, 1), -2);
        Due.due("copy from 4", x.copy(4, 0, 0, 0, 1), -2);
        Due.due("copy to -1", x.copy(0, 0, -1, 0, 1), -2);
        Due.due("copy to 4", x.copy(3, 0, 4, 0, 1), -2);
        dueFinding(x, 0);
        Due.due("copy from a lost one", x.copy(3, 0, 2, -1, 1), -11);
        Due.due("copy to a lost one", x.copy(2, 0, 3, -1, 1), -11);
        dueFinding(x, 1);
        Due.due("copy of unlike forms", x.copy(0, -1, 2, 0, 1), -14);
        Due.due("copy nothing of unlike forms", x.copy(0, 0, 2, 0, 0), -14);
        dueFinding(x, 4);
        int[][] wrong = {{-1, 0, 1}, {0, -1, 1}, {0, 0, -1}, {3, 0, 3}, {0, 1, 3}, {6, 0, 0}, {0, 4, 0},
            {Integer.MAX_VALUE, 0, 1}, {0, 0, Integer.MAX_VALUE}, {1, 1, Integer.MAX_VALUE}, {LEAST, 0, LEAST}};
        for (int[] w : wrong) {
            Due.due("copy " + w[0] + " " + w[1] + " " + w[2], x.copy(0, w[0], 1, w[1], w[2]), -12);
            dueFinding(x, 2);
        }
        dueItems(x, 0, 1, 2, 3, 4, 5);
        dueItems(x, 1, 0, 0, 0);
    }

    private static void writing() {
        CatBeat x = Due.of("...", "eeww", "");
        Due.due("write(-1)", x.write(-1), -2);
        Due.due("write(4)", x.write(4), -2);
        dueFinding(x, 0);
        Due.due("write to a lost one", x.write(0), -11);
        dueFinding(x, 1);
        int[] round = {0, 1, 2, 1};
        for (int form = 0; form < 3; form++) {
            x.sheet(form, form, 60);
            Due.due("write(" + form + ")", x.write(form), 60);
            for (int i = 0; i < 60; i++) {
                Due.due("written " + i, x.get(form, form, i), round[i % 4]);
            }
        }
        x.set(0, 9);
        x.sheet(3, 0, 2);
        Due.due("write from nowhere", x.write(3), 2);
        Due.due("written from nowhere", x.get(3, 0, 1), -1);
        x.sheet(3, 0, 0);
        Due.due("write to no items", x.write(3), 0);
    }

    private static void counting() {
        CatBeat x = Due.of("s.;.s;ss", "ne", "001;002;003");
        x.missed(0, 0);
        int[] want = {6, 2, 3, 8, 2, 11, 4, 1, 0};
        for (int what = 0; what <= 8; what++) {
            Due.due("count(" + what + ")", x.count(what), want[what]);
        }
        Due.due("count(-1)", x.count(-1), -2);
        Due.due("count(9)", x.count(9), -2);
    }

    /** A shop that is seen but in fog, so that the digest must ask about fog with the right numbers. */
    private static CatBeat foggy() {
        CatBeat x = Due.of("s...s;.....;s...s", "", "001;002;043");
        x.set(0, 2);
        Due.dueTrue("fog for 5 or 6 steps", x.fogged(5, 5, 0, 0) != x.fogged(5, 6, 0, 0));
        Due.dueTrue("fog by 5 or 6", x.fogged(5, 5, 0, 0) != x.fogged(6, 5, 0, 0));
        return x;
    }

    /** Shops that are lost by one night of lots but not by another, likewise. */
    private static CatBeat drawn() {
        CatBeat x = Due.of("s.s;s..;..s", "", "009;029;034");
        x.set(2, 1);
        Due.dueTrue("lots, 12 or 13", x.nights(7, 12, 0) != x.nights(7, 13, 0));
        Due.dueTrue("lots, by 7 or 8", x.nights(7, 12, 0) != x.nights(8, 12, 0));
        return x;
    }

    private static void digesting() {
        Due.due("digest() of a new object", new CatBeat().digest(), -7431077176121857231L);
        CatBeat[] some = {
            new CatBeat(),
            Due.of("..s.;.#l.;s.ds", "eesswwnn", "023;083;119;021;104"),
            Due.of("#s#;s.s;#s#", "nwse.nn", "012;036;052;079"),
            Due.of("s.x", "nesw", "001"),
            Due.of("......;.s..s.;.#..#.;l....d;.s..s.;......", "eessww.nnes.", "073;105;256;289;072;391"),
            Due.of("......;......;......;..s..s;......;s....s", "es", "208;231"),
            foggy(),
            drawn(),
        };
        for (CatBeat x : some) {
            Due.due("digest()", x.digest(), Due.digestOf(x));
            x.missed(7, 1);
            x.set(0, 4);
            x.set(2, 1);
            Due.due("digest() behind changes", x.digest(), Due.digestOf(x));
            x.lose(0);
            long before = x.digest();
            x.sheet(0, 1, 5);
            Due.due("digest() is blind to sheets", x.digest(), before);
        }
    }
}

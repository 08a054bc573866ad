/** Promises 10 to 20: a night, and other beats. */
public final class NightTest {
    /** Over and back along two shops: the first is seen every fourth time, and so is the second. */
    private static final String STREET = "s.s", OVER_AND_BACK = "eeww";

    public static void main(String[] args) {
        walking();
        girth();
        nowhere();
        seeing();
        seeingFar();
        seenAndUnseen();
        taking();
        firstOfAll();
        sparing();
        trimming();
        beginning();
        recruiting();
        Due.end();
    }

    private static CatBeat shortSighted(String ward, String beat, String thieves) {
        CatBeat x = Due.of(ward, beat, thieves);
        x.set(2, 0);
        return x;
    }

    private static void walking() {
        CatBeat x = Due.of("...;.#.;...", "eesswwnn", "");
        int[] round = {0, 1, 2, 5, 8, 7, 6, 3};
        for (int steps = 0; steps < 96; steps++) {
            Due.due("at(" + steps + ") around", x.at(steps), round[steps % 8]);
        }
        Due.due("at(-1)", x.at(-1), -2);
        Due.due("at(96)", x.at(96), -2);
        x.set(0, 3);
        Due.due("at(1) before a wall", x.at(1), 3);
        x.set(0, 8);
        Due.due("at(1) at the edge", x.at(1), 8);
        x.wipe(1);
        Due.due("at(95) without a beat", x.at(95), 8);
        Due.typeAll(x, 1, ".");
        Due.due("at(95) with a staying one", x.at(95), 8);
        Due.typeAll(x, 1, "n");
        Due.due("at(1) .n", x.at(1), 8);
        Due.due("at(2) .n", x.at(2), 5);
        Due.due("at(95) .n", x.at(95), 2);
    }

    private static void girth() {
        CatBeat x = Due.of(".l", "e", "");
        x.set(1, 8);
        Due.due("a ledge for 8", x.at(1), 0);
        x.set(1, 7);
        Due.due("a ledge for 7", x.at(1), 1);
        CatBeat y = Due.of(".d", "e", "");
        y.set(1, 3);
        Due.due("a drain for 3", y.at(1), 0);
        y.set(1, 2);
        Due.due("a drain for 2", y.at(1), 1);
        CatBeat z = Due.of(".s", "e", "");
        z.set(1, 9);
        Due.due("a shop for 9", z.at(1), 1);
    }

    private static void nowhere() {
        CatBeat x = Due.of("#d.", "e", "");
        Due.due("at a wall", x.at(0), -1);
        Due.due("at a wall, later", x.at(95), -1);
        Due.due("sees from nowhere", x.sees(5, 0), 0);
        Due.due("seen from nowhere", x.seen(2, 0), 0);
        Due.due("unseen from nowhere", x.seen(2, 1), 96);
        x.set(0, 1);
        Due.due("in a drain, too big", x.at(0), -1);
        x.set(1, 2);
        Due.due("in a drain, small", x.at(0), 1);
        x.set(0, 3);
        Due.due("at no cell", x.at(0), -1);
        x.set(0, 2);
        Due.due("at a cell", x.at(0), 2);
    }

    private static void seeing() {
        CatBeat x = Due.of("......", "", "");
        Due.due("sight 3", x.sees(0, 0), 15);
        x.set(2, 0);
        Due.due("sight 0", x.sees(0, 0), 1);
        x.set(3, 1);
        Due.due("sight 0 in fog", x.sees(0, 0), 1);
        x.set(2, 9);
        Due.due("sight 9 in fog", x.sees(0, 0), 3);
        x.set(3, 0);
        Due.due("sight 9", x.sees(0, 0), 63);
        Due.due("sight 9, the other half", x.sees(0, 1), 0);
        Due.due("to a wall", Due.of(".#.", "", "").sees(0, 0), 1);
        Due.due("to a wall behind a cell", Due.of("..#.", "", "").sees(0, 0), 3);
        CatBeat y = Due.of(".sld.", "", "");
        y.set(2, 4);
        Due.due("through all but walls", y.sees(0, 0), 31);
        Due.due("sees(-1, 0)", x.sees(-1, 0), -2);
        Due.due("sees(96, 0)", x.sees(96, 0), -2);
        Due.due("sees(0, 2)", x.sees(0, 2), -2);
        Due.due("sees(0, -1)", x.sees(0, -1), -2);
        CatBeat z = Due.of("...;...;...", "", "");
        z.set(0, 4);
        Due.due("in four directions, none aslant", z.sees(0, 0), 2 + 8 + 16 + 32 + 128);
        CatBeat line = Due.of(".;.;.;.", "", "");
        line.set(2, 2);
        Due.due("down a column", line.sees(0, 0), 7);
        Due.due("not around the edge", Due.of("..;..", "", "").sees(0, 0), 7);
    }

    private static void seeingFar() {
        CatBeat x = Due.of("......;......;......;......;......;......", "", "");
        x.set(0, 35);
        Due.due("upper half, 3", x.sees(0, 0), 131072);
        Due.due("lower half, 3", x.sees(0, 1), 247840);
        x.set(2, 9);
        Due.due("upper half, 9", x.sees(0, 0), 133152);
        Due.due("lower half, 9", x.sees(0, 1), 260128);
    }

    private static void seenAndUnseen() {
        CatBeat x = shortSighted("s..", "ee", "");
        long[][] want = {{1, 95}, {1, 94}, {94, 2}};
        for (int cell = 0; cell < 3; cell++) {
            Due.due("seen(" + cell + ", 0)", x.seen(cell, 0), want[cell][0]);
            Due.due("seen(" + cell + ", 1)", x.seen(cell, 1), want[cell][1]);
        }
        Due.due("seen(3, 0)", x.seen(3, 0), -2);
        Due.due("seen(-1, 0)", x.seen(-1, 0), -2);
        Due.due("seen(0, 2)", x.seen(0, 2), -2);
        Due.due("seen(0, -1)", x.seen(0, -1), -2);
    }

    private static void taking() {
        CatBeat x = shortSighted(STREET, OVER_AND_BACK, "003;004;022;023;024;011;391;361");
        int[] want = {3, -1, 1, 5, -1, -1, -1, -1};
        for (int thief = 0; thief < want.length; thief++) {
            Due.due("takes(" + thief + ")", x.takes(thief), want[thief]);
        }
        Due.due("takes(8)", x.takes(8), -2);
        Due.due("takes(-1)", x.takes(-1), -2);
        Due.due("lost()", x.lost(), 3);
        Due.due("safe(0)", x.safe(0), 0);
        CatBeat y = shortSighted(STREET, OVER_AND_BACK, "003;024;011");
        Due.due("safe(0), one taken from", y.safe(0), 4);
        Due.due("safe(1), one taken from", y.safe(1), 0);
        Due.due("lost(), one", y.lost(), 1);
        y.wipe(2);
        Due.due("safe(0), no thieves", y.safe(0), 5);
        Due.due("lost(), no thieves", y.lost(), 0);
        Due.due("safe(2)", y.safe(2), -2);
        Due.due("safe(-1)", y.safe(-1), -2);
        CatBeat z = Due.of("......;......;......;s.....", "", "181");
        z.set(2, 0);
        Due.due("safe(1), taken from", z.safe(1), 0);
        z.wipe(2);
        Due.due("safe(1)", z.safe(1), 1);
    }

    private static void firstOfAll() {
        Due.due("first()", shortSighted(STREET, OVER_AND_BACK, "003;023;022").first(), 2);
        Due.due("first() of like ones", shortSighted(STREET, OVER_AND_BACK, "004;003;003").first(), 1);
        Due.due("first() of none", shortSighted(STREET, OVER_AND_BACK, "004;011").first(), -1);
        Due.due("first() at once", shortSighted(STREET, OVER_AND_BACK, "003;021").first(), 1);
    }

    private static void sparing() {
        Due.due("spare() of none", shortSighted(STREET, OVER_AND_BACK, "004;024").spare(), 0);
        Due.due("spare() of a rest", shortSighted(STREET, ".eeww", "004;025").spare(), 1);
        Due.due("spare() without thieves", shortSighted(STREET, ".eeww", "").spare(), 31);
        Due.due("spare() where all is lost", shortSighted(STREET, "e", "021;001").spare(), 1);
        Due.due("spare() of the most", Due.of(".", "nesw.nesw.nesw.nesw.nesw", "").spare(), (1 << 24) - 1);
    }

    private static void dueTrim(String name, CatBeat x, int howMany, int one, int two) {
        Due.due("trim(NONE) " + name, x.trim(-1), howMany);
        Due.due("trim(0) " + name, x.trim(0), one);
        Due.due("trim(1) " + name, x.trim(1), two);
        Due.due("trim(-2) " + name, x.trim(-2), -2);
        Due.due("trim(2) " + name, x.trim(2), -2);
    }

    private static void trimming() {
        dueTrim("one rest", shortSighted(STREET, ".eeww", "024"), 1, 0, -1);
        dueTrim("two rests", shortSighted(STREET, "..eeww", "024"), 2, 0, 1);
        dueTrim("nothing lost", shortSighted(STREET, OVER_AND_BACK, "004"), -1, -1, -1);
        dueTrim("nothing helps", shortSighted(STREET, OVER_AND_BACK, "021"), -1, -1, -1);
        dueTrim("the whole beat", shortSighted("s.", "e", "001"), 1, 0, -1);
        dueTrim("the whole beat of two", shortSighted("s..", "ee", "001"), 2, 0, 1);
        dueTrim("no beat", shortSighted(STREET, "", "021"), -1, -1, -1);
        CatBeat x = shortSighted(STREET, ".eeww", "024");
        dueTrim("before a change", x, 1, 0, -1);
        x.type(1, '.');
        x.undo(1);
        x.undo(2);
        x.type(2, '9');
        dueTrim("behind a change", x, -1, -1, -1);
    }

    private static void beginning() {
        CatBeat x = shortSighted(STREET, "", "001;021");
        Due.due("begin(0) of like ones", x.begin(0), 0);
        Due.due("begin(1) of like ones", x.begin(1), 1);
        CatBeat y = shortSighted(STREET, "", "001;021;022");
        Due.due("begin(0)", y.begin(0), 2);
        Due.due("begin(1)", y.begin(1), 1);
        Due.due("begin(2)", y.begin(2), -2);
        Due.due("begin(-1)", y.begin(-1), -2);
        Due.due("begin changes nothing", y.at(0), 0);
        CatBeat z = Due.of("#d", "", "");
        Due.due("begin(0) without a cell", z.begin(0), -1);
        Due.due("begin(1) without a cell", z.begin(1), -1);
        z.set(1, 2);
        Due.due("begin(0) in a drain", z.begin(0), 1);
        Due.due("begin(1) in a drain", z.begin(1), 0);
    }

    private static void recruiting() {
        CatBeat x = shortSighted("sd.", "e", "001");
        Due.due("recruit(0), too big for a drain", x.recruit(0), 3);
        Due.due("recruit(1), too big for a drain", x.recruit(1), 0);
        CatBeat y = shortSighted("sl.", "e", "001;002");
        Due.due("recruit(0), too big for a ledge", y.recruit(0), 8);
        Due.due("recruit(1), too big for a ledge", y.recruit(1), 0);
        CatBeat z = Due.of("ls", "", "011");
        z.set(1, 9);
        Due.due("recruit(0), of like ones", z.recruit(0), 0);
        Due.due("recruit(1), of like ones", z.recruit(1), 0);
        Due.due("recruit changes nothing", z.at(0), -1);
        CatBeat far = shortSighted(".s", "", "011");
        Due.due("recruit(0), nobody helps", far.recruit(0), 0);
        Due.due("recruit(1), nobody helps", far.recruit(1), 1);
        far.set(2, 9);
        far.set(3, 1);
        Due.due("recruit(1), in fog", far.recruit(1), 0);
        Due.due("recruit(2)", x.recruit(2), -2);
        Due.due("recruit(-1)", x.recruit(-1), -2);
    }
}

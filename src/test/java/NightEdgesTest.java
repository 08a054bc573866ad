/** The edges that the document names for a night and for other beats (promises 10 to 20), sentence by sentence. */
public final class NightEdgesTest {
    private static final int LEAST = Integer.MIN_VALUE, MOST = Integer.MAX_VALUE;
    private static final String OPEN_WARD = "......;......;......;......;......;......";
    private static final String REST = ".......................";

    public static void main(String[] args) {
        numbersOfSteps();
        nowhereAtNoCell();
        nowhereAtAWall();
        nowhereByGirth();
        staysAtTheEdges();
        staysBeforeWhatIsNotForIt();
        roundAndRound();
        withoutABeat();
        sightUpTo();
        sightEndsAtTheEdges();
        sightEndsAtWalls();
        fogIsOneAtMost();
        twoHalves();
        seesRefusals();
        seenFrom0To96();
        unseenIsNotJoined();
        seenRefusals();
        onlyFromShops();
        takesBehindTheLast();
        takesAtTheEndOfTheNight();
        takesRefusals();
        safeHalves();
        lostFrom0To8();
        firstOfLikeOnes();
        spareFromNoneToAll();
        trimOneAheadOfTwo();
        trimTheLeastRow();
        trimOfTooFew();
        trimRefusals();
        beginOfNoCell();
        beginOfLikeOnes();
        beginRefusals();
        recruitByGirth();
        recruitRefusals();
        Due.end();
    }

    private static CatBeat shortSighted(String ward, String beat, String thieves) {
        CatBeat x = Due.of(ward, beat, thieves);
        x.set(2, 0);
        return x;
    }

    private static CatBeat from(int start, CatBeat x) {
        x.set(0, start);
        return x;
    }

    private static void numbersOfSteps() {
        Due.under("Behind so many STEPS (0 to 95) where the constable is");
        CatBeat x = Due.of(OPEN_WARD, "e", "");
        Due.due("at(0)", x.at(0), 0);
        Due.due("at(1)", x.at(1), 1);
        Due.due("at(94)", x.at(94), 5);
        Due.due("at(95)", x.at(95), 5);
        int[] wrong = {-1, 96, -2, LEAST, MOST};
        for (int steps : wrong) {
            Due.due("at(" + steps + ")", x.at(steps), -2);
        }
        Due.due("at(96) from nowhere", from(1, Due.of(".", "", "")).at(96), -2);
    }

    private static void dueNowhere(CatBeat x) {
        Due.due("at(0)", x.at(0), -1);
        Due.due("at(1)", x.at(1), -1);
        Due.due("at(95)", x.at(95), -1);
        Due.due("sees(0, 0)", x.sees(0, 0), 0);
        Due.due("sees(95, 1)", x.sees(95, 1), 0);
    }

    private static void nowhereAtNoCell() {
        Due.under("NOWHERE, if there is no such CELL");
        dueNowhere(new CatBeat());
        dueNowhere(from(1, Due.of(".", "w", "")));
        dueNowhere(from(35, Due.of("......;......;......;......;......", "n", "")));
        dueNowhere(from(30, Due.of("......;......;......;......;......", "n", "")));
        Due.due("at(0) at the last cell", from(29, Due.of("......;......;......;......;......", "n", "")).at(0), 29);
        Due.due("at(0) at the very last", from(35, Due.of(OPEN_WARD, "n", "")).at(0), 35);
        CatBeat x = from(3, Due.of("....", "w", ""));
        Due.due("at(0), the cell is there", x.at(0), 3);
        x.undo(0);
        Due.due("at(0), the cell is undone", x.at(0), -1);
    }

    private static void nowhereAtAWall() {
        Due.under("NOWHERE, if it is a wall");
        for (int girth = 0; girth <= 9; girth++) {
            CatBeat x = Due.of("#.", "e", "");
            x.set(1, girth);
            dueNowhere(x);
        }
    }

    private static void nowhereByGirth() {
        Due.under("CELLS for it: open ones, shops; ledges for GIRTH 7 or less; drains for GIRTH 2 or less.");
        String kinds = ".#sld";
        int[] greatest = {9, -1, 9, 7, 2};
        for (int kind = 0; kind < 5; kind++) {
            for (int girth = 0; girth <= 9; girth++) {
                CatBeat x = Due.of(kinds.substring(kind, kind + 1) + ".", "ew", "");
                x.set(1, girth);
                boolean fits = girth <= greatest[kind];
                Due.due("at(0) on " + kinds.charAt(kind) + ", girth " + girth, x.at(0), fits ? 0 : -1);
                x.set(0, 1);
                Due.due("at(2) beside " + kinds.charAt(kind) + ", girth " + girth, x.at(2), fits ? 0 : 1);
            }
        }
    }

    private static void staysAtTheEdges() {
        Due.under("it goes by one CELL (n up, s down) if there is one for it; else, and with ., it stays");
        String steps = "nesw.";
        int[][] to = {{0, 1, 3, 0, 0}, {1, 2, 4, 0, 1}, {2, 2, 5, 1, 2}, {0, 4, 6, 3, 3}, {1, 5, 7, 3, 4},
            {2, 5, 8, 4, 5}, {3, 7, 6, 6, 6}, {4, 8, 7, 6, 7}, {5, 8, 8, 7, 8}};
        for (int cell = 0; cell < 9; cell++) {
            for (int step = 0; step < 5; step++) {
                CatBeat x = from(cell, Due.of("...;...;...", steps.substring(step, step + 1), ""));
                Due.due("at(1) from " + cell + " by " + steps.charAt(step), x.at(1), to[cell][step]);
            }
        }
        for (int step = 0; step < 5; step++) {
            Due.due("at(95) in a single cell", Due.of(".", steps.substring(step, step + 1), "").at(95), 0);
        }
    }

    private static void staysBeforeWhatIsNotForIt() {
        Due.under("if there is one for it; else it stays (walls, ledges, drains)");
        String steps = "nesw";
        for (int step = 0; step < 4; step++) {
            CatBeat wall = from(4, Due.of("###;#.#;###", steps.substring(step, step + 1), ""));
            Due.due("at(95) before a wall, " + steps.charAt(step), wall.at(95), 4);
            CatBeat ledge = from(4, Due.of("lll;l.l;lll", steps.substring(step, step + 1), ""));
            ledge.set(1, 8);
            Due.due("at(95) before a ledge, " + steps.charAt(step), ledge.at(95), 4);
            CatBeat drain = from(4, Due.of("ddd;d.d;ddd", steps.substring(step, step + 1), ""));
            drain.set(1, 3);
            Due.due("at(95) before a drain, " + steps.charAt(step), drain.at(95), 4);
        }
    }

    private static void roundAndRound() {
        Due.under("In STEP after STEP (those of THE BEAT, round and round)");
        CatBeat x = Due.of("......", "e" + REST, "");
        int[] turns = {0, 1, 24, 25, 48, 49, 72, 73, 95};
        int[] places = {0, 1, 1, 2, 2, 3, 3, 4, 4};
        for (int i = 0; i < turns.length; i++) {
            Due.due("at(" + turns[i] + ") by 24 steps", x.at(turns[i]), places[i]);
        }
        CatBeat y = Due.of("..", "ew.", "");
        for (int steps = 0; steps < 96; steps++) {
            Due.due("at(" + steps + ") by 3 steps", y.at(steps), steps % 3 == 1 ? 1 : 0);
        }
    }

    private static void withoutABeat() {
        Due.under("an empty BEAT: the constable stays at START");
        CatBeat x = from(7, Due.of(OPEN_WARD, "", ""));
        Due.due("at(0)", x.at(0), 7);
        Due.due("at(1)", x.at(1), 7);
        Due.due("at(95)", x.at(95), 7);
        Due.due("seen(7, 0)", x.seen(7, 0), 96);
        Due.due("seen(35, 1)", x.seen(35, 1), 96);
    }

    private static void sightUpTo() {
        Due.under("CELLS up to SIGHT away (SIGHT 0 to 9)");
        int[] east = {1, 3, 7, 15, 31, 63, 63, 63, 63, 63};
        int[] west = {32, 48, 56, 60, 62, 63, 63, 63, 63, 63};
        for (int sight = 0; sight <= 9; sight++) {
            CatBeat x = Due.of("......", "", "");
            x.set(2, sight);
            Due.due("to the east, sight " + sight, x.sees(0, 0), east[sight]);
            Due.due("to the west, sight " + sight, from(5, x).sees(0, 0), west[sight]);
            CatBeat y = Due.of(".;.;.;.;.;.", "", "");
            y.set(2, sight);
            Due.due("to the south, sight " + sight, y.sees(0, 0), east[sight]);
            Due.due("to the north, sight " + sight, from(5, y).sees(0, 0), west[sight]);
        }
    }

    private static void sightEndsAtTheEdges() {
        Due.under("in each of the four directions (not around the edges, not aslant)");
        int[] want = {1 + 2 + 4 + 8 + 64, 1 + 2 + 4 + 16 + 128, 1 + 2 + 4 + 32 + 256, 8 + 16 + 32 + 1 + 64,
            16 + 8 + 32 + 2 + 128, 32 + 8 + 16 + 4 + 256, 64 + 128 + 256 + 1 + 8, 128 + 64 + 256 + 2 + 16,
            256 + 64 + 128 + 4 + 32};
        for (int cell = 0; cell < 9; cell++) {
            CatBeat x = from(cell, Due.of("...;...;...", "", ""));
            x.set(2, 9);
            Due.due("sees(0, 0) from " + cell, x.sees(0, 0), want[cell]);
        }
    }

    private static void sightEndsAtWalls() {
        Due.under("to the first wall (which it does not see; shops, ledges, drains it sees through)");
        Due.due("between walls", from(4, Due.of(".#.;#.#;.#.", "", "")).sees(0, 0), 16);
        Due.due("a wall to the north alone", from(4, Due.of(".#.;...;...", "", "")).sees(0, 0), 8 + 16 + 32 + 128);
        Due.due("a wall to the west alone", from(4, Due.of("...;#..;...", "", "")).sees(0, 0), 2 + 16 + 32 + 128);
        Due.due("a wall at the edge of sight", Due.of("...#..", "", "").sees(0, 0), 7);
        Due.due("a wall beyond sight", Due.of("....#.", "", "").sees(0, 0), 15);
        Due.due("two walls", from(2, Due.of("#...#.", "", "")).sees(0, 0), 2 + 4 + 8);
        CatBeat x = Due.of(".sldsl", "", "");
        x.set(2, 5);
        Due.due("through shops, ledges, drains", x.sees(0, 0), 63);
        x.set(1, 9);
        Due.due("whatever the girth", x.sees(0, 0), 63);
    }

    private static void fogIsOneAtMost() {
        Due.under("In FOG (0 or 1; 0 at first) SIGHT is 1 at most.");
        for (int sight = 0; sight <= 9; sight++) {
            CatBeat x = from(2, Due.of(".....", "", ""));
            x.set(2, sight);
            x.set(3, 1);
            Due.due("in fog, sight " + sight, x.sees(0, 0), sight == 0 ? 4 : 14);
            Due.due("sight is kept", x.set(2, sight), sight);
            x.set(3, 0);
            Due.due("out of it, sight " + sight, x.sees(0, 0), sight == 0 ? 4 : sight == 1 ? 14 : 31);
        }
    }

    private static void twoHalves() {
        Due.under("what it SEES, as two numbers of bits (CELLS 0 to 17, 18 to 35)");
        CatBeat x = shortSighted(OPEN_WARD, "", "");
        for (int cell = 0; cell < 36; cell++) {
            x.set(0, cell);
            Due.due("sees(0, 0) from " + cell, x.sees(0, 0), cell < 18 ? 1 << cell : 0);
            Due.due("sees(0, 1) from " + cell, x.sees(0, 1), cell < 18 ? 0 : 1 << cell - 18);
        }
        x.set(2, 9);
        Due.due("sees(0, 0) from 35, far", x.sees(0, 0), 1 << 5 | 1 << 11 | 1 << 17);
        Due.due("sees(0, 1) from 35, far", x.sees(0, 1), 1 << 5 | 1 << 11 | 63 << 12);
    }

    private static void seesRefusals() {
        Due.under("What it SEES, CELLS 0 to 17 (half = 0), 18 to 35 (1), as bits. BAD.");
        CatBeat x = Due.of("..", "", "");
        int[] wrongSteps = {-1, 96, LEAST, MOST};
        int[] wrongHalves = {-1, 2, LEAST, MOST};
        for (int steps : wrongSteps) {
            Due.due("sees(" + steps + ", 0)", x.sees(steps, 0), -2);
            Due.due("sees(" + steps + ", 1)", x.sees(steps, 1), -2);
        }
        for (int half : wrongHalves) {
            Due.due("sees(0, " + half + ")", x.sees(0, half), -2);
        }
        Due.due("sees(95, 0)", x.sees(95, 0), 3);
        Due.due("sees(95, 1)", x.sees(95, 1), 0);
    }

    private static void seenFrom0To96() {
        Due.under("SEEN of a CELL: behind how many of the 96 it is SEEN; UNSEEN");
        CatBeat x = shortSighted("#..", "", "");
        x.set(0, 1);
        int[][] want = {{0, 96}, {96, 0}, {0, 96}};
        for (int cell = 0; cell < 3; cell++) {
            Due.due("seen(" + cell + ", 0)", x.seen(cell, 0), want[cell][0]);
            Due.due("seen(" + cell + ", 1)", x.seen(cell, 1), want[cell][1]);
        }
        x.set(0, 0);
        Due.due("seen(1, 0) from nowhere", x.seen(1, 0), 0);
        Due.due("seen(1, 1) from nowhere", x.seen(1, 1), 96);
        CatBeat late = from(4, Due.of("....s", "......................w.", ""));
        Due.due("seen(4, 0) but behind 95", late.seen(4, 0), 95);
        Due.due("seen(4, 1) but behind 95", late.seen(4, 1), 1);
    }

    private static void unseenIsNotJoined() {
        Due.under("the greatest number of these one behind the other at which it is not");
        CatBeat x = shortSighted(".s.", "e", "");
        Due.due("seen(1, 0)", x.seen(1, 0), 1);
        Due.due("seen(1, 1), 1 ahead and 94 behind", x.seen(1, 1), 94);
        CatBeat y = shortSighted("...", "..eeww", "");
        Due.due("seen(0, 1)", y.seen(0, 1), 3);
        Due.due("seen(2, 1), 4 ahead, 5 between", y.seen(2, 1), 5);
        Due.due("seen(1, 1)", y.seen(1, 1), 3);
    }

    private static void seenRefusals() {
        Due.under("SEEN (what = 0), UNSEEN (1) of a CELL that there is. BAD.");
        CatBeat x = Due.of("..;..", "", "");
        int[] wrong = {-1, 4, 35, 36, LEAST, MOST};
        for (int cell : wrong) {
            Due.due("seen(" + cell + ", 0)", x.seen(cell, 0), -2);
            Due.due("seen(" + cell + ", 1)", x.seen(cell, 1), -2);
        }
        int[] wrongWhats = {-1, 2, LEAST, MOST};
        for (int what : wrongWhats) {
            Due.due("seen(0, " + what + ")", x.seen(0, what), -2);
        }
        Due.due("seen(3, 0), the last", x.seen(3, 0), 0);
        CatBeat whole = Due.of(OPEN_WARD, "", "");
        Due.due("seen(35, 1) of 36", whole.seen(35, 1), 96);
        Due.due("seen(36, 1) of 36", whole.seen(36, 1), -2);
    }

    private static void onlyFromShops() {
        Due.under("A THIEF takes from the CELL that it wants, if that is a shop");
        CatBeat x = shortSighted(".s#ld", "", "001;011;021;031;041;051;351;391");
        for (int thief = 0; thief < 8; thief++) {
            Due.due("takes(" + thief + ")", x.takes(thief), thief == 1 ? 0 : -1);
        }
        CatBeat whole = shortSighted("......;......;......;......;......;.....s", "", "351;361;371;381;391");
        for (int thief = 0; thief < 5; thief++) {
            Due.due("takes(" + thief + ") of 35 on", whole.takes(thief), thief == 0 ? 0 : -1);
        }
    }

    private static void takesBehindTheLast() {
        Due.under("as soon as that has not been SEEN behind so many numbers of STEPS, one behind the other (it takes behind the last of these)");
        for (int need = 1; need <= 9; need++) {
            CatBeat x = from(1, Due.of("s", "", "00" + need));
            Due.due("takes(0) from nowhere, " + need, x.takes(0), need - 1);
            CatBeat y = shortSighted("s.", "e", "00" + need);
            Due.due("takes(0) behind a look, " + need, y.takes(0), need);
            CatBeat z = shortSighted("s.", "....e...w", "00" + need);
            Due.due("takes(0) between looks, " + need, z.takes(0), need <= 4 ? need + 4 : -1);
        }
        CatBeat once = shortSighted("s.", "ew", "001;001");
        Due.due("takes(0), the first time only", once.takes(0), 1);
        Due.due("takes(1), the same shop", once.takes(1), 1);
        Due.due("lost(), both", once.lost(), 2);
    }

    /** Each round it goes one cell further away, and with sight 3 it loses the shop in the last step of the night. */
    private static void takesAtTheEndOfTheNight() {
        Due.under("A NIGHT is behind 0 to 95 STEPS.");
        CatBeat x = from(4, Due.of("....s", "......................w.", "041;042"));
        Due.due("at(95)", x.at(95), 0);
        Due.due("takes(0), behind the very last", x.takes(0), 95);
        Due.due("takes(1), the night is over", x.takes(1), -1);
        Due.due("first()", x.first(), 0);
        Due.due("lost()", x.lost(), 1);
        CatBeat y = from(4, Due.of("....s", ".......................w", "041"));
        Due.due("takes(0), behind 96", y.takes(0), -1);
        Due.due("safe(0), behind 96", y.safe(0), 16);
        CatBeat z = from(4, Due.of("....s", "..............w.........", "049;048"));
        Due.due("takes(0), nine up to the last", z.takes(0), 95);
        Due.due("takes(1), eight", z.takes(1), 94);
        CatBeat late = from(4, Due.of("....s", "...............w........", "049"));
        Due.due("takes(0), eight up to the last", late.takes(0), -1);
    }

    private static void takesRefusals() {
        Due.under("TAKES; NONE. BAD.");
        CatBeat x = shortSighted("s.", "", "001;011");
        int[] wrong = {-1, 2, 7, 8, LEAST, MOST};
        for (int thief : wrong) {
            Due.due("takes(" + thief + ")", x.takes(thief), -2);
        }
        Due.due("takes(0), seen all night", x.takes(0), -1);
        Due.due("takes(1), no shop", x.takes(1), -1);
    }

    private static void safeHalves() {
        Due.under("SAFE, CELLS 0 to 17 (half = 0), 18 to 35 (1), as bits. BAD.");
        String shops = "ssssss;ssssss;ssssss;ssssss;ssssss;ssssss";
        CatBeat x = from(1, shortSighted(shops, "", ""));
        Due.due("safe(0), no thieves", x.safe(0), 262143);
        Due.due("safe(1), no thieves", x.safe(1), 262143);
        Due.typeAll(x, 2, "001;171;181;351");
        Due.due("safe(0)", x.safe(0), 262143 - 1 - (1 << 17));
        Due.due("safe(1)", x.safe(1), 262143 - 1 - (1 << 17));
        int[] wrong = {-1, 2, LEAST, MOST};
        for (int half : wrong) {
            Due.due("safe(" + half + ")", x.safe(half), -2);
        }
        x.undo(2);
        x.type(2, '9');
        x.set(0, 35);
        Due.due("safe(1), asked first behind a change", x.safe(1), 262143 - 1);
        CatBeat open = Due.of("....", "", "001");
        Due.due("safe(0), no shops", open.safe(0), 0);
        CatBeat two = shortSighted("s.", "ew", "009;001");
        Due.due("safe(0), one of two takes", two.safe(0), 0);
    }

    private static void lostFrom0To8() {
        Due.under("LOST: how many THIEVES take something.");
        CatBeat x = Due.of("s", "", "001;001;002;003;004;005;006;009");
        Due.due("lost(), seen all night", x.lost(), 0);
        Due.due("lost() from nowhere", from(1, x).lost(), 8);
        x.wipe(2);
        Due.due("lost(), no thieves", x.lost(), 0);
    }

    private static void firstOfLikeOnes() {
        Due.under("FIRST: who takes first, of like ones the least; NONE.");
        Due.due("first() of no thieves", new CatBeat().first(), -1);
        Due.due("first() of none that takes", Due.of("s", "", "001;002").first(), -1);
        Due.due("first() of eight like ones", from(1, Due.of("s", "", "001;001;001;001;001;001;001;001")).first(), 0);
        Due.due("first(), the last", from(1, Due.of("s", "", "009;008;007;006;005;004;003;002")).first(), 7);
        Due.due("first(), none ahead of it takes", from(1, Due.of("s", "", "391;011;009;009")).first(), 2);
    }

    private static void spareFromNoneToAll() {
        Due.under("STEPS of THE BEAT that may each be left out alone, so that no more THIEVES take something than do, as bits");
        Due.due("spare() of no steps", Due.of("s", "", "001").spare(), 0);
        Due.due("spare() of no cells", Due.of("", "nesw", "001").spare(), 15);
        Due.due("spare() of no thieves", Due.of(".", "nesw.nesw.nesw.nesw.nesw", "").spare(), 16777215);
        Due.due("spare() of one step, all as before", shortSighted("s.", "e", "001").spare(), 1);
        Due.due("spare() of one step, needed", shortSighted(".s", "e", "012").spare(), 0);
        Due.due("spare() of one step, as many as before", shortSighted(".s", "e", "011").spare(), 1);
        Due.due("spare() but the first", from(1, shortSighted("s.", "w" + REST, "002")).spare(), 16777214);
        Due.due("spare() but the last", shortSighted("s.", "......................ew", "002").spare(), 8388607);
        Due.due("spare() with fewer lost than now", shortSighted("s.", "e.", "001").spare(), 3);
        Due.due("spare() without the first", shortSighted("s.s", "eeww.", "004;025").spare(), 16);
        CatBeat follow = from(1, shortSighted(".s.", "ewwe", "013"));
        Due.due("spare(), the others follow one another", follow.spare(), 15);
    }

    private static void dueTrim(String name, CatBeat x, int howMany, int one, int two) {
        Due.due("trim(NONE) " + name, x.trim(-1), howMany);
        Due.due("trim(0) " + name, x.trim(0), one);
        Due.due("trim(1) " + name, x.trim(1), two);
    }

    private static void trimOneAheadOfTwo() {
        Due.under("TRIM: the fewest STEPS (1, 2) to be left out, so that there are fewer that take something than do");
        dueTrim("one is enough, though two keep more", shortSighted("s..", "eeww", "001;003"), 1, 0, -1);
        dueTrim("the only step", shortSighted("s.", "e", "001"), 1, 0, -1);
        dueTrim("the only two", shortSighted("s.", "ee", "001"), 2, 0, 1);
        dueTrim("three would be needed", shortSighted("s.", "eee", "001"), -1, -1, -1);
    }

    private static void trimTheLeastRow() {
        Due.under("of like ones the least row of STEPS (each more than the one ahead)");
        dueTrim("the last alone", shortSighted("s.", REST + "e", "001"), 1, 23, -1);
        dueTrim("the last two", shortSighted("s..", "......................ee", "001"), 2, 22, 23);
        dueTrim("the first and the last", shortSighted("s..", "e......................e", "001"), 2, 0, 23);
        dueTrim("the first of like ones", shortSighted("s.s", "..eeww", "024"), 2, 0, 1);
        dueTrim("the first one of like ones", shortSighted("s.s", ".eeww", "024"), 1, 0, -1);
    }

    private static void trimOfTooFew() {
        Due.under("TRIM: how many; the i-th; NONE");
        dueTrim("no steps", from(1, Due.of("s", "", "001")), -1, -1, -1);
        dueTrim("no thieves", Due.of("s.", "e", ""), -1, -1, -1);
        dueTrim("no cells", Due.of("", "e", "001"), -1, -1, -1);
        dueTrim("nothing is taken", Due.of("s", "e", "001"), -1, -1, -1);
        dueTrim("nowhere", from(1, Due.of("s", "ee", "001")), -1, -1, -1);
        CatBeat x = shortSighted("s.", "ee", "001");
        dueTrim("two", x, 2, 0, 1);
        x.undo(1);
        dueTrim("one is undone", x, 1, 0, -1);
        x.undo(1);
        dueTrim("both are undone", x, -1, -1, -1);
        x.type(1, 'e');
        x.set(2, 1);
        dueTrim("nothing is lost now", x, -1, -1, -1);
    }

    private static void trimRefusals() {
        Due.under("TRIM: how many (i = NONE), the i-th (0, 1; NONE); NONE. BAD.");
        int[] wrong = {-2, 2, 3, LEAST, MOST};
        for (int i : wrong) {
            Due.due("trim(" + i + ")", new CatBeat().trim(i), -2);
            Due.due("trim(" + i + ") where two may go", shortSighted("s.", "ee", "001").trim(i), -2);
        }
    }

    private static void beginOfNoCell() {
        Due.under("BEGIN: the START (a CELL for the constable); NONE");
        String[] wards = {"", "#", "d", "###;###"};
        for (String ward : wards) {
            CatBeat x = Due.of(ward, "e", "001");
            Due.due("begin(0) in " + ward, x.begin(0), -1);
            Due.due("begin(1) in " + ward, x.begin(1), -1);
        }
        CatBeat x = Due.of("#ld", "", "");
        int[] cells = {1, 1, 1, 1, 1, 1, 1, 1, -1, -1};
        for (int girth = 0; girth <= 9; girth++) {
            x.set(1, girth);
            Due.due("begin(0), girth " + girth, x.begin(0), cells[girth]);
            Due.due("begin(1), girth " + girth, x.begin(1), cells[girth] == -1 ? -1 : 0);
        }
        CatBeat y = Due.of("d#", "", "");
        Due.due("begin(0), girth 5 for a drain", y.begin(0), -1);
        y.set(1, 2);
        Due.due("begin(0), girth 2 for a drain", y.begin(0), 0);
        y.set(1, 3);
        Due.due("begin(0), girth 3 for a drain", y.begin(0), -1);
    }

    private static void beginOfLikeOnes() {
        Due.under("in place of its own, by which fewest take something, of like ones the least: which; how many");
        CatBeat x = shortSighted("......;......;......;......;......;.....s", "", "351");
        Due.due("begin(0), the very last", x.begin(0), 35);
        Due.due("begin(1), the very last", x.begin(1), 0);
        x.set(0, 35);
        Due.due("begin(0), its own", x.begin(0), 35);
        x.wipe(2);
        Due.due("begin(0), all alike", x.begin(0), 0);
        Due.due("begin(1), all alike", x.begin(1), 0);
        CatBeat lost = shortSighted("#s.", "", "011;011;011;011;011;011;011;011");
        Due.due("begin(0), all or none", lost.begin(0), 1);
        CatBeat two = shortSighted("s#s", "", "001;021");
        Due.due("begin(1), one is lost", two.begin(1), 1);
        Due.due("begin(0), the least", from(2, two).begin(0), 0);
        Due.due("START is kept", two.set(0, 0), 2);
    }

    private static void beginRefusals() {
        Due.under("BEGIN: which (what = 0), how many (1); NONE. BAD.");
        int[] wrong = {-1, 2, LEAST, MOST};
        for (int what : wrong) {
            Due.due("begin(" + what + ")", Due.of("..", "", "").begin(what), -2);
            Due.due("begin(" + what + ") without cells", new CatBeat().begin(what), -2);
        }
    }

    private static void dueRecruit(String name, CatBeat x, int girth, int lost) {
        Due.due("recruit(0), " + name, x.recruit(0), girth);
        Due.due("recruit(1), " + name, x.recruit(1), lost);
    }

    private static void recruitByGirth() {
        Due.under("RECRUIT: the least GIRTH (0 to 9) by which fewest take something: which; how many.");
        dueRecruit("no cells", new CatBeat(), 0, 0);
        dueRecruit("all alike", Due.of("s", "", "001"), 0, 0);
        dueRecruit("nobody can stand there", Due.of("#s", "", "011;019;011;011;011;011;011;011"), 0, 8);
        dueRecruit("not into the drain", shortSighted("sd", "e", "001"), 3, 0);
        dueRecruit("not onto the ledge", shortSighted("sl", "e", "001"), 8, 0);
        dueRecruit("through the drain", shortSighted(".ds", "ee", "025"), 0, 0);
        CatBeat ledge = shortSighted(".ls", "ee", "025");
        ledge.set(1, 9);
        dueRecruit("over the ledge", ledge, 0, 0);
        Due.due("GIRTH is kept", ledge.set(1, 9), 9);
        dueRecruit("from a drain", from(1, Due.of("sd", "", "001")), 0, 0);
        dueRecruit("from a ledge, not into the drain", from(1, shortSighted("dls", "w.e", "024")), 3, 0);
    }

    private static void recruitRefusals() {
        Due.under("RECRUIT: which (what = 0), how many (1). BAD.");
        int[] wrong = {-1, 2, LEAST, MOST};
        for (int what : wrong) {
            Due.due("recruit(" + what + ")", Due.of("..", "", "").recruit(what), -2);
        }
    }
}

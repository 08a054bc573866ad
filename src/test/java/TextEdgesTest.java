/** The edges that the document names for texts and settings (promises 1 to 9), sentence by sentence. */
public final class TextEdgesTest {
    private static final int LEAST = Integer.MIN_VALUE, MOST = Integer.MAX_VALUE;
    private static final String WHOLE_WARD = "......;......;......;......;......;......";
    private static final String WHOLE_BEAT = "nesw.nesw.nesw.nesw.nesw";
    private static final String ALL_THIEVES = "001;112;223;334;395;006;017;029";

    public static void main(String[] args) {
        nothingAtFirst();
        settingsAtFirst();
        wardUpTo41();
        beatUpTo24();
        thievesUpTo31();
        byteFrom0To255();
        noSuchText();
        fullBehindBad();
        wipedIsEmpty();
        undoneToEmpty();
        emptyIsWell();
        rowsSixAtMost();
        cellsOneToSix();
        cellsAsInTheFirstRow();
        signsOfTheWard();
        signsOfTheBeat();
        signsOfThieves();
        thiefNotEnded();
        eightThieves();
        faultIsTheFirst();
        faultyWardIsEmpty();
        faultyBeatIsEmpty();
        faultyThievesAreNone();
        cellsNumbered();
        stepsNumbered();
        thiefNumbers();
        settingsFromTo();
        usedFor512Calls();
        Due.end();
    }

    private static void nothingAtFirst() {
        Due.under("No CELLS, no BEAT, no THIEVES; all SHEETS are LOST.");
        CatBeat x = new CatBeat();
        for (int what = 0; what <= 8; what++) {
            Due.due("count(" + what + ")", x.count(what), 0);
        }
        for (int cell = 0; cell < 36; cell++) {
            Due.due("cell(" + cell + ")", x.cell(cell), -1);
            Due.due("seen(" + cell + ", 0)", x.seen(cell, 0), -2);
        }
        for (int step = 0; step < 24; step++) {
            Due.due("beat(" + step + ")", x.beat(step), -1);
        }
        for (int thief = 0; thief < 8; thief++) {
            Due.due("thief(" + thief + ", 0)", x.thief(thief, 0), -2);
            Due.due("takes(" + thief + ")", x.takes(thief), -2);
        }
        for (int s = 0; s < 4; s++) {
            Due.due("lose(" + s + ")", x.lose(s), -11);
            Due.due("read(" + s + ")", x.read(s), -11);
            Due.due("write(" + s + ")", x.write(s), -11);
        }
    }

    private static void settingsAtFirst() {
        Due.under("START (CELL 0 to 35; 0 at first), GIRTH (0 to 9; 5 at first), SIGHT (0 to 9; 3 at first), FOG (0 at first)");
        int[] atFirst = {0, 5, 3, 0};
        for (int what = 0; what < 4; what++) {
            Due.due("set(" + what + ", 1)", new CatBeat().set(what, 1), atFirst[what]);
        }
    }

    private static void dueLimit(int text, String whole) {
        CatBeat x = new CatBeat();
        for (int i = 0; i < whole.length(); i++) {
            Due.due("type, byte " + i, x.type(text, whole.charAt(i)), i + 1);
        }
        Due.due("type, one more", x.type(text, '.'), -4);
        Due.due("type, one more again", x.type(text, ';'), -4);
        Due.due("count behind FULL", x.count(3 + text), whole.length());
        Due.due("fault behind FULL", x.fault(text), -1);
        Due.due("undo of a full one", x.undo(text), whole.length() - 1);
        Due.due("type where room is again", x.type(text, whole.charAt(whole.length() - 1)), whole.length());
        Due.due("type, full again", x.type(text, '.'), -4);
        Due.due("wipe of a full one", x.wipe(text), whole.length());
        Due.due("type behind wipe", x.type(text, whole.charAt(0)), 1);
        for (int other = 0; other < 3; other++) {
            Due.due("bytes of text " + other, x.count(3 + other), other == text ? 1 : 0);
        }
    }

    private static void wardUpTo41() {
        Due.under("THE WARD is a text of up to 41 bytes (text 0)");
        dueLimit(0, WHOLE_WARD);
        Due.due("cells of the whole", Due.of(WHOLE_WARD, "", "").count(0), 36);
    }

    private static void beatUpTo24() {
        Due.under("THE BEAT is a text of up to 24 bytes (text 1)");
        dueLimit(1, WHOLE_BEAT);
        Due.due("steps of the whole", Due.of("", WHOLE_BEAT, "").count(1), 24);
    }

    private static void thievesUpTo31() {
        Due.under("THIEVES are a text of up to 31 bytes (text 2)");
        dueLimit(2, ALL_THIEVES);
        Due.due("thieves of the whole", Due.of("", "", ALL_THIEVES).count(2), 8);
    }

    private static void byteFrom0To255() {
        Due.under("A byte (0 to 255) comes behind a text: how many.");
        for (int text = 0; text < 3; text++) {
            CatBeat x = new CatBeat();
            int[] wrong = {-1, 256, 256 + '.', '.' - 256, 65536 + '.', LEAST, MOST};
            for (int b : wrong) {
                Due.due("type(" + text + ", " + b + ")", x.type(text, b), -2);
            }
            Due.due("count behind wrong ones", x.count(3 + text), 0);
            Due.due("type(" + text + ", 0)", x.type(text, 0), 1);
            Due.due("fault", x.fault(text), 0);
            Due.due("type(" + text + ", 255)", x.type(text, 255), 2);
            Due.due("undo", x.undo(text), 1);
            Due.due("undo", x.undo(text), 0);
            Due.due("type(" + text + ", 255)", x.type(text, 255), 1);
            Due.due("fault", x.fault(text), 0);
        }
        CatBeat high = new CatBeat();
        Due.due("type(0, 174), a . with its highest bit", high.type(0, '.' + 128), 1);
        Due.due("fault(0)", high.fault(0), 0);
    }

    private static void noSuchText() {
        Due.under("BAD -2 (a number not as told, no such thing): texts");
        CatBeat x = new CatBeat();
        int[] wrong = {-1, 3, 4, LEAST, MOST};
        for (int text : wrong) {
            Due.due("type(" + text + ", 46)", x.type(text, '.'), -2);
            Due.due("wipe(" + text + ")", x.wipe(text), -2);
            Due.due("undo(" + text + ")", x.undo(text), -2);
            Due.due("fault(" + text + ")", x.fault(text), -2);
        }
        for (int text = 0; text < 3; text++) {
            Due.due("bytes", x.count(3 + text), 0);
        }
    }

    private static void fullBehindBad() {
        Due.under("BAD; FULL.");
        CatBeat x = Due.of(WHOLE_WARD, WHOLE_BEAT, ALL_THIEVES);
        for (int text = 0; text < 3; text++) {
            Due.due("type(" + text + ", 256)", x.type(text, 256), -2);
            Due.due("type(" + text + ", -1)", x.type(text, -1), -2);
            Due.due("type(" + text + ", 255)", x.type(text, 255), -4);
        }
        Due.due("type(3, 46)", x.type(3, '.'), -2);
    }

    private static void wipedIsEmpty() {
        Due.under("A text is empty: how many bytes it had.");
        for (int text = 0; text < 3; text++) {
            CatBeat x = Due.of("s.", "nes", "0014");
            int[] had = {2, 3, 4};
            Due.due("wipe(" + text + ")", x.wipe(text), had[text]);
            Due.due("wipe(" + text + ") of an empty one", x.wipe(text), 0);
            Due.due("undo(" + text + ") of an empty one", x.undo(text), -3);
            Due.due("fault(" + text + ")", x.fault(text), -1);
            for (int other = 0; other < 3; other++) {
                Due.due("bytes of text " + other, x.count(3 + other), other == text ? 0 : had[other]);
            }
        }
    }

    private static void undoneToEmpty() {
        Due.under("The last byte of a text is undone: how many are left. BAD; NOT: it is empty.");
        for (int text = 0; text < 3; text++) {
            CatBeat x = new CatBeat();
            Due.due("undo(" + text + ") of a new one", x.undo(text), -3);
            x.type(text, 'x');
            x.type(text, 'x');
            Due.due("undo(" + text + ")", x.undo(text), 1);
            Due.due("undo(" + text + ") of the first", x.undo(text), 0);
            Due.due("undo(" + text + ") of none", x.undo(text), -3);
            Due.due("undo(" + text + ") of none again", x.undo(text), -3);
            Due.due("bytes", x.count(3 + text), 0);
            Due.due("type behind NOT", x.type(text, 'x'), 1);
        }
        CatBeat x = Due.of("s.;.s.", "", "");
        Due.due("cells with a byte too many", x.count(0), 0);
        x.undo(0);
        Due.due("cells without it", x.count(0), 4);
    }

    private static void emptyIsWell() {
        Due.under("an empty one is well");
        CatBeat x = Due.of(";", ";", ";");
        for (int text = 0; text < 3; text++) {
            Due.due("fault(" + text + ") of a new one", new CatBeat().fault(text), -1);
            Due.due("fault(" + text + ") of ;", x.fault(text), 0);
            x.undo(text);
            Due.due("fault(" + text + ") of one undone", x.fault(text), -1);
        }
    }

    private static void dueWard(String ward, int fault, int cells) {
        CatBeat x = Due.of(ward, "", "");
        Due.due("fault of ward " + ward, x.fault(0), fault);
        Due.due("cells of ward " + ward, x.count(0), cells);
    }

    private static void rowsSixAtMost() {
        Due.under("ROWS, 6 at most; here also of the first byte of a seventh ROW");
        dueWard(".;.;.;.;.;.", -1, 6);
        dueWard(".;.;.;.;.;.;", 12, 0);
        dueWard(".;.;.;.;.;.;.", 12, 0);
        dueWard(".;.;.;.;.;.;;", 12, 0);
        dueWard(".;.;.;.;.;.;.;.", 12, 0);
        dueWard(".....;.....;.....;.....;.....;.....", -1, 30);
        dueWard(".....;.....;.....;.....;.....;.....;", 36, 0);
        dueWard(".....;.....;.....;.....;.....;.....;.....", 36, 0);
    }

    private static void cellsOneToSix() {
        Due.under("each of as many CELLS (1 to 6) as the first one; here also of a CELL too many");
        dueWard(".", -1, 1);
        dueWard("......", -1, 6);
        dueWard(".......", 6, 0);
        dueWard("........", 6, 0);
        dueWard(";", 0, 0);
        dueWard(";.", 0, 0);
        dueWard("......;", 7, 0);
        dueWard("......;.......", 13, 0);
        dueWard(WHOLE_WARD, -1, 36);
    }

    private static void cellsAsInTheFirstRow() {
        Due.under("of a ROW that is too short, its end, or its ;, here also of a CELL too many");
        dueWard("..;..", -1, 4);
        dueWard("..;.", 4, 0);
        dueWard("..;", 3, 0);
        dueWard("..;;", 3, 0);
        dueWard("..;.;", 4, 0);
        dueWard("..;.;..", 4, 0);
        dueWard("..;...", 5, 0);
        dueWard(".;..", 3, 0);
        dueWard(".;.;..", 5, 0);
        dueWard("......;......;......;......;......;.....", 40, 0);
        dueWard("......;......;......;......;.....;......", 33, 0);
    }

    private static void signsOfTheWard() {
        Due.under(". (open), # (a wall), s (a shop), l (a ledge), d (a drain)");
        String signs = ".#sld";
        for (int b = 0; b < 256; b++) {
            CatBeat x = new CatBeat();
            x.type(0, b);
            Due.due("fault of a ward of byte " + b, x.fault(0), signs.indexOf(b) < 0 ? 0 : -1);
            Due.due("cell of byte " + b, x.cell(0), signs.indexOf(b));
        }
    }

    private static void signsOfTheBeat() {
        Due.under("n, e, s, w or . (STEPS, 0 on)");
        String signs = "nesw.";
        for (int b = 0; b < 256; b++) {
            CatBeat x = Due.of("", "nesw.nesw.nesw.nesw.nes", "");
            x.type(1, b);
            Due.due("fault of a beat with byte " + b, x.fault(1), signs.indexOf(b) < 0 ? 23 : -1);
            Due.due("step of byte " + b, x.beat(23), signs.indexOf(b));
        }
    }

    private static void signsOfThieves() {
        Due.under("a figure 0 to 3 and a figure, the CELL that it wants (00 to 39), and a figure, for how many STEPS (1 to 9)");
        String[] before = {"", "0", "00", "001", "001;", "001;3", "001;39"};
        String[] due = {"0123", "0123456789", "123456789", ";", "0123", "0123456789", "123456789"};
        for (int i = 0; i < before.length; i++) {
            for (int b = 0; b < 256; b++) {
                CatBeat x = Due.of("", "", before[i]);
                x.type(2, b);
                int whole = i % 4 == 2 ? -1 : i + 1;
                Due.due("fault of " + before[i] + " and byte " + b, x.fault(2), due[i].indexOf(b) < 0 ? i : whole);
            }
        }
    }

    private static void dueThieves(String thieves, int fault, int count) {
        CatBeat x = Due.of("", "", thieves);
        Due.due("fault of thieves " + thieves, x.fault(2), fault);
        Due.due("how many of thieves " + thieves, x.count(2), count);
    }

    private static void thiefNotEnded() {
        Due.under("of one that is not ended, its end");
        dueThieves("0", 1, 0);
        dueThieves("00", 2, 0);
        dueThieves("001", -1, 1);
        dueThieves("001;", 4, 0);
        dueThieves("001;0", 5, 0);
        dueThieves("001;00", 6, 0);
        dueThieves("001;009", -1, 2);
    }

    private static void eightThieves() {
        Due.under("8 at most (0 on), with ; between them");
        dueThieves(ALL_THIEVES, -1, 8);
        dueThieves(ALL_THIEVES.substring(0, 30), 30, 0);
        dueThieves(ALL_THIEVES.substring(0, 28), 28, 0);
        dueThieves(ALL_THIEVES.substring(0, 27), -1, 7);
        dueThieves(ALL_THIEVES.substring(0, 30) + "0", 30, 0);
        CatBeat x = Due.of("", "", ALL_THIEVES);
        Due.due("type(2, 59) for a ninth", x.type(2, ';'), -4);
        Due.due("fault(2)", x.fault(2), -1);
    }

    private static void faultIsTheFirst() {
        Due.under("The FAULT of a text is the place of the first byte with which it cannot go on");
        dueWard("xx", 0, 0);
        dueWard(".x;x", 1, 0);
        dueWard("..;x", 3, 0);
        dueWard("..;.x;...", 4, 0);
        dueWard("..;..x", 5, 0);
        dueWard(WHOLE_WARD.substring(0, 40) + "x", 40, 0);
        dueThieves("41", 0, 0);
        dueThieves("000;4", 2, 0);
        dueThieves("001,401", 3, 0);
        CatBeat x = Due.of("", "nxx", "");
        Due.due("fault of beat nxx", x.fault(1), 1);
        x.undo(1);
        x.undo(1);
        Due.due("fault of beat n", x.fault(1), -1);
    }

    private static void faultyWardIsEmpty() {
        Due.under("With a FAULT a text is as if it was empty: THE WARD");
        CatBeat x = Due.of("ss;s", "es", "001;011");
        Due.due("bytes", x.count(3), 4);
        Due.due("cells", x.count(0), 0);
        Due.due("shops", x.count(6), 0);
        Due.due("cell(0)", x.cell(0), -1);
        Due.due("at(0)", x.at(0), -1);
        Due.due("sees(0, 0)", x.sees(0, 0), 0);
        Due.due("seen(0, 0)", x.seen(0, 0), -2);
        Due.due("takes(0)", x.takes(0), -1);
        Due.due("safe(0)", x.safe(0), 0);
        Due.due("lost()", x.lost(), 0);
        Due.due("begin(0)", x.begin(0), -1);
        Due.due("meant(0, NONE)", x.meant(0, -1), 0);
        Due.due("ask()", x.ask(), -1);
        Due.due("fogged above", x.fogged(8, 0, 0, 0), 0);
        Due.due("fogged below", x.fogged(8, 0, 0, 1), 1);
        Due.due("nights where", x.nights(1, 1, 1), -1);
        x.type(0, 's');
        Due.due("cells when it is whole", x.count(0), 4);
        Due.due("at(2) when it is whole", x.at(2), 3);
    }

    private static void faultyBeatIsEmpty() {
        Due.under("With a FAULT a text is as if it was empty: THE BEAT");
        CatBeat x = Due.of("s..", "ex", "001");
        Due.due("bytes", x.count(4), 2);
        Due.due("steps", x.count(1), 0);
        Due.due("beat(0)", x.beat(0), -1);
        Due.due("at(95)", x.at(95), 0);
        Due.due("lost()", x.lost(), 0);
        Due.due("spare()", x.spare(), 0);
        Due.due("trim(NONE)", x.trim(-1), -1);
        Due.due("omitted()", x.omitted(), 0);
        x.undo(1);
        Due.due("steps when it is well", x.count(1), 1);
        Due.due("at(95) when it is well", x.at(95), 2);
    }

    private static void faultyThievesAreNone() {
        Due.under("With a FAULT a text is as if it was empty: THIEVES");
        CatBeat x = Due.of("#s", "", "011;");
        Due.due("bytes", x.count(5), 4);
        Due.due("thieves", x.count(2), 0);
        Due.due("thief(0, 0)", x.thief(0, 0), -2);
        Due.due("takes(0)", x.takes(0), -2);
        Due.due("safe(0)", x.safe(0), 2);
        Due.due("lost()", x.lost(), 0);
        Due.due("first()", x.first(), -1);
        Due.due("meant(0, NONE)", x.meant(0, -1), -2);
        Due.due("fogged", x.fogged(8, 0, 0, 0), Long.MIN_VALUE + 2);
        x.undo(2);
        Due.due("takes(0) when they are well", x.takes(0), 0);
        Due.due("safe(0) when they are well", x.safe(0), 0);
    }

    private static void cellsNumbered() {
        Due.under("What a CELL (0 to 35) is; NONE: there is no such CELL. BAD.");
        CatBeat x = Due.of("s.....;......;......;......;......;.....d", "", "");
        Due.due("cell(0)", x.cell(0), 2);
        Due.due("cell(34)", x.cell(34), 0);
        Due.due("cell(35)", x.cell(35), 4);
        int[] wrong = {-1, 36, LEAST, MOST};
        for (int cell : wrong) {
            Due.due("cell(" + cell + ")", x.cell(cell), -2);
        }
        CatBeat y = Due.of("###;##s", "", "");
        Due.due("cell(5) of six", y.cell(5), 2);
        Due.due("cell(6) of six", y.cell(6), -1);
        Due.due("cell(35) of six", y.cell(35), -1);
        Due.due("cell(36) of six", y.cell(36), -2);
    }

    private static void stepsNumbered() {
        Due.under("A STEP of THE BEAT (0 to 23); NONE: there is no such STEP. BAD.");
        CatBeat x = Due.of("", WHOLE_BEAT, "");
        Due.due("beat(0)", x.beat(0), 0);
        Due.due("beat(23)", x.beat(23), 3);
        int[] wrong = {-1, 24, LEAST, MOST};
        for (int step : wrong) {
            Due.due("beat(" + step + ")", x.beat(step), -2);
        }
        x.undo(1);
        Due.due("beat(22) of 23", x.beat(22), 2);
        Due.due("beat(23) of 23", x.beat(23), -1);
        Due.due("beat(24) of 23", x.beat(24), -2);
    }

    private static void thiefNumbers() {
        Due.under("Which CELL it wants (what = 0), for how many STEPS (1) of a THIEF. BAD.");
        CatBeat x = Due.of("", "", "001;399;101;209;191;301;099;358");
        int[][] want = {{0, 1}, {39, 9}, {10, 1}, {20, 9}, {19, 1}, {30, 1}, {9, 9}, {35, 8}};
        for (int thief = 0; thief < 8; thief++) {
            Due.due("thief(" + thief + ", 0)", x.thief(thief, 0), want[thief][0]);
            Due.due("thief(" + thief + ", 1)", x.thief(thief, 1), want[thief][1]);
        }
        int[] wrong = {-1, 8, LEAST, MOST};
        for (int thief : wrong) {
            Due.due("thief(" + thief + ", 0)", x.thief(thief, 0), -2);
            Due.due("thief(" + thief + ", 1)", x.thief(thief, 1), -2);
        }
        int[] wrongWhats = {-1, 2, LEAST, MOST};
        for (int what : wrongWhats) {
            Due.due("thief(0, " + what + ")", x.thief(0, what), -2);
        }
        for (int i = 0; i < 4; i++) {
            x.undo(2);
        }
        Due.due("thief(6, 1) of seven", x.thief(6, 1), 9);
        Due.due("thief(7, 0) of seven", x.thief(7, 0), -2);
    }

    private static void settingsFromTo() {
        Due.under("START (what = 0), GIRTH (1), SIGHT (2), FOG (3): what it was. BAD.");
        int[] most = {35, 9, 9, 1};
        for (int what = 0; what < 4; what++) {
            CatBeat x = new CatBeat();
            x.set(what, 0);
            for (int v = 0; v <= most[what]; v++) {
                Due.due("set(" + what + ", " + v + ")", x.set(what, v), Math.max(v - 1, 0));
            }
            int[] wrong = {-1, most[what] + 1, LEAST, MOST};
            for (int v : wrong) {
                Due.due("set(" + what + ", " + v + ")", x.set(what, v), -2);
            }
            Due.due("set(" + what + ", 0) behind wrong ones", x.set(what, 0), most[what]);
        }
        CatBeat x = new CatBeat();
        int[] wrong = {-1, 4, LEAST, MOST};
        for (int what : wrong) {
            Due.due("set(" + what + ", 0)", x.set(what, 0), -2);
        }
    }

    /** Texts go to their ends and back, so that nothing that is kept may grow with the calls. */
    private static void usedFor512Calls() {
        Due.under("An object is used for at most 512 calls after it has been made");
        CatBeat x = Due.of(WHOLE_WARD, WHOLE_BEAT, ALL_THIEVES);
        int calls = WHOLE_WARD.length() + WHOLE_BEAT.length() + ALL_THIEVES.length();
        for (; calls < 500; calls += 4) {
            Due.due("undo(0)", x.undo(0), 40);
            Due.due("type(0, 's')", x.type(0, 's'), 41);
            Due.due("sheet(3, 2, 60)", x.sheet(3, 2, 60), 60);
            int missed = (calls - 96) / 4 + 1;
            Due.due("missed(35, 1)", x.missed(35, 1), missed <= 8 ? missed : -4);
        }
        Due.due("calls", calls, 500);
        Due.due("count(0)", x.count(0), 36);
        Due.due("count(6)", x.count(6), 1);
        Due.due("count(7)", x.count(7), 8);
        Due.due("takes(3)", x.takes(3), -1);
        Due.due("cell(35)", x.cell(35), 2);
        Due.due("fault(0)", x.fault(0), -1);
        Due.due("at(95)", x.at(95), 7);
        Due.due("type, FULL", x.type(0, 's'), -4);
        Due.due("type, BAD", x.type(0, 256), -2);
        Due.due("get(3, 2, 59)", x.get(3, 2, 59), 0);
        Due.due("omitted()", x.omitted(), 0);
        Due.due("the 512th call, forget()", x.forget(), 8);
    }
}

/** Promises 1 to 9: a new object, texts and their faults, settings. */
public final class WardTest {
    public static void main(String[] args) {
        newObject();
        typing();
        wiping();
        undoing();
        wardFaults();
        beatFaults();
        thiefFaults();
        faultyTextsAreEmpty();
        cells();
        steps();
        thieves();
        settings();
        Due.end();
    }

    private static void newObject() {
        CatBeat x = new CatBeat();
        for (int what = 0; what <= 8; what++) {
            Due.due("count(" + what + ")", x.count(what), 0);
        }
        Due.due("cell(0)", x.cell(0), -1);
        Due.due("beat(0)", x.beat(0), -1);
        Due.due("thief(0, 0)", x.thief(0, 0), -2);
        Due.due("at(0)", x.at(0), -1);
        for (int s = 0; s < 4; s++) {
            Due.due("lose(" + s + ")", x.lose(s), -11);
        }
    }

    private static void typing() {
        int[] limits = {41, 24, 31};
        for (int text = 0; text < 3; text++) {
            CatBeat x = new CatBeat();
            Due.due("type low", x.type(text, 0), 1);
            Due.due("type high", x.type(text, 255), 2);
            Due.due("type below", x.type(text, -1), -2);
            Due.due("type above", x.type(text, 256), -2);
            for (int i = 3; i <= limits[text]; i++) {
                Due.due("type up to the limit", x.type(text, '.'), i);
            }
            Due.due("type beyond", x.type(text, '.'), -4);
            Due.due("type beyond and wrong", x.type(text, 256), -2);
            Due.due("bytes are as before", x.count(3 + text), limits[text]);
        }
        CatBeat x = new CatBeat();
        Due.due("type(-1, 46)", x.type(-1, 46), -2);
        Due.due("type(3, 46)", x.type(3, 46), -2);
        Due.due("count(3)", x.count(3), 0);
    }

    private static void wiping() {
        CatBeat x = Due.of("s.;..", "nes", "011");
        Due.due("wipe(-1)", x.wipe(-1), -2);
        Due.due("wipe(3)", x.wipe(3), -2);
        Due.due("wipe(1)", x.wipe(1), 3);
        Due.due("count(1)", x.count(1), 0);
        Due.due("count(0)", x.count(0), 4);
        Due.due("wipe(0)", x.wipe(0), 5);
        Due.due("count(0)", x.count(0), 0);
        Due.due("count(6)", x.count(6), 0);
        Due.due("wipe(0)", x.wipe(0), 0);
        Due.due("count(2)", x.count(2), 1);
        Due.due("wipe(2)", x.wipe(2), 3);
        Due.due("count(2)", x.count(2), 0);
    }

    private static void undoing() {
        CatBeat x = Due.of("s.x", "n", "");
        Due.due("undo(-1)", x.undo(-1), -2);
        Due.due("undo(3)", x.undo(3), -2);
        Due.due("undo(2)", x.undo(2), -3);
        Due.due("count(0)", x.count(0), 0);
        Due.due("undo(0)", x.undo(0), 2);
        Due.due("count(0)", x.count(0), 2);
        Due.due("fault(0)", x.fault(0), -1);
        Due.due("undo(0)", x.undo(0), 1);
        Due.due("undo(0)", x.undo(0), 0);
        Due.due("undo(0)", x.undo(0), -3);
        Due.due("undo(1)", x.undo(1), 0);
        Due.due("count(1)", x.count(1), 0);
    }

    private static void wardFault(String ward, int want) {
        Due.due("fault of ward " + ward, Due.of(ward, "", "").fault(0), want);
    }

    private static void wardFaults() {
        wardFault("", -1);
        wardFault(".", -1);
        wardFault(".#sld.", -1);
        wardFault("......;......;......;......;......;......", -1);
        wardFault("x", 0);
        wardFault("S", 0);
        wardFault(";", 0);
        wardFault(".n", 1);
        wardFault(".;", 2);
        wardFault(".;;", 2);
        wardFault("..;;", 3);
        wardFault("..;.", 4);
        wardFault("..;.;..", 4);
        wardFault("..;.x", 4);
        wardFault("..;x", 3);
        wardFault("..;...", 5);
        wardFault("......s", 6);
        wardFault("......;......s", 13);
        wardFault(".;.;.;.;.;.", -1);
        wardFault(".;.;.;.;.;.;", 12);
        wardFault(".;.;.;.;.;.;.", 12);
        wardFault(".;.;.;.;.;.;x", 12);
        wardFault(".;.;.;.;.;..", 11);
        CatBeat x = new CatBeat();
        Due.due("fault(-1)", x.fault(-1), -2);
        Due.due("fault(3)", x.fault(3), -2);
    }

    private static void beatFault(String beat, int want) {
        Due.due("fault of beat " + beat, Due.of("", beat, "").fault(1), want);
    }

    private static void beatFaults() {
        beatFault("", -1);
        beatFault("nesw.", -1);
        beatFault("nesw.nesw.nesw.nesw.nesw", -1);
        beatFault("x", 0);
        beatFault("neS", 2);
        beatFault("nes;", 3);
    }

    private static void thiefFault(String thieves, int want) {
        Due.due("fault of thieves " + thieves, Due.of("", "", thieves).fault(2), want);
    }

    private static void thiefFaults() {
        thiefFault("", -1);
        thiefFault("001", -1);
        thiefFault("399", -1);
        thiefFault("001;399", -1);
        thiefFault("001;002;003;004;005;006;007;008", -1);
        thiefFault("4", 0);
        thiefFault("0", 1);
        thiefFault("0a", 1);
        thiefFault("00", 2);
        thiefFault("000", 2);
        thiefFault("00:", 2);
        thiefFault("0011", 3);
        thiefFault("001;", 4);
        thiefFault("001;;", 4);
        thiefFault("001;4", 4);
        thiefFault("001;35", 6);
        thiefFault("/", 0);
    }

    private static void faultyTextsAreEmpty() {
        CatBeat x = Due.of("s.x", "nx", "0015");
        Due.due("count(0)", x.count(0), 0);
        Due.due("count(1)", x.count(1), 0);
        Due.due("count(2)", x.count(2), 0);
        Due.due("count(3)", x.count(3), 3);
        Due.due("count(4)", x.count(4), 2);
        Due.due("count(5)", x.count(5), 4);
        Due.due("count(6)", x.count(6), 0);
        Due.due("cell(0)", x.cell(0), -1);
        Due.due("beat(0)", x.beat(0), -1);
        Due.due("thief(0, 0)", x.thief(0, 0), -2);
        Due.due("at(0)", x.at(0), -1);
    }

    private static void cells() {
        CatBeat x = Due.of(".#sld", "", "");
        for (int cell = 0; cell < 5; cell++) {
            Due.due("cell(" + cell + ")", x.cell(cell), cell);
        }
        Due.due("cell(5)", x.cell(5), -1);
        Due.due("cell(35)", x.cell(35), -1);
        Due.due("cell(36)", x.cell(36), -2);
        Due.due("cell(-1)", x.cell(-1), -2);
        Due.due("cell in a second row", Due.of("..;ds", "", "").cell(3), 2);
    }

    private static void steps() {
        CatBeat x = Due.of("", "nesw.", "");
        for (int step = 0; step < 5; step++) {
            Due.due("beat(" + step + ")", x.beat(step), step);
        }
        Due.due("beat(5)", x.beat(5), -1);
        Due.due("beat(23)", x.beat(23), -1);
        Due.due("beat(24)", x.beat(24), -2);
        Due.due("beat(-1)", x.beat(-1), -2);
    }

    private static void thieves() {
        CatBeat x = Due.of("", "", "123;399");
        Due.due("thief(0, 0)", x.thief(0, 0), 12);
        Due.due("thief(0, 1)", x.thief(0, 1), 3);
        Due.due("thief(1, 0)", x.thief(1, 0), 39);
        Due.due("thief(1, 1)", x.thief(1, 1), 9);
        Due.due("thief(2, 0)", x.thief(2, 0), -2);
        Due.due("thief(-1, 0)", x.thief(-1, 0), -2);
        Due.due("thief(0, 2)", x.thief(0, 2), -2);
        Due.due("thief(0, -1)", x.thief(0, -1), -2);
    }

    private static void settings() {
        CatBeat x = new CatBeat();
        int[] atFirst = {0, 5, 3, 0};
        int[] most = {35, 9, 9, 1};
        for (int what = 0; what < 4; what++) {
            Due.due("set below", x.set(what, -1), -2);
            Due.due("set above", x.set(what, most[what] + 1), -2);
            Due.due("set from the first", x.set(what, most[what]), atFirst[what]);
            Due.due("set from the most", x.set(what, 0), most[what]);
            Due.due("set from the least", x.set(what, 0), 0);
        }
        Due.due("set(-1, 0)", x.set(-1, 0), -2);
        Due.due("set(4, 0)", x.set(4, 0), -2);
    }
}

import java.util.ArrayList;
import java.util.List;
import java.util.function.Supplier;
import java.util.function.ToLongFunction;

/**
 * "Refusals .. change nothing (FINDINGS but count() 8)": each refused call is made on one of two like objects, and
 * all that can be asked of both must then be alike. So it must be behind calls that only ask.
 */
public final class RefusalTest {
    private static final int LEAST = Integer.MIN_VALUE, MOST = Integer.MAX_VALUE;
    private static final int NULL = 1, INDEX = 2, CAST = 3, STORE = 4, SIZE = 5;

    private record Call(String name, ToLongFunction<CatBeat> made, long due, int finding) {
    }

    private static final List<Call> REFUSED = new ArrayList<>();
    private static final List<Call> ASKING = new ArrayList<>();

    public static void main(String[] args) {
        refusedTexts();
        refusedNights();
        refusedMissed();
        refusedSheets();
        asking();
        Due.under("Refusals change nothing (FINDINGS but count() 8)");
        for (Call call : REFUSED) {
            dueNoChange("usual: ", RefusalTest::usual, call, true);
            dueNoChange("faulty: ", RefusalTest::faulty, call, false);
        }
        refusedWhereFull();
        refusedWhereEmpty();
        Due.under("what is asked changes nothing");
        for (Call call : ASKING) {
            dueNoChange("usual: ", RefusalTest::usual, call, false);
            dueNoChange("full: ", RefusalTest::full, call, false);
            dueNoChange("faulty: ", RefusalTest::faulty, call, false);
            dueNoChange("new: ", CatBeat::new, call, false);
        }
        Due.end();
    }

    // ---- objects to try them on

    private static CatBeat usual() {
        CatBeat x = Due.of("s.s;.l.;sds", ".eesswwnn", "003;024;065;087;041");
        x.set(1, 6);
        x.set(2, 1);
        x.missed(0, 0);
        x.missed(8, 1);
        fillSheets(x);
        return x;
    }

    private static CatBeat faulty() {
        CatBeat x = Due.of("s.s;.l", "eex", "003;");
        x.missed(0, 0);
        fillSheets(x);
        return x;
    }

    private static CatBeat full() {
        CatBeat x = Due.of("s....s;......;......;..ss..;......;s....s", "eeeeessssswwwwwnnnnneesw", "003;054;205;216;301;359;002;211");
        for (int i = 0; i < 8; i++) {
            x.missed(35, 1);
        }
        return x;
    }

    /** Sheet 0 of bytes, 1 of shorts, 2 of ints, 3 lost. */
    private static void fillSheets(CatBeat x) {
        for (int form = 0; form < 3; form++) {
            x.sheet(form, form, 3);
            for (int i = 0; i < 3; i++) {
                x.put(form, form, i, 10 * form + i + 1);
            }
        }
    }

    /** All that can be asked, but for count(8): asking about sheets makes findings of its own. */
    private static List<Long> stateOf(CatBeat x) {
        List<Long> state = new ArrayList<>();
        for (int what = 0; what <= 7; what++) state.add((long) x.count(what));
        for (int text = 0; text < 3; text++) state.add((long) x.fault(text));
        state.add(x.digest());
        state.add((long) x.trim(1));
        for (int what = 0; what < 4; what++) {
            int was = x.set(what, 0);
            x.set(what, was);
            state.add((long) was);
        }
        for (int s = 0; s < 4; s++) {
            for (int form = 0; form < 3; form++) {
                for (int i = 0; i < 4; i++) state.add((long) x.get(s, form, i));
            }
            state.add((long) x.lose(s));
        }
        for (int text = 0; text < 3; text++) {
            int bytes = x.count(3 + text);
            for (int i = 0; i < bytes; i++) {
                x.undo(text);
                state.add((long) x.fault(text));
                state.add((long) x.count(text));
            }
        }
        return state;
    }

    private static void dueNoChange(String name, Supplier<CatBeat> made, Call call, boolean answers) {
        CatBeat tried = made.get();
        CatBeat like = made.get();
        int before = tried.count(8);
        long got = call.made.applyAsLong(tried);
        if (answers) {
            Due.due(name + call.name, got, call.due);
            Due.due(name + "count(8) behind " + call.name, tried.count(8), call.finding == 0 ? before : call.finding);
        }
        Due.dueTrue(name + "all as before behind " + call.name, stateOf(tried).equals(stateOf(like)));
    }

    // ---- calls

    private static void refused(String name, long due, ToLongFunction<CatBeat> made) {
        REFUSED.add(new Call(name, made, due, 0));
    }

    private static void found(String name, int finding, ToLongFunction<CatBeat> made) {
        REFUSED.add(new Call(name, made, -10 - finding, finding));
    }

    private static void asked(String name, ToLongFunction<CatBeat> made) {
        ASKING.add(new Call(name, made, 0, 0));
    }

    private static void refusedTexts() {
        for (int wrong : new int[] {-1, 3, LEAST, MOST}) {
            refused("type text " + wrong, -2, x -> x.type(wrong, '.'));
            refused("wipe text " + wrong, -2, x -> x.wipe(wrong));
            refused("undo text " + wrong, -2, x -> x.undo(wrong));
            refused("fault text " + wrong, -2, x -> x.fault(wrong));
        }
        for (int wrong : new int[] {-1, 256, LEAST, MOST}) {
            for (int text = 0; text < 3; text++) {
                int to = text;
                refused("type byte " + wrong, -2, x -> x.type(to, wrong));
            }
        }
        for (int wrong : new int[] {-1, 36, LEAST, MOST}) {
            refused("cell " + wrong, -2, x -> x.cell(wrong));
            refused("set START " + wrong, -2, x -> x.set(0, wrong));
            refused("set GIRTH " + wrong, -2, x -> x.set(1, wrong));
            refused("set SIGHT " + wrong, -2, x -> x.set(2, wrong));
            refused("set FOG " + wrong, -2, x -> x.set(3, wrong));
            refused("set what " + wrong, -2, x -> x.set(wrong, 0));
            refused("beat " + wrong, -2, x -> x.beat(wrong));
            refused("thief " + wrong, -2, x -> x.thief(wrong, 0));
            refused("thief what " + wrong, -2, x -> x.thief(0, wrong));
        }
    }

    private static void refusedNights() {
        for (int wrong : new int[] {-2, 96, LEAST, MOST}) {
            refused("at " + wrong, -2, x -> x.at(wrong));
            refused("sees " + wrong, -2, x -> x.sees(wrong, 0));
            refused("sees half " + wrong, -2, x -> x.sees(0, wrong));
            refused("seen " + wrong, -2, x -> x.seen(wrong, 0));
            refused("seen what " + wrong, -2, x -> x.seen(0, wrong));
            refused("takes " + wrong, -2, x -> x.takes(wrong));
            refused("safe " + wrong, -2, x -> x.safe(wrong));
            refused("trim " + wrong, -2, x -> x.trim(wrong));
            refused("begin " + wrong, -2, x -> x.begin(wrong));
            refused("recruit " + wrong, -2, x -> x.recruit(wrong));
        }
    }

    private static void refusedMissed() {
        long badLong = Long.MIN_VALUE + 2;
        for (int wrong : new int[] {-2, 36, LEAST, MOST}) {
            refused("missed cell " + wrong, -2, x -> x.missed(wrong, 0));
            refused("missed is " + wrong, -2, x -> x.missed(0, wrong));
            refused("read " + wrong, -2, x -> x.read(wrong));
            refused("meant thief " + wrong, -2, x -> x.meant(wrong, 0));
            refused("meant i " + wrong, -2, x -> x.meant(0, wrong));
            refused("fogged c " + wrong, badLong, x -> x.fogged(wrong, 0, 0, 0));
            refused("fogged steps " + wrong, badLong, x -> x.fogged(0, wrong, 0, 0));
            refused("fogged thief " + wrong, badLong, x -> x.fogged(0, 0, wrong, 0));
            refused("fogged what " + wrong, badLong, x -> x.fogged(0, 0, 0, wrong));
            refused("nights n " + wrong, -2, x -> x.nights(1, wrong, 0));
            refused("nights what " + wrong, -2, x -> x.nights(1, 1, wrong));
        }
        found("read a lost one", NULL, x -> x.read(3));
    }

    private static void refusedSheets() {
        for (int wrong : new int[] {-1, 4, LEAST, MOST}) {
            refused("sheet " + wrong, -2, x -> x.sheet(wrong, 0, 1));
            refused("sheet form " + wrong, -2, x -> x.sheet(0, wrong, 1));
            refused("lose " + wrong, -2, x -> x.lose(wrong));
            refused("put " + wrong, -2, x -> x.put(wrong, 0, 0, 0));
            refused("put form " + wrong, -2, x -> x.put(0, wrong, 0, 0));
            refused("get " + wrong, LEAST, x -> x.get(wrong, 0, 0));
            refused("get form " + wrong, LEAST, x -> x.get(0, wrong, 0));
            refused("copy from " + wrong, -2, x -> x.copy(wrong, 0, 0, 0, 1));
            refused("copy to " + wrong, -2, x -> x.copy(0, 0, wrong, 0, 1));
            refused("write " + wrong, -2, x -> x.write(wrong));
            refused("count " + (wrong == 4 ? 9 : wrong), -2, x -> x.count(wrong == 4 ? 9 : wrong));
        }
        refused("sheet of 61", -2, x -> x.sheet(0, 0, 61));
        found("sheet of -1", SIZE, x -> x.sheet(0, 0, -1));
        found("sheet of the least", SIZE, x -> x.sheet(3, 2, LEAST));
        found("lose a lost one", NULL, x -> x.lose(3));
        found("put in a lost one", NULL, x -> x.put(3, 0, 0, 1));
        found("put as another form", CAST, x -> x.put(0, 2, 0, 1));
        for (int wrong : new int[] {-1, 3, LEAST, MOST}) {
            found("put at " + wrong, INDEX, x -> x.put(1, 1, wrong, 1));
            found("copy from item " + wrong, INDEX, x -> x.copy(0, wrong, 0, 0, 1));
            found("copy to item " + wrong, INDEX, x -> x.copy(0, 0, 0, wrong, 1));
            found("copy of " + (wrong == 3 ? 4 : wrong), INDEX, x -> x.copy(0, 0, 0, 0, wrong == 3 ? 4 : wrong));
            REFUSED.add(new Call("get at " + wrong, x -> x.get(1, 1, wrong), LEAST, INDEX));
        }
        REFUSED.add(new Call("get of a lost one", x -> x.get(3, 0, 0), LEAST, NULL));
        REFUSED.add(new Call("get as another form", x -> x.get(0, 1, 0), LEAST, CAST));
        found("copy from a lost one", NULL, x -> x.copy(3, 0, 0, 0, 1));
        found("copy to a lost one", NULL, x -> x.copy(0, 0, 3, 0, 1));
        found("copy of unlike forms", STORE, x -> x.copy(0, 0, 1, 0, 1));
        found("write to a lost one", NULL, x -> x.write(3));
    }

    private static void refusedWhereFull() {
        for (int text = 0; text < 3; text++) {
            int to = text;
            Call more = new Call("type to a full text " + to, x -> x.type(to, '.'), -4, 0);
            dueNoChange("full: ", RefusalTest::full, more, true);
        }
        dueNoChange("full: ", RefusalTest::full, new Call("missed, a ninth", x -> x.missed(0, 0), -4, 0), true);
    }

    private static void refusedWhereEmpty() {
        for (int text = 0; text < 3; text++) {
            int of = text;
            dueNoChange("new: ", CatBeat::new, new Call("undo of text " + of, x -> x.undo(of), -3, 0), true);
        }
    }

    private static void asking() {
        for (int what = 0; what < 2; what++) {
            int w = what;
            asked("begin " + w, x -> x.begin(w));
            asked("recruit " + w, x -> x.recruit(w));
            asked("fogged " + w, x -> x.fogged(7, 9, 0, w));
            asked("nights " + w, x -> x.nights(99, 24, w));
            asked("safe " + w, x -> x.safe(w));
            asked("seen " + w, x -> x.seen(0, w));
            asked("sees " + w, x -> x.sees(95, w));
            asked("thief " + w, x -> x.thief(0, w));
            asked("trim " + w, x -> x.trim(w));
        }
        asked("trim NONE", x -> x.trim(-1));
        asked("spare", CatBeat::spare);
        asked("omitted", CatBeat::omitted);
        asked("ask", CatBeat::ask);
        asked("meant NONE", x -> x.meant(0, -1));
        asked("meant 1", x -> x.meant(0, 1));
        asked("lost", CatBeat::lost);
        asked("first", CatBeat::first);
        asked("takes", x -> x.takes(0));
        asked("at", x -> x.at(95));
        asked("cell", x -> x.cell(0));
        asked("beat", x -> x.beat(0));
        asked("fault", x -> x.fault(0));
        asked("count", x -> x.count(8));
        asked("digest", CatBeat::digest);
    }
}

import java.util.ArrayList;
import java.util.List;

/** What the tests share: answers that are due, and wards made from texts. */
final class Due {
    private static int calls = 0;
    private static int wrong = 0;
    private static String sentence = "";

    private Due() {
    }

    /** What comes next is asked for by this sentence of the document, which a wrong answer is told with. */
    static void under(String asked) {
        sentence = asked.isEmpty() ? "" : "[" + asked + "] ";
    }

    static void due(String call, long got, long want) {
        calls++;
        if (got != want) {
            wrong++;
            System.out.println(sentence + call + " answered " + got + ", due is " + want);
        }
    }

    static void dueTrue(String what, boolean holds) {
        due(what, holds ? 1 : 0, 1);
    }

    static CatBeat of(String ward, String beat, String thieves) {
        CatBeat x = new CatBeat();
        typeAll(x, 0, ward);
        typeAll(x, 1, beat);
        typeAll(x, 2, thieves);
        return x;
    }

    static void typeAll(CatBeat x, int text, String bytes) {
        for (int i = 0; i < bytes.length(); i++) {
            x.type(text, bytes.charAt(i));
        }
    }

    /** The digest put together from the answers of the other calls, in the order of the document. */
    static long digestOf(CatBeat x) {
        List<Long> all = new ArrayList<>();
        for (int what = 0; what < 8; what++) addAll(all, x.count(what));
        addAll(all, x.fault(0), x.fault(1), x.fault(2));
        for (int i = 0; i < x.count(0); i++) addAll(all, x.cell(i), x.seen(i, 0), x.seen(i, 1));
        for (int i = 0; i < x.count(1); i++) addAll(all, x.beat(i));
        for (int i = 0; i < x.count(2); i++) {
            addAll(all, x.thief(i, 0), x.thief(i, 1), x.takes(i), x.meant(i, -1), x.meant(i, 0));
            addAll(all, x.fogged(5, 5, i, 0), x.fogged(5, 5, i, 1));
        }
        for (int steps : new int[] {0, 7, 50, 95}) addAll(all, x.at(steps), x.sees(steps, 0), x.sees(steps, 1));
        addAll(all, x.safe(0), x.safe(1), x.lost(), x.first(), x.spare(), x.trim(-1), x.trim(0));
        addAll(all, x.begin(0), x.begin(1), x.recruit(0), x.recruit(1), x.omitted(), x.ask());
        addAll(all, x.nights(7, 12, 0), x.nights(7, 12, 1));
        long h = 17;
        for (long v : all) h = 31 * h + v;
        return h;
    }

    private static void addAll(List<Long> all, long... more) {
        for (long v : more) all.add(v);
    }

    static void end() {
        System.out.println(calls + " answers, " + wrong + " not as due");
        if (calls == 0 || wrong != 0) {
            System.exit(1);
        }
    }
}

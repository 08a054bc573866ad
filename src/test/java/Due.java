/** What the tests share: answers that are due, and wards made from texts. */
final class Due {
    private static int calls = 0;
    private static int wrong = 0;

    private Due() {
    }

    static void due(String call, long got, long want) {
        calls++;
        if (got != want) {
            wrong++;
            System.out.println(call + " answered " + got + ", due is " + want);
        }
    }

    static void dueTrue(String what, boolean holds) {
        due(what, holds ? 1 : 0, 1);
    }

    static CatBeat of(String ward, String beat, String thieves) {
        CatBeat x = new CatBeat();
        typeAll(x, 0, ward);
        typeAll(x, 1, beat);
        typeAll(x, 2, thieves);
        return x;
    }

    static void typeAll(CatBeat x, int text, String bytes) {
        for (int i = 0; i < bytes.length(); i++) {
            x.type(text, bytes.charAt(i));
        }
    }

    static void end() {
        System.out.println(calls + " answers, " + wrong + " not as due");
        if (calls == 0 || wrong != 0) {
            System.exit(1);
        }
    }
}

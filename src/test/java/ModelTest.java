import java.util.Random;

/** All calls in random runs, each against the answer of the Model. */
public final class ModelTest {
    /** Behind so many calls a run may yet write a text again, and put a digest together, within its 512. */
    private static final int RUNS = 350, LAST_STEP = 230, MOST_CALLS = 512;
    private static final int[] ODD_NUMBERS = {-1, -2, 36, 60, 61, 96, 255, 256, Integer.MIN_VALUE, Integer.MAX_VALUE};

    private final Random random;
    private final String run;
    /** Of so many numbers one is an odd one: in every third run, many are. */
    private final int oddOneOf;
    private final CatBeat x = new CatBeat();
    private final Model m = new Model();
    private int calls = 0;

    private ModelTest(int seed) {
        random = new Random(seed);
        run = "run " + seed + ": ";
        oddOneOf = seed % 3 == 0 ? 4 : 25;
    }

    public static void main(String[] args) {
        for (int seed = 0; seed < RUNS; seed++) {
            new ModelTest(seed).go();
        }
        Due.end();
    }

    private void go() {
        if (random.nextInt(5) > 0) {
            typeBoth(0, randomWard(1 + random.nextInt(6), 1 + random.nextInt(6)));
        }
        if (random.nextInt(5) > 0) {
            typeBoth(1, randomOf("nesw.", random.nextInt(random.nextBoolean() ? 8 : 25)));
        }
        if (random.nextInt(5) > 0) {
            typeBoth(2, randomThieves(1 + random.nextInt(8)));
        }
        for (int steps = 0; steps < MOST_CALLS && calls < LAST_STEP; steps++) {
            step(random.nextInt(48));
        }
        due("digest", x.digest(), Due.digestOf(x));
    }

    private void typeBoth(int text, String bytes) {
        for (int i = 0; i < bytes.length(); i++) {
            type(text, bytes.charAt(i));
        }
    }

    private void type(int text, int b) {
        due("type", x.type(text, b), m.type(text, b), text, b);
    }

    private String randomOf(String signs, int n) {
        StringBuilder s = new StringBuilder();
        for (int i = 0; i < n; i++) {
            s.append(signs.charAt(random.nextInt(signs.length())));
        }
        return s.toString();
    }

    private String randomWard(int width, int rows) {
        String kinds = random.nextBoolean() ? "....ss#ld" : "..s";
        StringBuilder s = new StringBuilder(randomOf(kinds, width));
        for (int row = 1; row < rows; row++) {
            s.append(';').append(randomOf(kinds, width));
        }
        return s.toString();
    }

    private String randomThieves(int n) {
        StringBuilder s = new StringBuilder();
        for (int i = 0; i < n; i++) {
            int cell = random.nextInt(8) == 0 ? random.nextInt(40) : shopOr(random.nextInt(36));
            s.append(i == 0 ? "" : ";").append(cell / 10).append(cell % 10).append(1 + random.nextInt(9));
        }
        return s.toString();
    }

    private int shopOr(int cell) {
        String cells = m.cells();
        for (int tries = 0; tries < 20 && !cells.isEmpty(); tries++) {
            int tried = random.nextInt(cells.length());
            if (cells.charAt(tried) == 's') {
                return tried;
            }
        }
        return cell;
    }

    /** A number below n, and now and then another one. */
    private int below(int n) {
        if (random.nextInt(oddOneOf) == 0) {
            return random.nextBoolean() ? n : ODD_NUMBERS[random.nextInt(ODD_NUMBERS.length)];
        }
        return random.nextInt(n);
    }

    private void due(String call, long got, long want, int... args) {
        calls++;
        StringBuilder name = new StringBuilder(run).append(call);
        for (int arg : args) {
            name.append(' ').append(arg);
        }
        Due.due(name.toString(), got, want);
    }

    private void step(int which) {
        if (which < 8) {
            changeStep(which);
        } else if (which < 20) {
            nightStep(which);
        } else if (which < 33) {
            guessStep(which);
        } else {
            sheetStep(which);
        }
    }

    private void changeStep(int which) {
        int a = below(3);
        int b = random.nextInt(20) == 0 ? below(256) : random.nextInt(3) == 0 ? ';' : randomOf(".#sldnesw0123456789", 1).charAt(0);
        switch (which) {
            case 0: type(a, b); break;
            case 1: due("undo", x.undo(a), m.undo(a), a); break;
            case 2: fault(a); break;
            case 3: rewrite(a); break;
            case 4: a = below(40); due("cell", x.cell(a), m.cell(a), a); break;
            case 5: a = below(26); due("beat", x.beat(a), m.beat(a), a); break;
            case 6: a = below(8); b = below(2); due("thief", x.thief(a, b), m.thief(a, b), a, b); break;
            default: a = below(4); b = below(a == 0 ? 36 : a == 3 ? 2 : 10); due("set", x.set(a, b), m.set(a, b), a, b);
        }
    }

    private void fault(int text) {
        due("fault", x.fault(text), m.fault(text), text);
    }

    private void rewrite(int text) {
        if (random.nextInt(4) > 0) {
            return;
        }
        due("wipe", x.wipe(text), m.wipe(text), text);
        typeBoth(text, text == 0 ? randomWard(1 + random.nextInt(6), 1 + random.nextInt(6))
            : text == 1 ? randomOf("nesw.", random.nextInt(25)) : randomThieves(random.nextInt(9)));
        if (text >= 0 && text < 3) {
            fault(text);
        }
    }

    private void nightStep(int which) {
        int a = below(96);
        int b = below(2);
        int thief = below(8);
        switch (which) {
            case 8: due("at", x.at(a), m.at(a), a); break;
            case 9: due("sees", x.sees(a, b), m.sees(a, b), a, b); break;
            case 10: a = below(36); due("seen", x.seen(a, b), m.seen(a, b), a, b); break;
            case 11: due("takes", x.takes(thief), m.takes(thief), thief); break;
            case 12: due("safe", x.safe(b), m.safe(b), b); break;
            case 13: due("lost", x.lost(), m.lost()); break;
            case 14: due("first", x.first(), m.first()); break;
            case 15: due("spare", x.spare(), m.spare()); break;
            case 16: trim(); break;
            case 17: due("begin", x.begin(b), m.begin(b), b); break;
            case 18: due("recruit", x.recruit(b), m.recruit(b), b); break;
            default: due("nights", x.nights(a * 7919, thief * 3 + 1, b), m.nights(a * 7919, thief * 3 + 1, b), a, thief, b);
        }
    }

    private void trim() {
        // The model tries every pair out, so that long beats are asked about but seldom.
        if (m.good(1).length() < 10 || random.nextInt(10) == 0) {
            int i = below(3) - 1;
            due("trim", x.trim(i), m.trim(i), i);
        }
    }

    private void guessStep(int which) {
        int cell = random.nextBoolean() ? below(36) : shopOr(0);
        int thief = below(8);
        int b = below(2);
        int s = below(4);
        switch (which) {
            case 20: case 21: due("missed", x.missed(cell, b), m.missed(cell, b), cell, b); break;
            case 22: case 23: if (random.nextBoolean()) due("forget", x.forget(), m.forget()); break;
            case 24: due("read", x.read(s), m.read(s), s); break;
            case 25: case 26: due("omitted", x.omitted(), m.omitted()); break;
            case 27: case 28: cell = below(8) - 1; due("meant", x.meant(thief, cell), m.meant(thief, cell), thief, cell); break;
            case 29: due("ask", x.ask(), m.ask()); break;
            case 30: int seed = random.nextInt(); due("nights", x.nights(seed, cell, b), m.nights(seed, cell, b), seed, cell, b); break;
            default: fogged(below(17), random.nextInt(6) > 0 ? below(5) : below(10), thief, b);
        }
    }

    private void fogged(int c, int steps, int thief, int what) {
        due("fogged", x.fogged(c, steps, thief, what), m.fogged(c, steps, thief, what), c, steps, thief, what);
    }

    private void sheetStep(int which) {
        int s = below(4);
        int t = below(4);
        int form = below(3);
        int i = below(12);
        int j = below(12);
        int n = below(random.nextBoolean() ? 6 : 61);
        int v = random.nextInt(3) == 0 ? random.nextInt() >> random.nextInt(32) : random.nextInt(3);
        switch (which) {
            case 33: case 34: n -= random.nextInt(3); due("sheet", x.sheet(s, form, n), m.sheet(s, form, n), s, form, n); break;
            case 35: if (random.nextBoolean()) due("lose", x.lose(s), m.lose(s), s); break;
            case 36: case 37: case 38: case 39: due("put", x.put(s, form, i, v), m.put(s, form, i, v), s, form, i, v); break;
            case 40: case 41: case 42: due("get", x.get(s, form, i), m.get(s, form, i), s, form, i); break;
            case 43: case 44: due("copy", x.copy(s, i, t, j, n), m.copy(s, i, t, j, n), s, i, t, j, n); break;
            case 45: due("write", x.write(s), m.write(s), s); break;
            default: n = below(10); due("count", x.count(n), m.count(n), n);
        }
    }
}

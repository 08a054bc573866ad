import java.math.BigInteger;
import java.util.ArrayList;
import java.util.Arrays;
import java.util.List;
import java.util.regex.Matcher;
import java.util.regex.Pattern;

/**
 * The document a second time, with the whole library at hand and without a thought for speed: texts are read by
 * patterns, the constable goes by rows and columns, and whatever is asked is tried out one by one.
 */
final class Model {
    private static final int[] LIMITS = {41, 24, 31};
    private static final Pattern[][] GRAMMARS = {grammarOf(0), grammarOf(1), grammarOf(2)};

    final StringBuilder[] texts = {new StringBuilder(), new StringBuilder(), new StringBuilder()};
    final int[] settings = {0, 5, 3, 0};
    final List<int[]> missed = new ArrayList<>();
    final Object[] sheets = new Object[4];
    int finding = 0;
    /** Texts are read again only when they have changed, or the tests would take minutes. */
    private final String[] lastRead = new String[3];
    private final String[] lastGood = new String[3];

    // ---- texts

    private static Pattern[] grammarOf(int text) {
        if (text == 1) {
            return new Pattern[] {Pattern.compile("[nesw.]*")};
        }
        if (text == 2) {
            return new Pattern[] {Pattern.compile("[0-3][0-9][1-9](;[0-3][0-9][1-9]){0,7}")};
        }
        Pattern[] widths = new Pattern[6];
        for (int w = 1; w <= 6; w++) {
            widths[w - 1] = Pattern.compile("[.#sld]{" + w + "}(;[.#sld]{" + w + "}){0,5}");
        }
        return widths;
    }

    private static boolean isWell(int text, String s) {
        return s.isEmpty() || Arrays.stream(GRAMMARS[text]).anyMatch(p -> p.matcher(s).matches());
    }

    private static boolean canGoOn(int text, String s) {
        for (Pattern p : GRAMMARS[text]) {
            Matcher m = p.matcher(s);
            if (m.matches() || m.hitEnd()) {
                return true;
            }
        }
        // A ; may stand behind the last row: it is the first byte of the row behind it that cannot.
        return s.endsWith(";") && text != 1 && isWell(text, s.substring(0, s.length() - 1)) && s.length() > 1;
    }

    int faultOf(int text) {
        String s = texts[text].toString();
        if (isWell(text, s)) {
            return -1;
        }
        for (int i = 0; i < s.length(); i++) {
            if (!canGoOn(text, s.substring(0, i + 1))) {
                return i;
            }
        }
        return s.length();
    }

    String good(int text) {
        String now = texts[text].toString();
        if (!now.equals(lastRead[text])) {
            lastRead[text] = now;
            lastGood[text] = faultOf(text) == -1 ? now : "";
        }
        return lastGood[text];
    }

    String[] rows() {
        return good(0).isEmpty() ? new String[0] : good(0).split(";");
    }

    String cells() {
        return good(0).replace(";", "");
    }

    int[][] thieves() {
        if (good(2).isEmpty()) {
            return new int[0][];
        }
        return Arrays.stream(good(2).split(";"))
            .map(t -> new int[] {Integer.parseInt(t.substring(0, 2)), Integer.parseInt(t.substring(2))})
            .toArray(int[][]::new);
    }

    int type(int text, int b) {
        if (text < 0 || text > 2 || b < 0 || b > 255) return -2;
        if (texts[text].length() == LIMITS[text]) return -4;
        return texts[text].append((char) b).length();
    }

    int wipe(int text) {
        if (text < 0 || text > 2) return -2;
        int had = texts[text].length();
        texts[text].setLength(0);
        return had;
    }

    int undo(int text) {
        if (text < 0 || text > 2) return -2;
        int had = texts[text].length();
        if (had == 0) return -3;
        texts[text].setLength(had - 1);
        return had - 1;
    }

    int fault(int text) {
        return text < 0 || text > 2 ? -2 : faultOf(text);
    }

    int cell(int cell) {
        if (cell < 0 || cell > 35) return -2;
        return cell < cells().length() ? ".#sld".indexOf(cells().charAt(cell)) : -1;
    }

    int beat(int step) {
        if (step < 0 || step > 23) return -2;
        return step < good(1).length() ? "nesw.".indexOf(good(1).charAt(step)) : -1;
    }

    boolean noThief(int thief) {
        return thief < 0 || thief >= thieves().length;
    }

    int thief(int thief, int what) {
        return noThief(thief) || what < 0 || what > 1 ? -2 : thieves()[thief][what];
    }

    int set(int what, int v) {
        if (what < 0 || what > 3 || v < 0 || v > new int[] {35, 9, 9, 1}[what]) return -2;
        int was = settings[what];
        settings[what] = v;
        return was;
    }

    // ---- nights, as told: where, with which girth, by which beat, with what fog behind each number of steps

    private static boolean fits(char kind, int girth) {
        return kind == '.' || kind == 's' || kind == 'l' && girth <= 7 || kind == 'd' && girth <= 2;
    }

    int[] walk(int start, int girth, String beat) {
        String[] rows = rows();
        int[] where = new int[96];
        Arrays.fill(where, -1);
        if (start >= cells().length() || !fits(cells().charAt(start), girth)) {
            return where;
        }
        int width = rows[0].length();
        int y = start / width;
        int x = start % width;
        where[0] = start;
        for (int t = 1; t < 96; t++) {
            char step = beat.isEmpty() ? '.' : beat.charAt((t - 1) % beat.length());
            int toY = y + (step == 's' ? 1 : step == 'n' ? -1 : 0);
            int toX = x + (step == 'e' ? 1 : step == 'w' ? -1 : 0);
            if (toY >= 0 && toY < rows.length && toX >= 0 && toX < width && fits(rows[toY].charAt(toX), girth)) {
                y = toY;
                x = toX;
            }
            where[t] = y * width + x;
        }
        return where;
    }

    boolean inView(int place, int cell, int fog) {
        if (place == -1) {
            return false;
        }
        int sight = fog == 1 && settings[2] > 1 ? 1 : settings[2];
        String[] rows = rows();
        int width = rows[0].length();
        int y = place / width;
        int x = place % width;
        int toY = cell / width;
        int toX = cell % width;
        if (y != toY && x != toX || Math.abs(y - toY) + Math.abs(x - toX) > sight) {
            return false;
        }
        for (int j = Math.min(y, toY); j <= Math.max(y, toY); j++) {
            for (int i = Math.min(x, toX); i <= Math.max(x, toX); i++) {
                if (rows[j].charAt(i) == '#') {
                    return false;
                }
            }
        }
        return true;
    }

    /** Behind how many steps the thief takes: the fog is fogs[t] behind t steps, and the last of them later. */
    int takesBehind(int[] thief, int[] where, int... fogs) {
        if (thief[0] >= cells().length() || cells().charAt(thief[0]) != 's') {
            return -1;
        }
        StringBuilder night = new StringBuilder();
        for (int t = 0; t < 96; t++) {
            night.append(inView(where[t], thief[0], fogs[Math.min(t, fogs.length - 1)]) ? 'x' : '-');
        }
        int from = night.indexOf("-".repeat(thief[1]));
        return from == -1 ? -1 : from + thief[1] - 1;
    }

    int[] tonight() {
        return walk(settings[0], settings[1], good(1));
    }

    int lostOn(int[] where) {
        int lost = 0;
        for (int[] thief : thieves()) {
            if (takesBehind(thief, where, settings[3]) != -1) {
                lost++;
            }
        }
        return lost;
    }

    boolean takenFrom(int cell, int[] where, int[][] thieves) {
        for (int[] thief : thieves) {
            if (thief[0] == cell && takesBehind(thief, where, settings[3]) != -1) {
                return true;
            }
        }
        return false;
    }

    int at(int steps) {
        return steps < 0 || steps > 95 ? -2 : tonight()[steps];
    }

    int sees(int steps, int half) {
        if (steps < 0 || steps > 95 || half < 0 || half > 1) return -2;
        int bits = 0;
        for (int cell = 18 * half; cell < Math.min(18 * half + 18, cells().length()); cell++) {
            if (inView(tonight()[steps], cell, settings[3])) bits += 1 << cell - 18 * half;
        }
        return bits;
    }

    int seen(int cell, int what) {
        if (cell < 0 || cell >= cells().length() || what < 0 || what > 1) return -2;
        int[] where = tonight();
        StringBuilder night = new StringBuilder();
        for (int t = 0; t < 96; t++) night.append(inView(where[t], cell, settings[3]) ? 'x' : '-');
        if (what == 0) return (int) night.chars().filter(c -> c == 'x').count();
        return Arrays.stream(night.toString().split("x")).mapToInt(String::length).max().orElse(0);
    }

    int takes(int thief) {
        return noThief(thief) ? -2 : takesBehind(thieves()[thief], tonight(), settings[3]);
    }

    int safe(int half) {
        if (half < 0 || half > 1) return -2;
        int bits = 0;
        for (int cell = 18 * half; cell < Math.min(18 * half + 18, cells().length()); cell++) {
            if (cells().charAt(cell) == 's' && !takenFrom(cell, tonight(), thieves())) bits += 1 << cell - 18 * half;
        }
        return bits;
    }

    int lost() {
        return lostOn(tonight());
    }

    int first() {
        for (int t = 0; t < 96; t++) {
            for (int thief = 0; thief < thieves().length; thief++) {
                if (takes(thief) == t) return thief;
            }
        }
        return -1;
    }

    // ---- beats

    private static String without(String beat, int... steps) {
        StringBuilder left = new StringBuilder(beat);
        for (int i = steps.length - 1; i >= 0; i--) left.deleteCharAt(steps[i]);
        return left.toString();
    }

    int[] nightWithout(int... steps) {
        return walk(settings[0], settings[1], without(good(1), steps));
    }

    int spare() {
        int bits = 0;
        int lost = lost();
        for (int i = 0; i < good(1).length(); i++) {
            if (lostOn(nightWithout(i)) <= lost) bits += 1 << i;
        }
        return bits;
    }

    int[] trimmed() {
        int lost = lost();
        int n = good(1).length();
        for (int i = 0; i < n; i++) {
            if (lostOn(nightWithout(i)) < lost) return new int[] {i};
        }
        for (int i = 0; i < n; i++) {
            for (int j = i + 1; j < n; j++) {
                if (lostOn(nightWithout(i, j)) < lost) return new int[] {i, j};
            }
        }
        return new int[0];
    }

    int trim(int i) {
        if (i < -1 || i > 1) return -2;
        int[] steps = trimmed();
        if (i == -1) return steps.length == 0 ? -1 : steps.length;
        return i < steps.length ? steps[i] : -1;
    }

    int begin(int what) {
        if (what < 0 || what > 1) return -2;
        for (int lost = 0; lost <= 8; lost++) {
            for (int cell = 0; cell < cells().length(); cell++) {
                if (fits(cells().charAt(cell), settings[1]) && lostOn(walk(cell, settings[1], good(1))) == lost) {
                    return what == 0 ? cell : lost;
                }
            }
        }
        return -1;
    }

    int recruit(int what) {
        if (what < 0 || what > 1) return -2;
        for (int lost = 0; lost <= 8; lost++) {
            for (int girth = 0; girth < 10; girth++) {
                if (lostOn(walk(settings[0], girth, good(1))) == lost) return what == 0 ? girth : lost;
            }
        }
        throw new IllegalStateException();
    }

    // ---- missed, fog, nights

    int missed(int cell, int is) {
        if (cell < 0 || cell > 35 || is < 0 || is > 1) return -2;
        if (missed.size() == 8) return -4;
        missed.add(new int[] {cell, is});
        return missed.size();
    }

    int forget() {
        int had = missed.size();
        missed.clear();
        return had;
    }

    int read(int s) {
        if (s < 0 || s > 3) return -2;
        if (sheets[s] == null) return finding(1);
        int read = 0;
        while (2 * read + 1 < size(s) && missed(item(s, 2 * read), item(s, 2 * read + 1)) > 0) read++;
        return read;
    }

    private boolean fitsMissed(int[] where, int[][] thieves) {
        return missed.stream().allMatch(m -> takenFrom(m[0], where, thieves) == (m[1] == 1));
    }

    int omitted() {
        int bits = 0;
        for (int i = 0; i < good(1).length(); i++) {
            if (fitsMissed(nightWithout(i), thieves())) bits += 1 << i;
        }
        return bits;
    }

    int meant(int thief, int i) {
        if (noThief(thief) || i < -1 || i > 35) return -2;
        List<Integer> cells = new ArrayList<>();
        for (int cell = 0; cell < cells().length(); cell++) {
            int[][] others = thieves();
            others[thief][0] = cell;
            if (fitsMissed(tonight(), others)) cells.add(cell);
        }
        return i == -1 ? cells.size() : i < cells.size() ? cells.get(i) : -1;
    }

    int ask() {
        int best = -1;
        int least = Integer.MAX_VALUE;
        int omitted = omitted();
        for (int cell = 0; cell < cells().length(); cell++) {
            if (cells().charAt(cell) != 's') continue;
            int[] numbers = new int[2];
            for (int i = 0; i < good(1).length(); i++) {
                if ((omitted >> i & 1) == 1) numbers[takenFrom(cell, nightWithout(i), thieves()) ? 1 : 0]++;
            }
            if (Math.max(numbers[0], numbers[1]) < least) {
                best = cell;
                least = Math.max(numbers[0], numbers[1]);
            }
        }
        return best;
    }

    long fogged(int c, int steps, int thief, int what) {
        if (c < 0 || c > 16 || steps < 0 || steps > 9 || noThief(thief) || what < 0 || what > 1) {
            return Long.MIN_VALUE + 2;
        }
        int[] where = tonight();
        BigInteger above = BigInteger.ZERO;
        for (int weather = 0; weather < 1 << steps + 1; weather++) {
            int[] fogs = new int[steps + 2];
            BigInteger weight = BigInteger.ONE;
            for (int t = 0; t <= steps; t++) {
                fogs[t] = weather >> t & 1;
                weight = weight.multiply(BigInteger.valueOf(fogs[t] == 1 ? c : 16 - c));
            }
            if (weight.signum() != 0 && takesBehind(thieves()[thief], where, fogs) != -1) above = above.add(weight);
        }
        BigInteger below = BigInteger.valueOf(16).pow(steps + 1);
        BigInteger common = above.gcd(below);
        return (what == 0 ? above : below).divide(common).longValueExact();
    }

    int nights(int seed, int n, int what) {
        if (n < 1 || n > 24 || what < 0 || what > 1) return -2;
        StringBuilder beat = new StringBuilder();
        BigInteger s = BigInteger.valueOf(seed);
        for (int i = 0; i < n; i++) {
            s = s.multiply(BigInteger.valueOf(1103515245)).add(BigInteger.valueOf(12345)).mod(BigInteger.ONE.shiftLeft(32));
            beat.append("nesw.".charAt(s.shiftRight(16).intValueExact() % 5));
        }
        int[] where = walk(settings[0], settings[1], beat.toString());
        return what == 0 ? lostOn(where) : where[n];
    }

    // ---- sheets, as real arrays whose own exceptions are the findings

    private int finding(int number) {
        finding = number;
        return -10 - number;
    }

    private int size(int s) {
        return java.lang.reflect.Array.getLength(sheets[s]);
    }

    private int item(int s, int i) {
        return java.lang.reflect.Array.getInt(sheets[s], i);
    }

    int sheet(int s, int form, int n) {
        if (s < 0 || s > 3 || form < 0 || form > 2 || n > 60) return -2;
        try {
            sheets[s] = form == 0 ? new byte[n] : form == 1 ? new short[n] : (Object) new int[n];
            return n;
        } catch (NegativeArraySizeException e) {
            return finding(5);
        }
    }

    int lose(int s) {
        if (s < 0 || s > 3) return -2;
        if (sheets[s] == null) return finding(1);
        int had = size(s);
        sheets[s] = null;
        return had;
    }

    int put(int s, int form, int i, int v) {
        if (s < 0 || s > 3 || form < 0 || form > 2) return -2;
        try {
            if (sheets[s] == null) return finding(1);
            if (form == 0) ((byte[]) sheets[s])[i] = (byte) v;
            if (form == 1) ((short[]) sheets[s])[i] = (short) v;
            if (form == 2) ((int[]) sheets[s])[i] = v;
            return 1;
        } catch (ClassCastException e) {
            return finding(3);
        } catch (ArrayIndexOutOfBoundsException e) {
            return finding(2);
        }
    }

    int get(int s, int form, int i) {
        if (s < 0 || s > 3 || form < 0 || form > 2) return Integer.MIN_VALUE;
        try {
            if (sheets[s] == null) finding(1);
            else if (form == 0) return ((byte[]) sheets[s])[i];
            else if (form == 1) return ((short[]) sheets[s])[i];
            else return ((int[]) sheets[s])[i];
        } catch (ClassCastException e) {
            finding(3);
        } catch (ArrayIndexOutOfBoundsException e) {
            finding(2);
        }
        return Integer.MIN_VALUE;
    }

    int copy(int s, int i, int t, int j, int n) {
        if (s < 0 || s > 3 || t < 0 || t > 3) return -2;
        try {
            System.arraycopy(sheets[s], i, sheets[t], j, n);
            return 1;
        } catch (NullPointerException e) {
            return finding(1);
        } catch (ArrayStoreException e) {
            return finding(4);
        } catch (IndexOutOfBoundsException e) {
            return finding(2);
        }
    }

    int write(int s) {
        if (s < 0 || s > 3) return -2;
        if (sheets[s] == null) return finding(1);
        int form = sheets[s] instanceof byte[] ? 0 : sheets[s] instanceof short[] ? 1 : 2;
        int[] where = tonight();
        for (int i = 0; i < size(s); i++) put(s, form, i, where[i]);
        return size(s);
    }

    int count(int what) {
        switch (what) {
            case 0: return cells().length();
            case 1: return good(1).length();
            case 2: return thieves().length;
            case 3: case 4: case 5: return texts[what - 3].length();
            case 6: return (int) cells().chars().filter(c -> c == 's').count();
            case 7: return missed.size();
            case 8: return finding;
            default: return -2;
        }
    }
}

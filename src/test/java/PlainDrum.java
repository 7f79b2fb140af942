import java.math.BigInteger;
import java.util.ArrayDeque;
import java.util.ArrayList;
import java.util.Deque;
import java.util.HashMap;
import java.util.HashSet;
import java.util.List;
import java.util.Map;
import java.util.Set;
import java.util.TreeSet;
import java.util.regex.Matcher;
import java.util.regex.Pattern;

/** The document a second time, written for plainness alone: by long runs of strokes and by trying all there is. */
final class PlainDrum {
    private static final int BAD = -1, STATE = -2, FULL = -3, NONE = -9, NO = -1000000;

    /** What the text told. */
    private static final class Told {
        final List<Integer> slow = new ArrayList<>();
        final Set<Integer> deaf = new TreeSet<>();
        final Map<Set<Integer>, Integer> ways = new HashMap<>();
        int reach = 20;
        int start = 0;
    }

    private record Mule(int from, int to, int beats) {
    }

    /** What changes by what is done. */
    private static final class Things {
        int strokes;
        int beat;
        int place;
        boolean fog;
        List<Integer> slow = new ArrayList<>();
        Set<Integer> deaf = new TreeSet<>();
        List<Mule> mules = new ArrayList<>();
        List<Integer> struckIn = new ArrayList<>();

        Things again() {
            Things t = new Things();
            t.strokes = strokes;
            t.beat = beat;
            t.place = place;
            t.fog = fog;
            t.slow = new ArrayList<>(slow);
            t.deaf = new TreeSet<>(deaf);
            t.mules = new ArrayList<>(mules);
            t.struckIn = new ArrayList<>(struckIn);
            return t;
        }
    }

    private record Stroke(int village, int beat) {
    }

    private final StringBuilder text = new StringBuilder();
    private Told told = new Told();
    private Things things = new Things();
    private final Deque<Things> undone = new ArrayDeque<>();
    private final Map<Integer, Things> images = new HashMap<>();
    private final List<int[]> heardOnes = new ArrayList<>();
    private final List<Integer> toldBeats = new ArrayList<>();
    private long traced = 0;

    // ---- the valley

    int type(int letter) {
        if (letter < 0 || letter > 255) return BAD;
        if (text.length() == 200) return FULL;
        text.append((char) letter);
        return text.length();
    }

    int clear() {
        int n = text.length();
        text.setLength(0);
        return n;
    }

    int valley() {
        Told read = new Told();
        int items = 0;
        boolean reachTold = false;
        boolean startTold = false;
        Matcher m = Pattern.compile("[0-9]+|[^ ]", Pattern.DOTALL).matcher(text);
        List<String> tokens = new ArrayList<>();
        List<Integer> places = new ArrayList<>();
        while (m.find()) {
            tokens.add(m.group());
            places.add(m.start());
        }
        tokens.add("end");
        places.add(text.length());
        int i = 0;
        while (!tokens.get(i).equals("end")) {
            String head = tokens.get(i);
            int n = read.slow.size();
            int[][] spans;
            if (head.equals("v") && n < 6) spans = new int[][] {{0, 9}, {0, 1}};
            else if (head.equals("e")) spans = new int[][] {{0, n - 1}, {0, n - 1}, {1, 9}};
            else if (head.equals("r") && !reachTold) spans = new int[][] {{1, 20}};
            else if (head.equals("s") && !startTold) spans = new int[][] {{0, n - 1}};
            else return -10 - places.get(i);
            int[] numbers = new int[spans.length];
            for (int k = 0; k < spans.length; k++) {
                i++;
                int number = numberOf(tokens.get(i));
                if (number < spans[k][0] || number > spans[k][1]) return -10 - places.get(i);
                if (head.equals("e") && k == 1 && number == numbers[0]) return -10 - places.get(i);
                numbers[k] = number;
            }
            i++;
            if (!tokens.get(i).equals(";")) return -10 - places.get(i);
            i++;
            items++;
            switch (head) {
                case "v" -> {
                    if (numbers[1] == 1) read.deaf.add(n);
                    read.slow.add(numbers[0]);
                }
                case "e" -> read.ways.put(Set.of(numbers[0], numbers[1]), numbers[2]);
                case "r" -> {
                    reachTold = true;
                    read.reach = numbers[0];
                }
                default -> {
                    startTold = true;
                    read.start = numbers[0];
                }
            }
        }
        told = read;
        things = atFirst();
        undone.clear();
        images.clear();
        heardOnes.clear();
        toldBeats.clear();
        text.setLength(0);
        return items;
    }

    private static int numberOf(String token) {
        return token.matches("0|[1-9]|1[0-9]|20") ? Integer.parseInt(token) : -1;
    }

    private Things atFirst() {
        Things t = new Things();
        t.slow = new ArrayList<>(told.slow);
        t.deaf = new TreeSet<>(told.deaf);
        for (int v = 0; v < told.slow.size(); v++) t.struckIn.add(v == told.start ? 1 : 0);
        if (!told.slow.isEmpty()) {
            t.strokes = 1;
            t.place = told.start;
        }
        return t;
    }

    private boolean isVillage(int v) {
        return v >= 0 && v < told.slow.size();
    }

    private static boolean isIn(int x, int a, int b) {
        return a <= x && x <= b;
    }

    int village(int v, int what) {
        if (!isVillage(v) || !isIn(what, 0, 3)) return BAD;
        if (what == 0) return things.slow.get(v);
        if (what == 1) return things.deaf.contains(v) ? 1 : 0;
        if (what == 3) return things.struckIn.get(v);
        int bits = 0;
        for (Set<Integer> pair : told.ways.keySet()) {
            if (pair.contains(v)) for (int w : pair) if (w != v) bits |= 1 << w;
        }
        return bits;
    }

    int way(int a, int b) {
        if (!isVillage(a) || !isVillage(b)) return BAD;
        if (a == b) return NONE;
        return told.ways.getOrDefault(Set.of(a, b), NONE);
    }

    /** In how many beats a stroke of one village is heard by another, NONE if it is not. */
    private int beatsTo(Things t, boolean fog, int from, int to) {
        if (from == to || t.deaf.contains(to)) return NONE;
        TreeSet<Integer> all = new TreeSet<>();
        Integer way = told.ways.get(Set.of(from, to));
        if (way != null && (fog ? 2 * way : way) <= told.reach) all.add(fog ? 2 * way : way);
        for (Mule mule : t.mules) if (mule.from == from && mule.to == to) all.add(mule.beats);
        return all.isEmpty() ? NONE : all.first();
    }

    /** The stroke behind another one, null if it ended. */
    private Stroke behind(Things t, boolean fog, Stroke stroke) {
        Stroke next = null;
        int latest = -1;
        for (int v = told.slow.size() - 1; v >= 0; v--) {
            int beats = beatsTo(t, fog, stroke.village, v);
            if (beats != NONE && beats >= latest) {
                latest = beats;
                next = new Stroke(v, stroke.beat + beats + t.slow.get(v));
            }
        }
        return next;
    }

    /** So many strokes behind one of a village at beat 0, or fewer, if it ends. */
    private List<Stroke> run(Things t, int start, int strokes) {
        List<Stroke> all = new ArrayList<>();
        if (told.slow.isEmpty()) return all;
        Stroke s = new Stroke(start, 0);
        for (int i = 0; i <= strokes && s != null; i++) {
            all.add(s);
            s = behind(t, t.fog, s);
        }
        return all;
    }

    private static final int LONG = 60;

    private boolean isEndless(Things t, int start) {
        return run(t, start, LONG).size() == LONG + 1;
    }

    int hears(int a, int b) {
        return isVillage(a) && isVillage(b) ? beatsTo(things, things.fog, b, a) : BAD;
    }

    int now(int what) {
        return switch (what) {
            case 0 -> things.strokes;
            case 1 -> things.beat;
            case 2 -> things.place;
            case 3 -> things.fog ? 1 : 0;
            case 4 -> things.mules.size();
            case 5 -> undone.size();
            default -> BAD;
        };
    }

    // ---- what is done

    private void remember() {
        undone.addLast(things.again());
        if (undone.size() > 10) undone.removeFirst();
    }

    int strikes() {
        if (told.slow.isEmpty() || things.strokes == 9999) return STATE;
        Stroke next = behind(things, things.fog, new Stroke(things.place, things.beat));
        if (next == null) return STATE;
        remember();
        things.strokes++;
        things.beat = next.beat;
        things.place = next.village;
        things.struckIn.set(next.village, things.struckIn.get(next.village) + 1);
        return next.village;
    }

    int fog(int is) {
        if (!isIn(is, 0, 1)) return BAD;
        remember();
        int was = now(3);
        things.fog = is == 1;
        return was;
    }

    int cold(int v, int slow) {
        if (!isVillage(v) || !isIn(slow, 0, 9)) return BAD;
        remember();
        return things.slow.set(v, slow);
    }

    int deafens(int v, int is) {
        if (!isVillage(v) || !isIn(is, 0, 1)) return BAD;
        remember();
        int was = village(v, 1);
        if (is == 1) things.deaf.add(v);
        else things.deaf.remove(v);
        return was;
    }

    int sends(int a, int b, int lasts) {
        if (!isVillage(a) || !isVillage(b) || a == b || !isIn(lasts, 1, 20)) return BAD;
        if (things.mules.size() == 2) return FULL;
        remember();
        things.mules.add(new Mule(a, b, lasts));
        return things.mules.size();
    }

    int undo() {
        if (undone.isEmpty()) return STATE;
        things = undone.removeLast();
        return undone.size();
    }

    // ---- how it goes

    int inStrokes(int n, int what) {
        if (!isIn(n, 0, 60) || !isIn(what, 0, 1)) return BAD;
        List<Stroke> run = run(things, things.place, n);
        if (run.size() <= n) return NONE;
        return what == 0 ? run.get(n).village : things.beat + run.get(n).beat;
    }

    int ends() {
        if (told.slow.isEmpty()) return 0;
        return isEndless(things, things.place) ? NONE : run(things, things.place, LONG).size() - 1;
    }

    /** From which stroke on it goes round, how many strokes, how many beats; null if it ends. */
    private int[] roundOf(Things t, int start) {
        List<Stroke> run = run(t, start, LONG);
        if (run.size() <= LONG) return null;
        for (int from = 0; from < LONG / 2; from++) {
            for (int size = 1; size < LONG / 2; size++) {
                boolean same = true;
                for (int i = from; i + size < run.size(); i++) {
                    same &= run.get(i).village == run.get(i + size).village;
                }
                if (same) return new int[] {from, size, run.get(from + size).beat - run.get(from).beat};
            }
        }
        throw new AssertionError("no round");
    }

    int round(int what) {
        if (!isIn(what, 0, 2)) return BAD;
        int[] round = roundOf(things, things.place);
        return round == null ? NONE : round[what];
    }

    int heardIn(int v, int n) {
        if (!isVillage(v) || !isIn(n, 1, 200)) return BAD;
        int all = 0;
        for (Stroke s : run(things, things.place, 210)) {
            int beats = beatsTo(things, things.fog, s.village, v);
            if (beats != NONE && s.beat + beats <= n) all++;
        }
        return all;
    }

    // ---- who ends it, mules

    int enders() {
        int bits = 0;
        for (int v = 0; v < told.slow.size(); v++) {
            Things t = things.again();
            if (t.deaf.add(v) && !isEndless(t, t.place)) bits |= 1 << v;
        }
        return bits;
    }

    int mules(int m, int what) {
        if (!isIn(m, 1, 20) || !isIn(what, 0, 2)) return BAD;
        List<Mule> all = new ArrayList<>();
        int n = told.slow.size();
        for (int a = 0; a < n; a++) for (int b = 0; b < n; b++) if (a != b) all.add(new Mule(a, b, m));
        List<List<Mule>> tries = new ArrayList<>();
        tries.add(List.of());
        for (Mule mule : all) tries.add(List.of(mule));
        for (int i = 0; i < all.size(); i++) {
            for (int j = i + 1; j < all.size(); j++) tries.add(List.of(all.get(i), all.get(j)));
        }
        for (List<Mule> more : tries) {
            Things t = things.again();
            t.mules.addAll(more);
            if (!isEndless(t, t.place)) continue;
            if (what == 0) return more.size();
            return what > more.size() ? NONE : 10 * more.get(what - 1).from + more.get(what - 1).to;
        }
        return NONE;
    }

    int fastest() {
        int best = NONE;
        double fewest = 1e9;
        for (int v = 0; v < told.slow.size(); v++) {
            int[] round = roundOf(things, v);
            // rounds have 6 strokes at most, so unlike ratios are 1/36 apart at least
            if (round != null && (double) round[2] / round[1] < fewest - 0.01) {
                fewest = (double) round[2] / round[1];
                best = v;
            }
        }
        return best;
    }

    // ---- what was heard

    int heard(int v, int beat) {
        if (!isVillage(v) || !isIn(beat, 0, 200)) return BAD;
        if (heardOnes.size() == 5) return FULL;
        heardOnes.add(new int[] {v, beat});
        return heardOnes.size();
    }

    int forget() {
        int n = heardOnes.size();
        heardOnes.clear();
        return n;
    }

    int mayBe() {
        Things t = atFirst();
        int bits = 0;
        for (int start = 0; start < told.slow.size(); start++) {
            Set<List<Integer>> facts = new HashSet<>();
            for (Stroke s : run(t, start, 210)) {
                for (int v = 0; v < told.slow.size(); v++) {
                    int beats = beatsTo(t, false, s.village, v);
                    if (beats != NONE) facts.add(List.of(v, s.beat + beats));
                }
            }
            boolean so = true;
            for (int[] one : heardOnes) so &= facts.contains(List.of(one[0], one[1]));
            if (so) bits |= 1 << start;
        }
        return bits;
    }

    int tells(int beat) {
        if (!isIn(beat, 0, 400)) return BAD;
        if (toldBeats.size() == 6) return FULL;
        toldBeats.add(beat);
        return toldBeats.size();
    }

    int unsay() {
        int n = toldBeats.size();
        toldBeats.clear();
        return n;
    }

    int tooMany() {
        Set<Integer> struck = new HashSet<>();
        for (Stroke s : run(atFirst(), told.start, 410)) struck.add(s.beat);
        if (struck.containsAll(toldBeats)) return 0;
        for (int i = 0; i < toldBeats.size(); i++) {
            List<Integer> others = new ArrayList<>(toldBeats);
            others.remove(i);
            if (struck.containsAll(others)) return 1 << i;
        }
        return NONE;
    }

    // ---- two drums, odds

    int meet(int v, int what) {
        if (!isVillage(v) || !isIn(what, 0, 1)) return BAD;
        Set<Stroke> others = new HashSet<>(run(things, v, 410));
        for (Stroke s : run(things, things.place, 410)) {
            if (s.beat <= 400 && others.contains(s)) return what == 0 ? s.beat : s.village;
        }
        return NONE;
    }

    int odds(int v, int p, int n, int what) {
        if (!isVillage(v) || !isIn(p, 0, 10) || !isIn(n, 0, 6) || !isIn(what, 0, 1)) return BAD;
        BigInteger upper = BigInteger.ZERO;
        for (int fogs = 0; fogs < 1 << n; fogs++) {
            Stroke s = new Stroke(things.place, 0);
            BigInteger weight = BigInteger.ONE;
            for (int i = 0; i < n && s != null; i++) {
                boolean fog = (fogs >> i & 1) == 1;
                weight = weight.multiply(BigInteger.valueOf(fog ? p : 10 - p));
                s = behind(things, fog, s);
            }
            if (s != null && s.village == v) upper = upper.add(weight);
        }
        BigInteger lower = BigInteger.TEN.pow(n);
        BigInteger common = upper.gcd(lower);
        return (what == 0 ? upper : lower).divide(common).intValueExact();
    }

    // ---- kinds, images

    int rate(int kind, int v) {
        if (!isIn(kind, 0, 5) || !isVillage(v)) return NO;
        int ways = 0;
        int longest = 0;
        for (Map.Entry<Set<Integer>, Integer> e : told.ways.entrySet()) {
            if (e.getKey().contains(v)) {
                ways++;
                longest = Math.max(longest, e.getValue());
            }
        }
        int slow = things.slow.get(v);
        traced += new int[] {1, 11, 101, 1011, 10101, 100001}[kind];
        return switch (kind) {
            case 0 -> slow;
            case 1 -> slow + ways;
            case 2 -> slow - longest;
            case 3 -> 2 * (slow + ways);
            case 4 -> slow - longest + v;
            default -> slow + things.struckIn.get(v);
        };
    }

    int keep(int image) {
        if (!isIn(image, 0, 1)) return BAD;
        images.put(image, things.again());
        return things.strokes;
    }

    int back(int image) {
        if (!isIn(image, 0, 1)) return BAD;
        if (!images.containsKey(image)) return STATE;
        things = images.get(image).again();
        undone.clear();
        return things.strokes;
    }

    int count(int what) {
        return switch (what) {
            case 0 -> told.slow.size();
            case 1 -> told.reach;
            case 2 -> told.start;
            case 3 -> heardOnes.size();
            case 4 -> toldBeats.size();
            case 5 -> text.length();
            default -> BAD;
        };
    }

    long trace() {
        return traced;
    }
}

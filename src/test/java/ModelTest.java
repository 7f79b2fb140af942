import java.lang.reflect.Method;
import java.util.ArrayList;
import java.util.List;
import java.util.Random;

/** Runs of calls by fixed seeds, on the program and on PlainDrum: every answer is the same. */
public final class ModelTest {
    private static final int RUNS = 1500;
    private static final int[] EDGES = {Integer.MIN_VALUE, -1000000, -9, -1, 9, 10, 11, 19, 20, 21, 59, 60, 61, 199, 200,
        201, 255, 256, 399, 400, 401, 10000, Integer.MAX_VALUE};

    private static final class Call {
        final Method real;
        final Method plain;

        Call(Method real, Method plain) {
            this.real = real;
            this.plain = plain;
        }
    }

    private final Random random;
    private final List<String> done = new ArrayList<>();
    private FarDrum drum = new FarDrum();
    private PlainDrum plain = new PlainDrum();

    private ModelTest(long seed) {
        random = new Random(seed);
    }

    public static void main(String[] args) throws Exception {
        List<Call> calls = calls();
        Check.due("methods of the face", calls.size(), 33);
        for (int run = 0; run < RUNS; run++) {
            if (!new ModelTest(run).isRunSame(calls)) {
                Check.due("run " + run, 1, 0);
                break;
            }
        }
        Check.finish();
    }

    private static List<Call> calls() throws Exception {
        List<Call> calls = new ArrayList<>();
        for (Method m : FarDrum.class.getDeclaredMethods()) {
            if (java.lang.reflect.Modifier.isPublic(m.getModifiers())) {
                Method plain = PlainDrum.class.getDeclaredMethod(m.getName(), m.getParameterTypes());
                plain.setAccessible(true);
                calls.add(new Call(m, plain));
            }
        }
        calls.sort((a, b) -> a.real.getName().compareTo(b.real.getName()));
        return calls;
    }

    private boolean isRunSame(List<Call> calls) throws Exception {
        for (int texts = 0; texts < 2; texts++) {
            if (!isTextSame()) return false;
            for (int i = 0; i < 90; i++) {
                Call call = calls.get(random.nextInt(calls.size()));
                if (!isSame(call)) return false;
            }
            if (!isStateSame()) return false;
        }
        return true;
    }

    private boolean isTextSame() {
        drum.clear();
        plain.clear();
        String text = text();
        for (char c : text.toCharArray()) {
            drum.type(c);
            plain.type(c);
        }
        done.add("valley() of " + text);
        return isEqual(drum.valley(), plain.valley());
    }

    private boolean isEqual(long got, long want) {
        if (got == want) return true;
        for (String line : done) System.out.println(line);
        System.out.println("answered " + got + ", due is " + want);
        return false;
    }

    private boolean isSame(Call call) throws Exception {
        Object[] args = new Object[call.real.getParameterCount()];
        for (int i = 0; i < args.length; i++) args[i] = argument();
        done.add(call.real.getName() + java.util.Arrays.toString(args));
        long got = ((Number) call.real.invoke(drum, args)).longValue();
        long want = ((Number) call.plain.invoke(plain, args)).longValue();
        return isEqual(got, want);
    }

    private boolean isStateSame() {
        done.add("the state behind that");
        boolean same = isEqual(drum.trace(), plain.trace());
        for (int what = 0; what < 6; what++) {
            same = same && isEqual(drum.now(what), plain.now(what)) && isEqual(drum.count(what), plain.count(what));
            for (int v = 0; v < 6; v++) {
                same = same && isEqual(drum.village(v, what), plain.village(v, what));
                same = same && isEqual(drum.way(v, what), plain.way(v, what));
                same = same && isEqual(drum.hears(v, what), plain.hears(v, what));
            }
        }
        return same;
    }

    private int argument() {
        int dice = random.nextInt(40);
        if (dice < 2) return EDGES[random.nextInt(EDGES.length)];
        if (dice < 20) return random.nextInt(3);
        if (dice < 33) return random.nextInt(7);
        if (dice < 37) return random.nextInt(22);
        return random.nextInt(402);
    }

    /** A text that is mostly right. */
    private String text() {
        StringBuilder text = new StringBuilder();
        int villages = random.nextInt(12) == 0 ? random.nextInt(2) : 2 + random.nextInt(5);
        if (random.nextInt(3) == 0) text.append("r ").append(1 + random.nextInt(20)).append(";");
        for (int v = 0; v < villages; v++) {
            int slow = random.nextInt(2) * random.nextInt(10);
            text.append("v").append(slow).append(" ").append(random.nextInt(6) == 0 ? 1 : 0).append(";");
        }
        int ways = villages < 2 ? 0 : random.nextInt(3 * villages);
        for (int i = 0; i < ways && text.length() < 180; i++) {
            int a = random.nextInt(villages);
            int b = (a + 1 + random.nextInt(villages - 1)) % villages;
            text.append("e").append(a).append(" ").append(b).append(" ").append(1 + random.nextInt(9)).append(";");
        }
        if (villages > 0 && random.nextInt(3) == 0) text.append("s").append(random.nextInt(villages)).append(";");
        if (random.nextInt(6) == 0) damage(text);
        return text.toString();
    }

    private void damage(StringBuilder text) {
        String letters = "vers;0123456789  x" + (char) 9 + (char) 0 + (char) 255;
        for (int i = 1 + random.nextInt(3); i > 0 && text.length() > 0; i--) {
            int place = random.nextInt(text.length());
            char letter = letters.charAt(random.nextInt(letters.length()));
            if (random.nextInt(3) == 0) text.deleteCharAt(place);
            else if (random.nextInt(2) == 0) text.insert(place, letter);
            else text.setCharAt(place, letter);
        }
    }
}

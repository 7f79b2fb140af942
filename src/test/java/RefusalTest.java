import java.lang.reflect.Method;
import java.lang.reflect.Modifier;
import java.util.Arrays;
import java.util.List;

/** Every method with every mix of odd numbers, in several states: none throws, none that is refused changes anything. */
public final class RefusalTest {
    private static final int[] ODD = {Integer.MIN_VALUE, -1, 0, 1, 2, 5, 6, 7, 21, 402, Integer.MAX_VALUE};
    private static final List<String> CHANGERS = List.of("type", "clear", "valley", "strikes", "fog", "cold",
        "deafens", "sends", "undo", "heard", "forget", "tells", "unsay", "keep", "back", "rate");
    private static final String TEXT = "v1 0;v4 1;v0 0;e0 1 9;e0 2 3;s1;r17;";

    public static void main(String[] args) throws Exception {
        for (int state = 0; state < 4; state++) {
            for (Method method : FarDrum.class.getDeclaredMethods()) {
                if (Modifier.isPublic(method.getModifiers())) {
                    tryAll(state, method, new int[method.getParameterCount()], 0);
                }
            }
        }
        Check.finish();
    }

    private static void tryAll(int state, Method method, int[] args, int from) throws Exception {
        if (from == args.length) {
            tryOne(state, method, args);
            return;
        }
        for (int odd : ODD) {
            args[from] = odd;
            tryAll(state, method, args, from + 1);
        }
    }

    private static void tryOne(int state, Method method, int[] args) throws Exception {
        FarDrum drum = make(state);
        Object[] boxed = Arrays.stream(args).boxed().toArray();
        List<Long> ahead = Look.at(make(state));
        long answer = ((Number) method.invoke(drum, boxed)).longValue();
        boolean mayChange = CHANGERS.contains(method.getName()) && !isRefusal(method, answer);
        if (!mayChange && !Look.at(drum).equals(ahead)) {
            Check.due("something changed by " + method.getName() + Arrays.toString(args), 1, 0);
        }
    }

    private static boolean isRefusal(Method method, long answer) {
        if (method.getName().equals("rate")) return answer == FarDrum.NO;
        if (method.getName().equals("valley")) return answer <= -10;
        return answer == FarDrum.BAD || answer == FarDrum.STATE || answer == FarDrum.FULL;
    }

    private static FarDrum make(int state) {
        FarDrum drum = new FarDrum();
        if (state == 0) return drum;
        tell(drum, TEXT);
        drum.valley();
        if (state == 1) return drum;
        drum.strikes();
        drum.fog(1);
        drum.keep(1);
        drum.sends(2, 0, 4);
        drum.sends(0, 1, 7);
        for (int i = 0; i < 6; i++) drum.heard(i % 3, 4 * i);
        for (int i = 0; i < 7; i++) drum.tells(5 * i);
        tell(drum, "v1 0;v");
        if (state == 2) return drum;
        for (int i = 0; i < 200; i++) drum.type(' ');
        drum.deafens(0, 1);
        for (int i = 0; i < 12; i++) drum.cold(1, i % 10);
        return drum;
    }

    private static void tell(FarDrum drum, String text) {
        for (char c : text.toCharArray()) drum.type(c);
    }
}

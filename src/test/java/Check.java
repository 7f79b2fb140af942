import java.util.function.Supplier;
import java.util.function.ToLongFunction;

/** What the tests share: answers that are due, refusals that change nothing, texts told letter by letter. */
final class Check {
    private static int wrong = 0;

    private Check() {
    }

    static void due(String call, long got, long want) {
        if (got != want) {
            wrong++;
            System.out.println(call + " answered " + got + ", due is " + want);
        }
    }

    static void type(FarDrum drum, String text) {
        int had = drum.count(5);
        for (int i = 0; i < text.length(); i++) {
            due("type(" + (int) text.charAt(i) + ")", drum.type(text.charAt(i)), had + i + 1);
        }
    }

    /** A drum of the valley that a text tells, which must have so many items. */
    static FarDrum drum(String text, int items) {
        FarDrum drum = new FarDrum();
        type(drum, text);
        due("valley() of " + text, drum.valley(), items);
        return drum;
    }

    /** A call on a drum so made must answer so, and leave all that can be seen as it was. */
    static void still(String call, Supplier<FarDrum> made, ToLongFunction<FarDrum> asked, long want) {
        FarDrum drum = made.get();
        due(call, asked.applyAsLong(drum), want);
        due("whether " + call + " changed nothing", Look.at(drum).equals(Look.at(made.get())) ? 1 : 0, 1);
    }

    /** A text whose fault is at a place; it stays, and so does the valley. */
    static void fault(String text, int place) {
        still("valley() of " + text, () -> {
            FarDrum drum = drum("v1 0;v2 1;e0 1 4;r7;s1;", 5);
            type(drum, text);
            return drum;
        }, FarDrum::valley, -10 - place);
    }

    static void finish() {
        System.out.println(wrong == 0 ? "as due" : wrong + " answers are not as due");
        if (wrong != 0) {
            System.exit(1);
        }
    }
}

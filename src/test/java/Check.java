/** What the tests share: answers that are due, and texts told letter by letter. */
final class Check {
    private static int wrong = 0;

    private Check() {
    }

    static void due(String call, long got, long want) {
        if (got != want) {
            wrong++;
            System.out.println(call + " answered " + got + ", due is " + want);
        }
    }

    static void type(FarDrum drum, String text) {
        int had = drum.count(5);
        for (int i = 0; i < text.length(); i++) {
            due("type(" + (int) text.charAt(i) + ")", drum.type(text.charAt(i)), had + i + 1);
        }
    }

    /** A drum of the valley that a text tells, which must have so many items. */
    static FarDrum drum(String text, int items) {
        FarDrum drum = new FarDrum();
        type(drum, text);
        due("valley() of " + text, drum.valley(), items);
        return drum;
    }

    static void finish() {
        System.out.println(wrong == 0 ? "as due" : wrong + " answers are not as due");
        if (wrong != 0) {
            System.exit(1);
        }
    }
}

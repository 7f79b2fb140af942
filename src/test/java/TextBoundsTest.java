import java.util.Arrays;
import java.util.function.Supplier;

/** The bounds of promises 1 to 8 and 33, sentence by sentence: the text, the valley that it tells, what is seen of it. */
public final class TextBoundsTest {
    private static final String TWO = "v0 0;v0 0;";
    private static final String SIX = "v0 0;v0 0;v0 0;v0 0;v0 0;v0 0;";
    private static final Supplier<FarDrum> NEW = FarDrum::new;
    private static final Supplier<FarDrum> TWO_TOLD = () -> Check.drum("v3 0;v4 1;e0 1 5;r9;s1;", 5);

    public static void main(String[] args) {
        aLetterIs0To255();
        aTextHas200LettersAtMost();
        badComesAheadOfFull();
        aFullTextIsRead();
        anEmptyText();
        thereAreSixVillagesAtMost();
        slowIs0To9();
        deafIs0Or1();
        longIs1To9();
        reachIs1To20And20AtFirst();
        startIsAVillageAnd0AtFirst();
        reachAndStartAreToldOnceEach();
        aVillageThatThereIsNot();
        aWayIsBetweenUnlikeOnes();
        aWayToldAgain();
        numbersAre20AtMost();
        numbersHaveNo0Ahead();
        tokensThatCantStandThere();
        anyOtherLetter();
        blanksStandBetweenTokens();
        textsThatEndTooEarly();
        aFaultLeavesTheText();
        readAnewAsTold();
        nothingIsLeftOfEarlierTexts();
        Check.finish();
    }

    private static String blanks(int n) {
        return " ".repeat(n);
    }

    /** A letter (0 .. 255) comes to THE TEXT .. BAD. */
    private static void aLetterIs0To255() {
        for (int letter : new int[] {Integer.MIN_VALUE, -256, -1, 256, 257, 256 + ' ', Integer.MAX_VALUE}) {
            Check.still("type(" + letter + ")", TWO_TOLD, d -> d.type(letter), FarDrum.BAD);
        }
        for (int letter = 0; letter < 256; letter++) {
            FarDrum drum = new FarDrum();
            Check.due("type(" + letter + ")", drum.type(letter), 1);
            Check.due("valley() of letter " + letter, drum.valley(), letter == ' ' ? 0
                : "vers".indexOf(letter) >= 0 ? -11 : -10);
        }
    }

    private static FarDrum full(String text) {
        FarDrum drum = new FarDrum();
        Check.type(drum, text + blanks(200 - text.length()));
        return drum;
    }

    /** A text (200 letters at most) .. FULL. */
    private static void aTextHas200LettersAtMost() {
        FarDrum drum = new FarDrum();
        Check.type(drum, blanks(199));
        Check.due("the 200th letter", drum.type('v'), 200);
        Check.due("the 201st letter", drum.type('v'), FarDrum.FULL);
        Check.due("letters", drum.count(5), 200);
        Check.still("a letter to a full text", () -> full("v0 0;v0 0;e0 1 2;"), d -> d.type('x'), FarDrum.FULL);
        Check.due("clear() of a full text", drum.clear(), 200);
        Check.due("letters behind clear()", drum.count(5), 0);
        Check.due("a letter behind clear()", drum.type('v'), 1);
        FarDrum read = full("r3;");
        Check.due("valley() of a full text", read.valley(), 1);
        Check.due("a letter behind valley()", read.type('v'), 1);
    }

    /** Refused, the first of these: BAD .. FULL. */
    private static void badComesAheadOfFull() {
        Check.still("no letter, to a full text", () -> full("r3;"), d -> d.type(256), FarDrum.BAD);
        Check.still("no letter, to a full text", () -> full("r3;"), d -> d.type(-1), FarDrum.BAD);
    }

    private static void aFullTextIsRead() {
        Check.due("an item that ends with letter 200", last(TWO + blanks(183) + "e0 1 9;"), 3);
        Check.due("a fault at letter 200", last(TWO + blanks(189) + "x"), -10 - 199);
        Check.due("a text of 200 that ends too early", last(TWO + blanks(184) + "e0 1 9"), -10 - 200);
        Check.due("a head at letter 200", last(TWO + blanks(189) + "e"), -10 - 200);
        Check.due("digits all the way", last("r" + "9".repeat(199)), -11);
        Check.due("noughts all the way", last("r" + "0".repeat(199)), -11);
        Check.due("66 items of r", last("r1;".repeat(66) + "  "), -13);
        Check.due("blanks alone", last(blanks(200)), 0);
    }

    private static int last(String text) {
        FarDrum drum = new FarDrum();
        Check.type(drum, text);
        Check.due("letters of " + text, drum.count(5), 200);
        return drum.valley();
    }

    private static void anEmptyText() {
        Check.still("clear() of an empty text", TWO_TOLD, FarDrum::clear, 0);
        FarDrum drum = TWO_TOLD.get();
        Check.due("valley() of an empty text", drum.valley(), 0);
        Check.due("villages", drum.count(0), 0);
        Check.due("reach", drum.count(1), 20);
        Check.due("start", drum.count(2), 0);
        Check.due("strokes", drum.now(0), 0);
        Check.still("valley() of a new one", NEW, FarDrum::valley, 0);
        FarDrum cleared = new FarDrum();
        Check.type(cleared, SIX);
        Check.due("clear()", cleared.clear(), 30);
        Check.due("valley() behind clear()", cleared.valley(), 0);
        Check.due("villages behind it", cleared.count(0), 0);
    }

    /** VILLAGES (6 at most) .. FAULT: a seventh v. */
    private static void thereAreSixVillagesAtMost() {
        for (int n = 0; n <= 6; n++) {
            FarDrum drum = Check.drum(SIX.substring(0, 5 * n), n);
            Check.due("villages", drum.count(0), n);
            Check.due("strokes", drum.now(0), n == 0 ? 0 : 1);
            Check.due("the last of " + n, drum.village(n - 1, 0), n == 0 ? FarDrum.BAD : 0);
            Check.due("one behind " + n, drum.village(n, 0), FarDrum.BAD);
        }
        Check.fault(SIX + "v0 0;", 30);
        Check.fault(SIX + "v", 30);
        Check.fault(SIX + "vx", 30);
        Check.fault(SIX + "s5; v0 0;", 34);
    }

    /** SLOW (0 .. 9 beats). */
    private static void slowIs0To9() {
        for (int slow = 0; slow <= 9; slow++) {
            Check.due("slow", Check.drum("v" + slow + " 0;", 1).village(0, 0), slow);
        }
        for (int slow = 10; slow <= 21; slow++) {
            Check.fault("v" + slow + " 0;", 1);
        }
        Check.fault("v0 0;v10 0;", 6);
    }

    /** DEAF 1 or 0. */
    private static void deafIs0Or1() {
        FarDrum drum = Check.drum("v0 1;v0 0;v9 1;v9 0;v0 0;v5 1;", 6);
        for (int v = 0; v < 6; v++) {
            Check.due("deaf of " + v, drum.village(v, 1), "101001".charAt(v) - '0');
        }
        for (int deaf : new int[] {2, 9, 10, 11, 20, 21}) {
            Check.fault("v0 " + deaf + ";", 3);
        }
    }

    /** WAYS between two of them: LONG (1 .. 9 beats). */
    private static void longIs1To9() {
        for (int beats = 1; beats <= 9; beats++) {
            Check.due("way", Check.drum(TWO + "e0 1 " + beats + ";", 3).way(0, 1), beats);
        }
        for (int beats : new int[] {0, 10, 11, 19, 20, 21}) {
            Check.fault(TWO + "e0 1 " + beats + ";", 15);
        }
    }

    /** REACH (1 .. 20; 20 at first). */
    private static void reachIs1To20And20AtFirst() {
        Check.due("reach at first", new FarDrum().count(1), 20);
        Check.due("reach not told", Check.drum(TWO, 2).count(1), 20);
        for (int reach = 1; reach <= 20; reach++) {
            Check.due("reach", Check.drum("r" + reach + ";", 1).count(1), reach);
        }
        Check.fault("r0;", 1);
        Check.fault("r21;", 1);
        Check.fault("r 200;", 2);
    }

    /** START: the VILLAGE of the first stroke (0 at first). */
    private static void startIsAVillageAnd0AtFirst() {
        Check.due("start at first", new FarDrum().count(2), 0);
        Check.due("start not told", Check.drum(SIX, 6).count(2), 0);
        for (int start = 0; start < 6; start++) {
            FarDrum drum = Check.drum(SIX + "s" + start + ";", 7);
            Check.due("start", drum.count(2), start);
            Check.due("the village of the first stroke", drum.now(2), start);
            Check.due("its beat", drum.now(1), 0);
            Check.due("strokes", drum.now(0), 1);
            for (int v = 0; v < 6; v++) {
                Check.due("struck in " + v, drum.village(v, 3), v == start ? 1 : 0);
            }
        }
        Check.fault(SIX + "s6;", 31);
        Check.fault("v0 0;s1;", 6);
        Check.fault("s0;", 1);
    }

    /** r N (REACH), s V (START; once each at most) .. r, s again. */
    private static void reachAndStartAreToldOnceEach() {
        Check.drum("v0 0;r5;s0;", 3);
        Check.fault("r5;r5;", 3);
        Check.fault("r5;r", 3);
        Check.fault("r5;v0 0; r0;", 9);
        Check.fault("v0 0;s0;s0;", 8);
        Check.fault("v0 0;s0;s", 8);
        Check.fault("v0 0;s0;r1;s9;", 11);
        // each time that a text is read they may be told again
        FarDrum drum = Check.drum("v0 0;r5;s0;", 3);
        Check.type(drum, "v0 0;v0 0;r6;s1;");
        Check.due("valley() again", drum.valley(), 4);
        Check.due("reach", drum.count(1), 6);
        Check.due("start", drum.count(2), 1);
    }

    /** FAULT: a VILLAGE that there is not. */
    private static void aVillageThatThereIsNot() {
        Check.fault("e0 1 1;", 1);
        for (int n = 1; n <= 6; n++) {
            String told = SIX.substring(0, 5 * n);
            Check.fault(told + "e" + n + " 0 1;", 5 * n + 1);
            Check.fault(told + "e0 " + n + " 1;", 5 * n + 3);
            Check.fault(told + "s" + n + ";", 5 * n + 1);
            if (n > 1) {
                Check.due("the last one", Check.drum(told + "e" + (n - 1) + " 0 1;", n + 1).way(0, n - 1), 1);
                Check.due("the last one", Check.drum(told + "e0 " + (n - 1) + " 1;", n + 1).way(n - 1, 0), 1);
            }
        }
        // one that is told later only
        Check.fault("v0 0;e0 1 1;v0 0;", 8);
        Check.fault("v0 0;s1;v0 0;", 6);
        Check.fault(SIX + "e20 0 1;", 31);
    }

    /** e A B L (a WAY; unlike) .. a B that is A. */
    private static void aWayIsBetweenUnlikeOnes() {
        for (int v = 0; v < 6; v++) {
            Check.fault(SIX + "e" + v + " " + v + " 1;", 33);
        }
        Check.fault("v0 0;e0 0 1;", 8);
        Check.fault("v0 0;e0  0", 9);
    }

    /** Told again: the later one. */
    private static void aWayToldAgain() {
        FarDrum drum = Check.drum(TWO + "e0 1 1;e1 0 9;e0 1 4;", 5);
        Check.due("way(0, 1)", drum.way(0, 1), 4);
        Check.due("way(1, 0)", drum.way(1, 0), 4);
        FarDrum turned = Check.drum(TWO + "e0 1 4;e1 0 9;", 4);
        Check.due("way(0, 1)", turned.way(0, 1), 9);
        Check.due("way(1, 0)", turned.way(1, 0), 9);
        FarDrum many = Check.drum(TWO + "e0 1 4;".repeat(26) + "e0 1 2;", 29);
        Check.due("way told 27 times", many.way(1, 0), 2);
    }

    /** FAULT: of a NUMBER above 20, that TOKEN's place. */
    private static void numbersAre20AtMost() {
        Check.due("20 where it may stand", Check.drum("r20;", 1).count(1), 20);
        Check.fault("r21;", 1);
        Check.fault("r100;", 1);
        Check.fault("r2147483648;", 1);
        Check.fault("r4294967297;", 1);
        Check.fault("r18446744073709551617;", 1);
        Check.fault("v4294967296 0;", 1);
        Check.fault("v0 4294967296;", 3);
        Check.fault("20", 0);
        Check.fault("21", 0);
        Check.fault("r2 0;", 3);
    }

    /** FAULT: of a NUMBER with a 0 ahead of others, that TOKEN's place. */
    private static void numbersHaveNo0Ahead() {
        Check.fault("r00;", 1);
        Check.fault("r01;", 1);
        Check.fault("r020;", 1);
        Check.fault("v00 0;", 1);
        Check.fault("v0 00;", 3);
        Check.fault("v0 01;", 3);
        Check.fault(TWO + "e00 1 1;", 11);
        Check.fault(TWO + "e0 01 1;", 13);
        Check.fault(TWO + "e0 1 01;", 15);
        Check.fault(TWO + "s00;", 11);
        Check.fault(" 00", 1);
        // a 0 alone, or behind another digit, may stand
        Check.drum("v0 0;", 1);
        Check.drum("r10;", 1);
    }

    /** FAULT: the place of the first letter of the first TOKEN that can't stand there. */
    private static void tokensThatCantStandThere() {
        String[] right = {"v", "1", "0", ";", "v", "2", "1", ";", "e", "0", "1", "3", ";", "r", "9", ";", "s", "1", ";"};
        String[] signs = {"v", "e", "r", "s", ";"};
        String[] numbers = {"0", "1", "9", "20"};
        StringBuilder ahead = new StringBuilder();
        for (int i = 0; i < right.length; i++) {
            String behind = " " + String.join(" ", Arrays.asList(right).subList(i + 1, right.length));
            boolean isNumber = right[i].matches("[0-9]+");
            for (String other : isNumber ? signs : numbers) {
                Check.fault(ahead + other + behind, ahead.length());
            }
            if (right[i].matches("[vers]")) Check.fault(ahead + ";" + behind, ahead.length());
            if (right[i].equals(";")) Check.fault(ahead + "v" + behind, ahead.length());
            ahead.append(right[i]).append("  ");
        }
        // the first of two
        Check.fault("v10 2;", 1);
        Check.fault("v1 2;r0;", 3);
        Check.fault("v1 0;x;v10", 5);
    }

    /** FAULT: of any other letter, that TOKEN's place. */
    private static void anyOtherLetter() {
        for (int letter : new int[] {0, 1, 9, 10, 13, 31, 33, '-', '+', '.', ',', ':', '<', '/', 'V', 'E', 'R', 'S',
            'u', 'w', 'd', 'f', 'q', 't', 127, 128, 160, 178, 255}) {
            char c = (char) letter;
            Check.fault("" + c, 0);
            Check.fault("v0 0;  " + c, 7);
            Check.fault("v" + c + "0 0;", 1);
            Check.fault("v0" + c + "0;", 2);
            Check.fault("v0 0" + c, 4);
            Check.fault("r1" + c + ";", 2);
        }
    }

    /** Blanks (32) between TOKENS: none are needed but between two NUMBERS. */
    private static void blanksStandBetweenTokens() {
        FarDrum drum = Check.drum("   v   1   0   ;   v 2 0;e 0   1   9 ;r   12  ;", 4);
        Check.due("slow of 1", drum.village(1, 0), 2);
        Check.due("way", drum.way(0, 1), 9);
        Check.due("reach", drum.count(1), 12);
        Check.fault("v10;", 1);
        Check.fault(TWO + "e01 5;", 11);
        Check.fault("r1 2;", 3);
    }

    /** FAULT: the text's length, if it ends too early. */
    private static void textsThatEndTooEarly() {
        String text = "v1 0;v2 0;e0 1 3;r19;s1;";
        int items = 0;
        for (int length = 0; length <= text.length(); length++) {
            if (length > 0 && text.charAt(length - 1) == ';') items++;
            boolean isWhole = length == 0 || text.charAt(length - 1) == ';';
            for (int more = 0; more < 3; more++) {
                String part = text.substring(0, length) + blanks(more);
                if (isWhole) Check.drum(part, items);
                else Check.fault(part, part.length());
            }
        }
    }

    /** -10 less FAULT: nothing changes; the text goes on from where it was. */
    private static void aFaultLeavesTheText() {
        FarDrum drum = TWO_TOLD.get();
        Check.type(drum, "v7 0;r1");
        Check.due("valley() too early", drum.valley(), -17);
        Check.due("valley() again", drum.valley(), -17);
        Check.due("letters", drum.count(5), 7);
        Check.due("villages", drum.count(0), 2);
        Check.type(drum, "3;");
        Check.due("valley() told on", drum.valley(), 2);
        Check.due("reach", drum.count(1), 13);
        Check.due("letters", drum.count(5), 0);
    }

    /** Read anew: as told, nothing HEARD, IMAGES are gone. */
    private static void readAnewAsTold() {
        FarDrum drum = Check.drum(TWO + "e0 1 3;", 3);
        for (int i = 0; i < 12; i++) drum.strikes();
        drum.fog(1);
        drum.cold(0, 9);
        drum.deafens(1, 1);
        drum.sends(0, 1, 1);
        drum.sends(1, 0, 1);
        for (int i = 0; i < 5; i++) drum.heard(0, i);
        drum.keep(0);
        drum.keep(1);
        Check.type(drum, TWO + "e0 1 3;");
        Check.due("valley()", drum.valley(), 3);
        Check.due("as if it were new", Look.at(drum).equals(Look.at(Check.drum(TWO + "e0 1 3;", 3))) ? 1 : 0, 1);
    }

    /** THE TEXT tells all anew: what earlier texts told, or began to tell ahead of a FAULT, is gone. */
    private static void nothingIsLeftOfEarlierTexts() {
        String rich = "v9 1;v8 1;v7 1;v6 1;v5 1;v4 1;e0 1 9;e1 2 9;e2 3 9;e3 4 9;e4 5 9;e0 5 9;r1;s5;";
        String[] plain = {"", "v0 0;", TWO, TWO + "e0 1 1;", SIX, "v0 0;v0 0;v0 0;s2;", "r2;"};
        for (String text : plain) {
            for (int faults = 0; faults < 4; faults++) {
                FarDrum drum = Check.drum(rich, 14);
                if ((faults & 1) == 1) readWithAFault(drum, rich);
                Check.type(drum, rich);
                Check.due("valley() again", drum.valley(), 14);
                if ((faults & 2) == 2) readWithAFault(drum, rich);
                int items = text.length() - text.replace(";", "").length();
                Check.type(drum, text);
                Check.due("valley() of " + text, drum.valley(), items);
                Check.due("as if it were new", Look.at(drum).equals(Look.at(Check.drum(text, items))) ? 1 : 0, 1);
            }
        }
    }

    private static void readWithAFault(FarDrum drum, String text) {
        Check.type(drum, text + "x");
        Check.due("valley() with a fault", drum.valley(), -10 - text.length());
        Check.due("clear()", drum.clear(), text.length() + 1);
    }
}

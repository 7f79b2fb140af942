/** Promises 1 to 8, and 33: a new object, the text, the valley that it tells. */
public final class ValleyTest {
    private static final String SIX = "v0 0;v0 0;v0 0;v0 0;v0 0;v0 0;";

    public static void main(String[] args) {
        aNewObject();
        letters();
        textsThatAreRight();
        textsThatAreWrong();
        aFaultChangesNothing();
        lettersOfAnEarlierText();
        readAnew();
        readThrice();
        villages();
        ways();
        hearing();
        theLatestStroke();
        counts();
        Check.finish();
    }

    private static void aNewObject() {
        FarDrum drum = new FarDrum();
        int[] counts = {0, 20, 0, 0, 0, 0};
        for (int what = 0; what < 6; what++) {
            Check.due("count of a new object", drum.count(what), counts[what]);
            Check.due("now of a new object", drum.now(what), 0);
        }
        Check.due("trace of a new object", drum.trace(), 0);
        Check.due("village of a new object", drum.village(0, 0), FarDrum.BAD);
        Check.due("way of a new object", drum.way(0, 0), FarDrum.BAD);
        Check.due("hears of a new object", drum.hears(0, 1), FarDrum.BAD);
        Check.due("strikes of a new object", drum.strikes(), FarDrum.STATE);
        Check.due("undo of a new object", drum.undo(), FarDrum.STATE);
        Check.due("back of a new object", drum.back(0), FarDrum.STATE);
        Check.due("clear of a new object", drum.clear(), 0);
        Check.due("forget of a new object", drum.forget(), 0);
        Check.due("unsay of a new object", drum.unsay(), 0);
        Check.due("valley of a new object", drum.valley(), 0);
    }

    private static void letters() {
        FarDrum drum = new FarDrum();
        Check.due("type(-1)", drum.type(-1), FarDrum.BAD);
        Check.due("type(256)", drum.type(256), FarDrum.BAD);
        Check.due("type(least)", drum.type(Integer.MIN_VALUE), FarDrum.BAD);
        Check.due("type(most)", drum.type(Integer.MAX_VALUE), FarDrum.BAD);
        Check.due("letters behind refusals", drum.count(5), 0);
        Check.due("type(0)", drum.type(0), 1);
        Check.due("type(255)", drum.type(255), 2);
        for (int i = 3; i <= 200; i++) {
            Check.due("type(32)", drum.type(32), i);
        }
        Check.due("a 201st letter", drum.type(32), FarDrum.FULL);
        Check.due("a wrong letter in a full text", drum.type(256), FarDrum.BAD);
        Check.due("letters of a full text", drum.count(5), 200);
        Check.due("clear of a full text", drum.clear(), 200);
        Check.due("clear again", drum.clear(), 0);
        Check.due("type behind clear", drum.type(118), 1);
    }

    private static void textsThatAreRight() {
        right("", 0);
        right("   ", 0);
        right("v9 1;", 1);
        right("  v  0   0 ;  ", 1);
        right("r20;", 1);
        right("r 1;", 1);
        right(SIX, 6);
        right(SIX + "s5;", 7);
        right("v0 0;v0 0;e0 1 9;e 1 0 1;", 4);
        right("v0 0;s0;v0 0;r3;e1 0 9;", 5);
        StringBuilder full = new StringBuilder("v0 0;v0 0;");
        while (full.length() + 7 <= 200) full.append("e0 1 2;");
        while (full.length() < 200) full.append(' ');
        right(full.toString(), 29);
    }

    private static void right(String text, int items) {
        FarDrum drum = Check.drum(text, items);
        Check.due("letters behind valley() of " + text, drum.count(5), 0);
    }

    private static void textsThatAreWrong() {
        // no item begins so
        wrong(";", 0);
        wrong("5", 0);
        wrong("V0 0;", 0);
        wrong("x", 0);
        wrong("  x", 2);
        wrong("v0 0;;", 5);
        wrong("v0 0;7", 5);
        wrong("" + (char) 0, 0);
        wrong("" + (char) 255, 0);
        wrong("" + (char) 9, 0);
        // items that are not as told
        wrong("vv", 1);
        wrong("v;", 1);
        wrong("v1;0;", 2);
        wrong("v1 0 0;", 5);
        wrong("v1 0v1 0;", 4);
        wrong("v0" + (char) 9 + "0;", 2);
        wrong("v-1 0;", 1);
        wrong("r;", 1);
        wrong("r5 5;", 3);
        wrong("v0 0;s;", 6);
        wrong("v0 0;v0 0;e0 1;", 14);
        wrong("v0 0;v0 0;e0 1 1 1;", 17);
        wrong("v1 0;v1 0; x", 11);
        // numbers beyond what they may be
        wrong("v10 0;", 1);
        wrong("v20 0;", 1);
        wrong("v21 0;", 1);
        wrong("v0 2;", 3);
        wrong("r0;", 1);
        wrong("r21;", 1);
        wrong("r99999999999999999999;", 1);
        wrong("r4294967301;", 1);
        wrong("v0 0;v0 0;e0 1 0;", 15);
        wrong("v0 0;v0 0;e0 1 10;", 15);
        wrong("v00 0;", 1);
        wrong("v0 01;", 3);
        wrong("r01;", 1);
        wrong("01", 0);
        // villages that there are not, yet
        wrong("e0 1 1;", 1);
        wrong("v0 0;e0 1 1;", 8);
        wrong("v0 0;e1 0 1;", 6);
        wrong("v0 0;v0 0;e2 1 1;", 11);
        wrong("v0 0;v0 0;e1 1 1;", 13);
        wrong("s0;", 1);
        wrong("s0;v0 0;", 1);
        wrong("v0 0;s1;", 6);
        // one too many
        wrong(SIX + "v", 30);
        wrong(SIX + " v0 0;", 31);
        wrong("r5;r5;", 3);
        wrong("r5;r", 3);
        wrong("v0 0;s0;s0;", 8);
        // ends too early
        wrong("v", 1);
        wrong("v  ", 3);
        wrong("v1", 2);
        wrong("v1 ", 3);
        wrong("v1 0", 4);
        wrong("v1 0  ", 6);
        wrong("r1", 2);
        wrong("v0 0 ;e", 7);
        wrong("v0 0;v0 0;e0", 12);
        wrong("v0 0;v0 0;e0 1", 14);
        wrong("v0 0;v0 0;e0 1 1", 16);
        wrong("v0 0;s", 6);
        wrong("v0 0;s0", 7);
    }

    private static void wrong(String text, int place) {
        FarDrum drum = Check.drum(text, -10 - place);
        Check.due("letters behind a fault in " + text, drum.count(5), text.length());
        Check.due("villages behind a fault in " + text, drum.count(0), 0);
        Check.due("reach behind a fault in " + text, drum.count(1), 20);
    }

    private static void aFaultChangesNothing() {
        FarDrum drum = Check.drum("v1 0;v2 1;e0 1 4;r7;s1;", 5);
        Check.due("fog(1)", drum.fog(1), 0);
        Check.due("keep(0)", drum.keep(0), 1);
        Check.due("heard(0, 8)", drum.heard(0, 8), 1);
        Check.due("tells(0)", drum.tells(0), 1);
        Check.type(drum, "v0 0;v0 0;v0 0;e0 1 9;e0 2 9;r9;s2;s2;");
        Check.due("valley() of s told again", drum.valley(), -45);
        int[] counts = {2, 7, 1, 1, 1, 38};
        int[] now = {1, 0, 1, 1, 0, 1};
        for (int what = 0; what < 6; what++) {
            Check.due("count behind a fault", drum.count(what), counts[what]);
            Check.due("now behind a fault", drum.now(what), now[what]);
        }
        Check.due("village 0 behind a fault", drum.village(0, 0), 1);
        Check.due("village 1 behind a fault", drum.village(1, 1), 1);
        Check.due("way behind a fault", drum.way(0, 1), 4);
        Check.due("back behind a fault", drum.back(0), 1);
    }

    private static void lettersOfAnEarlierText() {
        FarDrum drum = new FarDrum();
        Check.type(drum, "r19;v0 0;");
        drum.clear();
        Check.type(drum, "r1");
        Check.due("valley() of a text behind a longer one", drum.valley(), -12);
        Check.type(drum, ";");
        Check.due("valley() of it, told on", drum.valley(), 1);
        Check.due("reach", drum.count(1), 1);
    }

    private static void readThrice() {
        FarDrum drum = Check.drum("v1 1;v2 1;v3 0;e0 1 4;e1 2 5;e0 2 6;r7;s2;", 8);
        Check.due("valley() of nothing", drum.valley(), 0);
        for (int what = 0; what < 6; what++) {
            Check.due("now(" + what + ") of no villages", drum.now(what), 0);
        }
        Check.due("start", drum.count(2), 0);
        Check.due("reach", drum.count(1), 20);
        Check.type(drum, "v0 0;v0 0;v0 0;r5;s1;s");
        Check.due("valley() of s again", drum.valley(), -31);
        drum.clear();
        Check.type(drum, "v0 0;v0 0;v0 0;");
        Check.due("valley() again", drum.valley(), 3);
        int[] counts = {3, 20, 0, 0, 0, 0};
        for (int what = 0; what < 6; what++) {
            Check.due("count(" + what + ") read thrice", drum.count(what), counts[what]);
        }
        for (int v = 0; v < 3; v++) {
            for (int what = 0; what < 3; what++) {
                Check.due("village read thrice", drum.village(v, what), 0);
            }
        }
        Check.type(drum, "r4;v0 0;s0;");
        Check.due("r and s told once, each time", drum.valley(), 3);
        Check.due("strokes of one alone", drum.now(0), 1);
    }

    private static void readAnew() {
        FarDrum drum = Check.drum("v1 0;v2 1;v3 0;e0 1 4;e1 2 5;r7;s1;", 7);
        drum.fog(1);
        drum.fog(0);
        drum.cold(0, 9);
        drum.deafens(2, 1);
        drum.sends(0, 2, 3);
        drum.strikes();
        drum.keep(0);
        drum.keep(1);
        drum.heard(2, 5);
        drum.tells(3);
        drum.fog(1);
        drum.rate(0, 0);
        Check.type(drum, "v0 0;v5 0;");
        Check.due("valley() again", drum.valley(), 2);
        int[] counts = {2, 20, 0, 0, 0, 0};
        int[] now = {1, 0, 0, 0, 0, 0};
        for (int what = 0; what < 6; what++) {
            Check.due("count(" + what + ") read anew", drum.count(what), counts[what]);
            Check.due("now(" + what + ") read anew", drum.now(what), now[what]);
        }
        Check.due("slow read anew", drum.village(0, 0), 0);
        Check.due("slow read anew", drum.village(1, 0), 5);
        Check.due("deaf read anew", drum.village(1, 1), 0);
        Check.due("ways read anew", drum.village(0, 2), 0);
        Check.due("struck read anew", drum.village(0, 3), 1);
        Check.due("struck read anew", drum.village(1, 3), 0);
        Check.due("way read anew", drum.way(0, 1), FarDrum.NONE);
        Check.due("back(0) read anew", drum.back(0), FarDrum.STATE);
        Check.due("back(1) read anew", drum.back(1), FarDrum.STATE);
        Check.due("undo read anew", drum.undo(), FarDrum.STATE);
        Check.due("trace read anew", drum.trace(), 1);
        Check.due("valley() of nothing", drum.valley(), 0);
        Check.due("villages behind it", drum.count(0), 0);
        Check.due("strokes behind it", drum.now(0), 0);
    }

    private static void villages() {
        FarDrum drum = Check.drum("v1 0;v2 1;v9 0;v0 0;e0 1 1;e3 0 5;r3;s1;", 8);
        int[][] due = {{1, 0, 10, 0}, {2, 1, 1, 1}, {9, 0, 0, 0}, {0, 0, 1, 0}};
        for (int v = 0; v < 4; v++) {
            for (int what = 0; what < 4; what++) {
                Check.due("village(" + v + ", " + what + ")", drum.village(v, what), due[v][what]);
            }
            Check.due("village of what = 4", drum.village(v, 4), FarDrum.BAD);
            Check.due("village of what = -1", drum.village(v, -1), FarDrum.BAD);
        }
        Check.due("village(-1, 0)", drum.village(-1, 0), FarDrum.BAD);
        Check.due("village(4, 0)", drum.village(4, 0), FarDrum.BAD);
        drum.cold(2, 4);
        drum.deafens(2, 1);
        Check.due("slow by a cold", drum.village(2, 0), 4);
        Check.due("deaf since", drum.village(2, 1), 1);
    }

    private static void ways() {
        FarDrum drum = Check.drum("v0 0;v0 0;v0 0;e0 1 3;e1 2 9;e1 0 7;r2;", 7);
        Check.due("way told again", drum.way(0, 1), 7);
        Check.due("way to the other side", drum.way(1, 0), 7);
        Check.due("way(2, 1)", drum.way(2, 1), 9);
        Check.due("no way", drum.way(0, 2), FarDrum.NONE);
        Check.due("to itself", drum.way(1, 1), FarDrum.NONE);
        Check.due("way(0, 3)", drum.way(0, 3), FarDrum.BAD);
        Check.due("way(-1, 0)", drum.way(-1, 0), FarDrum.BAD);
        drum.fog(1);
        drum.sends(0, 1, 1);
        Check.due("way in fog, with a mule", drum.way(0, 1), 7);
    }

    private static void hearing() {
        FarDrum drum = Check.drum("v0 0;v5 0;v0 1;e0 1 4;e1 2 3;r8;", 6);
        Check.due("hears(1, 0)", drum.hears(1, 0), 4);
        Check.due("hears(0, 1)", drum.hears(0, 1), 4);
        Check.due("a deaf one hears", drum.hears(2, 1), FarDrum.NONE);
        Check.due("of a deaf one", drum.hears(1, 2), 3);
        Check.due("itself", drum.hears(1, 1), FarDrum.NONE);
        Check.due("no way", drum.hears(0, 2), FarDrum.NONE);
        Check.due("hears(3, 0)", drum.hears(3, 0), FarDrum.BAD);
        Check.due("hears(0, -1)", drum.hears(0, -1), FarDrum.BAD);
        drum.fog(1);
        Check.due("in fog, at the reach", drum.hears(1, 0), 8);
        drum.sends(0, 1, 9);
        Check.due("a mule that is longer", drum.hears(1, 0), 8);
        drum.sends(0, 1, 7);
        Check.due("a mule that is shorter", drum.hears(1, 0), 7);
        Check.due("mules go one way", drum.hears(0, 1), 8);
        FarDrum near = Check.drum("v0 0;v0 0;e0 1 4;r7;", 4);
        near.fog(1);
        Check.due("in fog, beyond the reach", near.hears(1, 0), FarDrum.NONE);
        near.sends(1, 0, 20);
        Check.due("a mule beyond the reach, in fog", near.hears(0, 1), 20);
        near.deafens(0, 1);
        Check.due("a mule to a deaf one", near.hears(0, 1), FarDrum.NONE);
    }

    private static void theLatestStroke() {
        FarDrum drum = Check.drum("v0 0;v5 0;e0 1 4;s1;", 4);
        int[] due = {1, 0, 1, 0, 0, 0};
        for (int what = 0; what < 6; what++) {
            Check.due("now(" + what + ")", drum.now(what), due[what]);
        }
        drum.strikes();
        drum.strikes();
        drum.fog(1);
        drum.sends(0, 1, 3);
        int[] later = {3, 13, 1, 1, 1, 4};
        for (int what = 0; what < 6; what++) {
            Check.due("now(" + what + ")", drum.now(what), later[what]);
        }
        Check.due("now(6)", drum.now(6), FarDrum.BAD);
        Check.due("now(-1)", drum.now(-1), FarDrum.BAD);
    }

    private static void counts() {
        FarDrum drum = Check.drum("v0 0;v5 0;e0 1 4;s1;r12;", 5);
        drum.heard(0, 1);
        drum.heard(0, 1);
        drum.tells(4);
        Check.type(drum, "abc");
        int[] due = {2, 12, 1, 2, 1, 3};
        for (int what = 0; what < 6; what++) {
            Check.due("count(" + what + ")", drum.count(what), due[what]);
        }
        Check.due("count(6)", drum.count(6), FarDrum.BAD);
        Check.due("count(-1)", drum.count(-1), FarDrum.BAD);
    }
}

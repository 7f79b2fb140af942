/** Promises 9 to 14: what is done, and undone. */
public final class DoneTest {
    public static void main(String[] args) {
        strokes();
        strokesThatEnd();
        theMostStrokes();
        fogs();
        colds();
        deafness();
        mules();
        undoneOneByOne();
        tenAreKnown();
        withoutVillages();
        Check.finish();
    }

    private static void stroke(FarDrum drum, int village, int beat, int strokes) {
        Check.due("strikes()", drum.strikes(), village);
        Check.due("its village", drum.now(2), village);
        Check.due("its beat", drum.now(1), beat);
        Check.due("strokes", drum.now(0), strokes);
    }

    private static void strokes() {
        // 2 is reached last, though 0 would strike later, being slow
        FarDrum drum = Check.drum("v9 0;v1 0;v2 0;e0 1 3;e1 2 5;s1;", 6);
        stroke(drum, 2, 7, 2);
        stroke(drum, 1, 13, 3);
        stroke(drum, 2, 20, 4);
        Check.due("struck in 0", drum.village(0, 3), 0);
        Check.due("struck in 1", drum.village(1, 3), 2);
        Check.due("struck in 2", drum.village(2, 3), 2);
        // of several that hear it last, the lowest
        FarDrum ties = Check.drum("v0 0;v0 0;v0 0;v0 0;e3 2 4;e3 1 4;e3 0 2;s3;", 8);
        stroke(ties, 1, 4, 2);
        stroke(ties, 3, 8, 3);
        // a mule shortens a way, so that another one hears it last
        ties.sends(3, 1, 3);
        stroke(ties, 2, 12, 4);
    }

    private static void strokesThatEnd() {
        FarDrum drum = Check.drum("v0 1;v3 0;e0 1 4;", 3);
        stroke(drum, 1, 7, 2);
        Check.due("strikes() of what ended", drum.strikes(), FarDrum.STATE);
        Check.due("strokes", drum.now(0), 2);
        Check.due("undone", drum.now(5), 1);
        drum.deafens(0, 0);
        stroke(drum, 0, 11, 3);
        FarDrum alone = Check.drum("v0 0;", 1);
        Check.due("strikes() of one alone", alone.strikes(), FarDrum.STATE);
        FarDrum far = Check.drum("v0 0;v0 0;e0 1 8;r7;", 4);
        Check.due("strikes() beyond the reach", far.strikes(), FarDrum.STATE);
    }

    private static void theMostStrokes() {
        FarDrum drum = Check.drum("v0 0;v0 0;e0 1 1;", 3);
        for (int i = 2; i <= 9999; i++) {
            Check.due("strikes()", drum.strikes(), (i + 1) % 2);
        }
        Check.due("strikes() of stroke 9999", drum.strikes(), FarDrum.STATE);
        Check.due("strokes", drum.now(0), 9999);
    }

    private static void fogs() {
        FarDrum drum = Check.drum("v0 0;v0 0;v0 0;e0 1 4;e0 2 5;r8;", 6);
        Check.due("fog(1)", drum.fog(1), 0);
        Check.due("fog(1) again", drum.fog(1), 1);
        Check.due("fog(2)", drum.fog(2), FarDrum.BAD);
        Check.due("fog(-1)", drum.fog(-1), FarDrum.BAD);
        Check.due("undone", drum.now(5), 2);
        stroke(drum, 1, 8, 2);
        Check.due("fog(0)", drum.fog(0), 1);
        Check.due("fog(0) again", drum.fog(0), 0);
        stroke(drum, 0, 12, 3);
        stroke(drum, 2, 17, 4);
    }

    private static void colds() {
        FarDrum drum = Check.drum("v0 0;v3 0;e0 1 4;", 3);
        Check.due("cold(1, 9)", drum.cold(1, 9), 3);
        Check.due("cold(1, 10)", drum.cold(1, 10), FarDrum.BAD);
        Check.due("cold(1, -1)", drum.cold(1, -1), FarDrum.BAD);
        Check.due("cold(2, 0)", drum.cold(2, 0), FarDrum.BAD);
        Check.due("cold(-1, 0)", drum.cold(-1, 0), FarDrum.BAD);
        stroke(drum, 1, 13, 2);
        Check.due("cold(1, 0)", drum.cold(1, 0), 9);
        stroke(drum, 0, 17, 3);
        stroke(drum, 1, 21, 4);
    }

    private static void deafness() {
        FarDrum drum = Check.drum("v0 0;v0 0;v0 1;e0 1 4;e0 2 5;", 5);
        Check.due("deafens(1, 1)", drum.deafens(1, 1), 0);
        Check.due("strikes()", drum.strikes(), FarDrum.STATE);
        Check.due("deafens(2, 0)", drum.deafens(2, 0), 1);
        Check.due("deafens(2, 2)", drum.deafens(2, 2), FarDrum.BAD);
        Check.due("deafens(2, -1)", drum.deafens(2, -1), FarDrum.BAD);
        Check.due("deafens(3, 0)", drum.deafens(3, 0), FarDrum.BAD);
        Check.due("deafens(-1, 0)", drum.deafens(-1, 0), FarDrum.BAD);
        Check.due("deafens(1, 1) again", drum.deafens(1, 1), 1);
        stroke(drum, 2, 5, 2);
        Check.due("deafens(1, 0)", drum.deafens(1, 0), 1);
        Check.due("village(1, 1)", drum.village(1, 1), 0);
        Check.due("village(2, 1)", drum.village(2, 1), 0);
    }

    private static void mules() {
        FarDrum drum = Check.drum("v0 0;v2 0;v0 0;", 3);
        Check.due("sends(0, 0, 1)", drum.sends(0, 0, 1), FarDrum.BAD);
        Check.due("sends(0, 3, 1)", drum.sends(0, 3, 1), FarDrum.BAD);
        Check.due("sends(-1, 0, 1)", drum.sends(-1, 0, 1), FarDrum.BAD);
        Check.due("sends(0, 1, 0)", drum.sends(0, 1, 0), FarDrum.BAD);
        Check.due("sends(0, 1, 21)", drum.sends(0, 1, 21), FarDrum.BAD);
        Check.due("sends(0, 1, 20)", drum.sends(0, 1, 20), 1);
        stroke(drum, 1, 22, 2);
        Check.due("strikes()", drum.strikes(), FarDrum.STATE);
        Check.due("sends(1, 0, 1)", drum.sends(1, 0, 1), 2);
        stroke(drum, 0, 23, 3);
        Check.due("a third mule", drum.sends(0, 2, 1), FarDrum.FULL);
        Check.due("a wrong third mule", drum.sends(0, 0, 1), FarDrum.BAD);
        Check.due("mules", drum.now(4), 2);
        Check.due("undone", drum.now(5), 4);
    }

    private static void undoneOneByOne() {
        FarDrum drum = Check.drum("v0 0;v3 0;e0 1 4;", 3);
        drum.strikes();
        drum.fog(1);
        drum.cold(0, 7);
        drum.deafens(1, 1);
        drum.sends(0, 1, 3);
        drum.sends(1, 0, 5);
        drum.fog(2);
        Check.due("undo sends", drum.undo(), 5);
        Check.due("mules", drum.now(4), 1);
        Check.due("undo sends", drum.undo(), 4);
        Check.due("mules", drum.now(4), 0);
        Check.due("undo deafens", drum.undo(), 3);
        Check.due("deaf", drum.village(1, 1), 0);
        Check.due("undo cold", drum.undo(), 2);
        Check.due("slow", drum.village(0, 0), 0);
        Check.due("fog ahead of undo", drum.now(3), 1);
        Check.due("undo fog", drum.undo(), 1);
        Check.due("fog", drum.now(3), 0);
        Check.due("beat ahead of undo", drum.now(1), 7);
        Check.due("undo strikes", drum.undo(), 0);
        Check.due("strokes", drum.now(0), 1);
        Check.due("beat", drum.now(1), 0);
        Check.due("village", drum.now(2), 0);
        Check.due("struck in 1", drum.village(1, 3), 0);
        Check.due("struck in 0", drum.village(0, 3), 1);
        Check.due("undo", drum.undo(), FarDrum.STATE);
        stroke(drum, 1, 7, 2);
    }

    private static void tenAreKnown() {
        FarDrum drum = Check.drum("v0 0;v0 0;e0 1 1;", 3);
        for (int i = 0; i < 25; i++) {
            drum.strikes();
            Check.due("undone", drum.now(5), Math.min(i + 1, 10));
        }
        for (int i = 9; i >= 0; i--) {
            Check.due("undo", drum.undo(), i);
            Check.due("strokes", drum.now(0), 16 + i);
            Check.due("beat", drum.now(1), 15 + i);
        }
        Check.due("undo of what is lost", drum.undo(), FarDrum.STATE);
        Check.due("strokes", drum.now(0), 16);
        // what is no change is undone for itself
        drum.cold(0, 0);
        drum.deafens(0, 0);
        Check.due("undo", drum.undo(), 1);
        Check.due("undo", drum.undo(), 0);
    }

    private static void withoutVillages() {
        FarDrum drum = new FarDrum();
        Check.due("fog(1)", drum.fog(1), 0);
        Check.due("cold(0, 0)", drum.cold(0, 0), FarDrum.BAD);
        Check.due("deafens(0, 0)", drum.deafens(0, 0), FarDrum.BAD);
        Check.due("sends(0, 1, 1)", drum.sends(0, 1, 1), FarDrum.BAD);
        Check.due("strikes()", drum.strikes(), FarDrum.STATE);
        Check.due("undo()", drum.undo(), 0);
        Check.due("fog", drum.now(3), 0);
    }
}

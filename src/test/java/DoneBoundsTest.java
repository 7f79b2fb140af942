import java.util.function.Supplier;

/** The bounds of promises 9 to 14, sentence by sentence: what is done, and undone. */
public final class DoneBoundsTest {
    private static final int[] NO_VILLAGE = {Integer.MIN_VALUE, -1, 6, 7, 32, Integer.MAX_VALUE};
    private static final int[] NO_BIT = {Integer.MIN_VALUE, -1, 2, 3, Integer.MAX_VALUE};
    private static final String SIX = "v0 0;v0 0;v0 0;v0 0;v0 0;v0 0;";
    private static final Supplier<FarDrum> TWO = () -> Check.drum("v3 0;v4 0;e0 1 5;", 3);
    private static final Supplier<FarDrum> ALL_SIX = DoneBoundsTest::sixWithAPast;

    public static void main(String[] args) {
        strokesWithoutVillages();
        strokesOfWhatEnded();
        stroke9999IsTheLast();
        whoHearsItLast();
        ofSeveralTheLowest();
        theSlowestAreNotTheLast();
        fogComesOrGoes();
        coldsAre0To9();
        deafOrHearing();
        mulesAreFromOneToAnother();
        mulesLast1To20();
        thereAreTwoMulesAtMost();
        badComesAheadOfFull();
        allOfItHoldsFromTheNextStrokeOn();
        nothingIsUndone();
        tenAreKnown();
        onlyWhatWasNotRefused();
        eachKindIsUndone();
        Check.finish();
    }

    private static FarDrum sixWithAPast() {
        FarDrum drum = Check.drum(SIX + "e0 5 9;e1 5 8;s5;", 9);
        drum.strikes();
        drum.fog(1);
        drum.cold(5, 6);
        return drum;
    }

    private static FarDrum sixWithTwoMules() {
        FarDrum drum = sixWithAPast();
        drum.sends(4, 3, 20);
        drum.sends(2, 1, 1);
        return drum;
    }

    private static void state(FarDrum drum, int strokes, int beat, int village) {
        Check.due("strokes", drum.now(0), strokes);
        Check.due("beat", drum.now(1), beat);
        Check.due("village", drum.now(2), village);
    }

    private static void strokesWithoutVillages() {
        Check.still("strikes() without villages", FarDrum::new, FarDrum::strikes, FarDrum.STATE);
        Supplier<FarDrum> gone = () -> {
            FarDrum drum = TWO.get();
            Check.due("valley() of nothing", drum.valley(), 0);
            return drum;
        };
        Check.still("strikes() of villages that are gone", gone, FarDrum::strikes, FarDrum.STATE);
    }

    /** STATE: it ENDED. */
    private static void strokesOfWhatEnded() {
        Check.still("one alone", () -> Check.drum("v0 0;", 1), FarDrum::strikes, FarDrum.STATE);
        Check.still("no ways", () -> Check.drum(SIX, 6), FarDrum::strikes, FarDrum.STATE);
        Check.still("all others are deaf", () -> Check.drum("v0 0;v0 1;e0 1 1;", 3), FarDrum::strikes, FarDrum.STATE);
        Check.still("beyond the reach", () -> Check.drum("v0 0;v0 0;e0 1 3;r2;", 4), FarDrum::strikes, FarDrum.STATE);
        Supplier<FarDrum> foggy = () -> {
            FarDrum drum = Check.drum("v0 0;v0 0;e0 1 3;r5;", 4);
            drum.strikes();
            drum.fog(1);
            return drum;
        };
        Check.still("beyond the reach in fog", foggy, FarDrum::strikes, FarDrum.STATE);
        Supplier<FarDrum> mule = () -> {
            FarDrum drum = Check.drum("v0 0;v0 0;", 2);
            drum.sends(0, 1, 20);
            Check.due("by a mule", drum.strikes(), 1);
            return drum;
        };
        Check.still("no mule back", mule, FarDrum::strikes, FarDrum.STATE);
        // it goes on, when somebody hears the latest one
        FarDrum drum = mule.get();
        Check.due("sends(1, 0, 1)", drum.sends(1, 0, 1), 2);
        Check.due("strikes()", drum.strikes(), 0);
        state(drum, 3, 21, 0);
    }

    /** A STROKE: it is struck (9999 at most) .. STATE: it is STROKE 9999. */
    private static void stroke9999IsTheLast() {
        FarDrum drum = TWO.get();
        for (int i = 2; i < 9999; i++) drum.strikes();
        state(drum, 9998, 9997 * 5 + 4998 * 3 + 4999 * 4, 1);
        Check.due("stroke 9999", drum.strikes(), 0);
        state(drum, 9999, 9998 * 5 + 4999 * 3 + 4999 * 4, 0);
        Check.due("stroke 10000", drum.strikes(), FarDrum.STATE);
        state(drum, 9999, 9998 * 5 + 4999 * 3 + 4999 * 4, 0);
        Check.due("undo()", drum.undo(), 9);
        Check.due("stroke 9999 again", drum.strikes(), 0);
    }

    /** The NEXT STROKE is struck by who HEARS it last. */
    private static void whoHearsItLast() {
        FarDrum drum = Check.drum(SIX + "e0 1 1;e0 2 9;e0 3 8;e0 4 7;e0 5 2;", 11);
        Check.due("by ways", drum.inStrokes(1, 0), 2);
        drum.deafens(2, 1);
        Check.due("but the deaf one", drum.inStrokes(1, 0), 3);
        drum.sends(0, 3, 6);
        Check.due("but one that a mule reaches earlier", drum.inStrokes(1, 0), 4);
        drum.sends(0, 1, 20);
        Check.due("a longer mule beside a way", drum.inStrokes(1, 0), 4);
        drum.fog(1);
        Check.due("in fog", drum.inStrokes(1, 0), 4);
        Check.due("in fog, the beat", drum.inStrokes(1, 1), 14);
    }

    /** Of several the lowest. */
    private static void ofSeveralTheLowest() {
        for (int start = 0; start < 6; start++) {
            StringBuilder ways = new StringBuilder(SIX);
            for (int v = 5; v >= 0; v--) if (v != start) ways.append("e").append(v).append(" ").append(start).append(" 4;");
            FarDrum drum = Check.drum(ways + "s" + start + ";", 12);
            Check.due("of five that are as far from " + start, drum.strikes(), start == 0 ? 1 : 0);
        }
        FarDrum drum = Check.drum("v0 0;v0 0;v9 0;v0 0;e3 1 4;e3 2 4;e3 0 3;s3;", 8);
        Check.due("of two that are as far, a slow one the higher", drum.strikes(), 1);
        // a mule that is as long as a way
        FarDrum mule = Check.drum("v0 0;v0 0;v0 0;e2 1 4;s2;", 5);
        mule.sends(2, 0, 4);
        Check.due("of a way and a mule alike", mule.strikes(), 0);
    }

    /** SLOW beats behind hearing it. */
    private static void theSlowestAreNotTheLast() {
        FarDrum drum = Check.drum("v0 0;v9 0;v0 0;e0 1 8;e0 2 9;", 5);
        Check.due("strikes()", drum.strikes(), 2);
        state(drum, 2, 9, 2);
        FarDrum slowest = Check.drum("v9 0;v9 0;e0 1 9;", 3);
        slowest.fog(1);
        Check.due("strikes()", slowest.strikes(), 1);
        state(slowest, 2, 27, 1);
        FarDrum quickest = Check.drum("v0 0;v0 0;e0 1 1;", 3);
        Check.due("strikes()", quickest.strikes(), 1);
        state(quickest, 2, 1, 1);
    }

    /** FOG comes (1), goes (0): whether there was some. BAD. */
    private static void fogComesOrGoes() {
        for (int is : NO_BIT) {
            Check.still("fog(" + is + ")", ALL_SIX, d -> d.fog(is), FarDrum.BAD);
            Check.still("fog(" + is + ") without villages", FarDrum::new, d -> d.fog(is), FarDrum.BAD);
        }
        for (FarDrum drum : new FarDrum[] {TWO.get(), new FarDrum()}) {
            Check.due("fog at first", drum.now(3), 0);
            Check.due("fog(0)", drum.fog(0), 0);
            Check.due("fog(1)", drum.fog(1), 0);
            Check.due("fog(1)", drum.fog(1), 1);
            Check.due("fog(0)", drum.fog(0), 1);
            Check.due("undone", drum.now(5), 4);
        }
    }

    /** A COLD: how SLOW it was. BAD. */
    private static void coldsAre0To9() {
        for (int slow : new int[] {Integer.MIN_VALUE, -1, 10, 11, Integer.MAX_VALUE}) {
            Check.still("cold(5, " + slow + ")", ALL_SIX, d -> d.cold(5, slow), FarDrum.BAD);
        }
        for (int v : NO_VILLAGE) {
            Check.still("cold(" + v + ", 0)", ALL_SIX, d -> d.cold(v, 0), FarDrum.BAD);
        }
        Check.still("cold(2, 0) of two", TWO, d -> d.cold(2, 0), FarDrum.BAD);
        Check.still("cold(0, 0) of none", FarDrum::new, d -> d.cold(0, 0), FarDrum.BAD);
        FarDrum drum = ALL_SIX.get();
        int was = 6;
        for (int slow : new int[] {0, 9, 9, 8, 1}) {
            Check.due("cold(5, " + slow + ")", drum.cold(5, slow), was);
            Check.due("slow", drum.village(5, 0), slow);
            was = slow;
        }
        Check.due("of others", drum.village(4, 0), 0);
    }

    /** DEAF (1), hearing (0): what it was. BAD. */
    private static void deafOrHearing() {
        for (int is : NO_BIT) {
            Check.still("deafens(5, " + is + ")", ALL_SIX, d -> d.deafens(5, is), FarDrum.BAD);
        }
        for (int v : NO_VILLAGE) {
            Check.still("deafens(" + v + ", 1)", ALL_SIX, d -> d.deafens(v, 1), FarDrum.BAD);
            Check.still("deafens(" + v + ", 0)", ALL_SIX, d -> d.deafens(v, 0), FarDrum.BAD);
        }
        Check.still("deafens(2, 1) of two", TWO, d -> d.deafens(2, 1), FarDrum.BAD);
        Check.still("deafens(0, 0) of none", FarDrum::new, d -> d.deafens(0, 0), FarDrum.BAD);
        FarDrum drum = ALL_SIX.get();
        for (int v = 0; v < 6; v += 5) {
            Check.due("deafens(v, 0)", drum.deafens(v, 0), 0);
            Check.due("deafens(v, 1)", drum.deafens(v, 1), 0);
            Check.due("deafens(v, 1)", drum.deafens(v, 1), 1);
            Check.due("deaf", drum.village(v, 1), 1);
            Check.due("deaf, of others", drum.village(3, 1), 0);
            Check.due("deafens(v, 0)", drum.deafens(v, 0), 1);
            Check.due("deaf", drum.village(v, 1), 0);
        }
        // all of them
        for (int v = 0; v < 6; v++) Check.due("deafens(v, 1)", drum.deafens(v, 1), 0);
        for (int v = 0; v < 6; v++) Check.due("deaf", drum.village(v, 1), 1);
        Check.due("strikes() of the deaf", drum.strikes(), FarDrum.STATE);
    }

    /** A MULE .. BAD (alike, too). */
    private static void mulesAreFromOneToAnother() {
        for (int v : NO_VILLAGE) {
            Check.still("sends(" + v + ", 0, 1)", ALL_SIX, d -> d.sends(v, 0, 1), FarDrum.BAD);
            Check.still("sends(0, " + v + ", 1)", ALL_SIX, d -> d.sends(0, v, 1), FarDrum.BAD);
        }
        for (int v = 0; v < 6; v++) {
            int alike = v;
            Check.still("sends(" + v + ", " + v + ", 1)", ALL_SIX, d -> d.sends(alike, alike, 1), FarDrum.BAD);
        }
        Check.still("sends(0, 2, 1) of two", TWO, d -> d.sends(0, 2, 1), FarDrum.BAD);
        Check.still("sends(2, 0, 1) of two", TWO, d -> d.sends(2, 0, 1), FarDrum.BAD);
        Check.still("sends(0, 1, 1) of none", FarDrum::new, d -> d.sends(0, 1, 1), FarDrum.BAD);
        Check.due("sends(0, 5, 1)", ALL_SIX.get().sends(0, 5, 1), 1);
        Check.due("sends(5, 0, 1)", ALL_SIX.get().sends(5, 0, 1), 1);
    }

    /** LONG (1 .. 20). */
    private static void mulesLast1To20() {
        for (int lasts : new int[] {Integer.MIN_VALUE, -1, 0, 21, 22, Integer.MAX_VALUE}) {
            Check.still("sends(0, 1, " + lasts + ")", ALL_SIX, d -> d.sends(0, 1, lasts), FarDrum.BAD);
        }
        for (int lasts = 1; lasts <= 20; lasts++) {
            FarDrum drum = Check.drum("v0 0;v0 0;", 2);
            Check.due("sends(0, 1, " + lasts + ")", drum.sends(0, 1, lasts), 1);
            Check.due("strikes()", drum.strikes(), 1);
            state(drum, 2, lasts, 1);
        }
    }

    /** MULES (2 at most) .. FULL. */
    private static void thereAreTwoMulesAtMost() {
        Check.still("a third mule", DoneBoundsTest::sixWithTwoMules, d -> d.sends(0, 1, 1), FarDrum.FULL);
        Check.still("a third mule as the first", DoneBoundsTest::sixWithTwoMules, d -> d.sends(4, 3, 20), FarDrum.FULL);
        FarDrum drum = Check.drum("v0 0;v0 0;", 2);
        Check.due("the first", drum.sends(0, 1, 5), 1);
        Check.due("the second, alike", drum.sends(0, 1, 5), 2);
        Check.due("the third", drum.sends(1, 0, 5), FarDrum.FULL);
        Check.due("mules", drum.now(4), 2);
        Check.due("undo()", drum.undo(), 1);
        Check.due("another one", drum.sends(1, 0, 5), 2);
        Check.due("it is there", drum.hears(0, 1), 5);
    }

    /** Refused, the first of these: BAD .. FULL. */
    private static void badComesAheadOfFull() {
        Supplier<FarDrum> full = DoneBoundsTest::sixWithTwoMules;
        Check.still("sends(6, 0, 1), full", full, d -> d.sends(6, 0, 1), FarDrum.BAD);
        Check.still("sends(0, -1, 1), full", full, d -> d.sends(0, -1, 1), FarDrum.BAD);
        Check.still("sends(3, 3, 1), full", full, d -> d.sends(3, 3, 1), FarDrum.BAD);
        Check.still("sends(0, 1, 0), full", full, d -> d.sends(0, 1, 0), FarDrum.BAD);
        Check.still("sends(0, 1, 21), full", full, d -> d.sends(0, 1, 21), FarDrum.BAD);
    }

    /** All of this holds from the next STROKE on. */
    private static void allOfItHoldsFromTheNextStrokeOn() {
        FarDrum drum = Check.drum("v1 0;v2 0;v0 0;e0 1 4;e0 2 3;", 5);
        drum.strikes();
        state(drum, 2, 6, 1);
        drum.fog(1);
        drum.cold(1, 9);
        drum.deafens(1, 1);
        drum.sends(1, 2, 20);
        // the latest one was struck as it was, by one that is deaf and slow since
        state(drum, 2, 6, 1);
        Check.due("the next one", drum.strikes(), 2);
        state(drum, 3, 26, 2);
        Check.due("behind it", drum.strikes(), 0);
        state(drum, 4, 33, 0);
        // 1 is deaf, 2 hears in six
        Check.due("behind it", drum.strikes(), 2);
        state(drum, 5, 39, 2);
    }

    /** STATE: none. */
    private static void nothingIsUndone() {
        Check.still("undo() of a new one", FarDrum::new, FarDrum::undo, FarDrum.STATE);
        Check.still("undo() of the first stroke", TWO, FarDrum::undo, FarDrum.STATE);
        FarDrum drum = new FarDrum();
        drum.fog(1);
        Check.due("undo()", drum.undo(), 0);
        Check.due("undo() again", drum.undo(), FarDrum.STATE);
        FarDrum read = TWO.get();
        read.strikes();
        Check.type(read, "v0 0;");
        Check.due("valley()", read.valley(), 1);
        Check.due("undo() of what was ahead of valley()", read.undo(), FarDrum.STATE);
        Check.due("strokes", read.now(0), 1);
    }

    /** 10 are known, older ones are lost. */
    private static void tenAreKnown() {
        for (int done = 1; done <= 23; done++) {
            FarDrum drum = TWO.get();
            for (int i = 0; i < done; i++) drum.cold(0, (i + 4) % 10);
            int known = Math.min(done, 10);
            Check.due("known of " + done, drum.now(5), known);
            for (int i = 1; i <= known; i++) {
                Check.due("undo()", drum.undo(), known - i);
                int left = done - i;
                Check.due("slow", drum.village(0, 0), left == 0 ? 3 : (left + 3) % 10);
            }
            Check.due("undo() of what is lost", drum.undo(), FarDrum.STATE);
            Check.due("known", drum.now(5), 0);
        }
        // behind an undo there is room for one more
        FarDrum drum = TWO.get();
        for (int i = 0; i < 12; i++) drum.strikes();
        Check.due("undo()", drum.undo(), 9);
        drum.fog(1);
        Check.due("known", drum.now(5), 10);
        drum.fog(0);
        Check.due("known", drum.now(5), 10);
        Check.due("undo()", drum.undo(), 9);
        Check.due("fog", drum.now(3), 1);
        Check.due("undo()", drum.undo(), 8);
        for (int i = 7; i >= 0; i--) Check.due("undo()", drum.undo(), i);
        Check.due("strokes", drum.now(0), 4);
        Check.due("undo()", drum.undo(), FarDrum.STATE);
    }

    /** UNDONE: the latest strikes(), fog(), cold(), deafens(), sends() that was not refused. */
    private static void onlyWhatWasNotRefused() {
        FarDrum drum = Check.drum("v0 0;v0 1;e0 1 4;", 3);
        drum.cold(0, 5);
        drum.strikes();
        drum.fog(2);
        drum.cold(0, 10);
        drum.deafens(2, 1);
        drum.sends(0, 0, 1);
        drum.type('v');
        drum.heard(0, 1);
        drum.tells(1);
        drum.keep(0);
        drum.rate(0, 0);
        drum.valley();
        drum.clear();
        drum.forget();
        drum.unsay();
        Check.due("known", drum.now(5), 1);
        Check.due("undo() of the cold", drum.undo(), 0);
        Check.due("slow", drum.village(0, 0), 0);
        Check.due("undo()", drum.undo(), FarDrum.STATE);
    }

    /** Each is undone alone, one that changed nothing too. */
    private static void eachKindIsUndone() {
        FarDrum drum = TWO.get();
        drum.strikes();
        drum.fog(0);
        drum.cold(0, 3);
        drum.deafens(0, 0);
        drum.sends(0, 1, 5);
        Check.due("known", drum.now(5), 5);
        Check.due("undo() of sends()", drum.undo(), 4);
        Check.due("mules", drum.now(4), 0);
        for (int i = 3; i >= 1; i--) {
            Check.due("undo() of no change", drum.undo(), i);
            state(drum, 2, 9, 1);
        }
        Check.due("undo() of strikes()", drum.undo(), 0);
        state(drum, 1, 0, 0);
        Check.due("struck in 1", drum.village(1, 3), 0);
        Check.due("struck in 0", drum.village(0, 3), 1);
    }
}

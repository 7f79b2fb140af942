import java.util.function.Supplier;

/** The bounds of promises 30 to 32 and 34, sentence by sentence: kinds, the trace, images. */
public final class KindsImagesBoundsTest {
    private static final int[] NO_VILLAGE = {Integer.MIN_VALUE, -1, 6, 7, 32, Integer.MAX_VALUE};
    private static final int[] NO_IMAGE = {Integer.MIN_VALUE, -1, 2, 3, Integer.MAX_VALUE};
    private static final int[] NO_KIND = {Integer.MIN_VALUE, -1, 6, 7, Integer.MAX_VALUE};
    private static final long[] MARKS = {1, 11, 101, 1011, 10101, 100001};
    private static final String SIX = "v0 0;v1 0;v2 0;v3 0;v4 0;v9 0;";
    private static final Supplier<FarDrum> STAR = () -> Check.drum(SIX + "e0 5 1;e1 5 2;e2 5 3;e3 5 4;e4 5 9;s5;", 12);

    public static void main(String[] args) {
        thereAreSixKinds();
        aRateOfAVillage();
        ratesWithoutWays();
        ratesWithAllWays();
        ratesBelow0();
        ratesByStrokes();
        theTraceIs0AtFirst();
        eachBodyOnce();
        theTraceStays();
        thereAreTwoImages();
        noneWasKept();
        badComesAheadOfState();
        anImageKeepsNow();
        anImageKeepsNothingElse();
        anImageIsKeptAnew();
        nothingIsUndoneBehindBack();
        imagesAreGone();
        imagesWithoutVillages();
        Check.finish();
    }

    /** RATE. NO: BAD. */
    private static void thereAreSixKinds() {
        for (int kind : NO_KIND) {
            Check.still("rate(" + kind + ", 0)", STAR, d -> d.rate(kind, 0), FarDrum.NO);
            Check.still("rate(" + kind + ", 6)", STAR, d -> d.rate(kind, 6), FarDrum.NO);
        }
        Check.due("rate(0, 5)", STAR.get().rate(0, 5), 9);
        Check.due("rate(5, 5)", STAR.get().rate(5, 5), 10);
    }

    private static void aRateOfAVillage() {
        for (int kind = 0; kind < 6; kind++) {
            int asked = kind;
            for (int v : NO_VILLAGE) {
                Check.still("rate(" + kind + ", " + v + ")", STAR, d -> d.rate(asked, v), FarDrum.NO);
            }
            Check.still("rate(" + kind + ", 0) of none", FarDrum::new, d -> d.rate(asked, 0), FarDrum.NO);
            Check.still("rate(" + kind + ", 2) of two", () -> Check.drum("v0 0;v0 0;", 2), d -> d.rate(asked, 2), FarDrum.NO);
        }
    }

    private static void rates(FarDrum drum, int v, int... due) {
        for (int kind = 0; kind < 6; kind++) {
            Check.due("rate(" + kind + ", " + v + ")", drum.rate(kind, v), due[kind]);
        }
    }

    /** MILL up less the longest of them, 0 without. */
    private static void ratesWithoutWays() {
        FarDrum drum = Check.drum(SIX, 6);
        rates(drum, 0, 0, 0, 0, 0, 0, 1);
        rates(drum, 4, 4, 4, 4, 8, 8, 4);
        rates(drum, 5, 9, 9, 9, 18, 14, 9);
        // a mule is no way
        drum.sends(5, 0, 20);
        drum.sends(0, 5, 20);
        rates(drum, 5, 9, 9, 9, 18, 14, 9);
    }

    private static void ratesWithAllWays() {
        rates(STAR.get(), 5, 9, 14, 0, 28, 5, 10);
        // fog and reach do not change what ways it has
        FarDrum far = Check.drum(SIX + "e0 5 1;e1 5 2;e2 5 3;e3 5 4;e4 5 9;s5;r1;", 13);
        far.fog(1);
        rates(far, 5, 9, 14, 0, 28, 5, 10);
    }

    private static void ratesBelow0() {
        FarDrum drum = Check.drum("v0 0;v0 0;e0 1 9;", 3);
        rates(drum, 0, 0, 1, -9, 2, -9, 1);
        rates(drum, 1, 0, 1, -9, 2, -8, 0);
    }

    /** WIDOW up, and how often it was struck there. */
    private static void ratesByStrokes() {
        FarDrum drum = Check.drum("v9 1;v3 0;v0 0;e0 1 1;e1 2 1;s0;", 6);
        int[] struck = {1, 0, 0};
        for (int i = 0; i < 9; i++) {
            for (int v = 0; v < 3; v++) Check.due("rate(5, " + v + ")", drum.rate(5, v), new int[] {9, 3, 0}[v] + struck[v]);
            struck[drum.strikes()]++;
        }
        drum.cold(0, 0);
        Check.due("by a cold", drum.rate(5, 0), struck[0]);
        drum.undo();
        Check.due("undone", drum.rate(5, 0), 9 + struck[0]);
    }

    /** THE TRACE, 0 at first. */
    private static void theTraceIs0AtFirst() {
        Check.still("trace() of a new one", FarDrum::new, FarDrum::trace, 0);
        Check.still("trace() of six", STAR, FarDrum::trace, 0);
    }

    /** Added .. as often as rate() asks that body: each once. */
    private static void eachBodyOnce() {
        for (int kind = 0; kind < 6; kind++) {
            FarDrum drum = STAR.get();
            for (int often = 1; often <= 40; often++) {
                drum.rate(kind, often % 6);
                Check.due("trace() of kind " + kind, drum.trace(), often * MARKS[kind]);
                drum.rate(6, 0);
                drum.rate(kind, 6);
                drum.rate(kind, -1);
            }
        }
    }

    private static void theTraceStays() {
        FarDrum drum = STAR.get();
        drum.keep(0);
        for (int kind = 0; kind < 6; kind++) drum.rate(kind, 0);
        drum.fog(1);
        drum.undo();
        drum.back(0);
        drum.trace();
        Check.due("trace()", drum.trace(), 111226);
    }

    /** IMAGES 0, 1 .. BAD. */
    private static void thereAreTwoImages() {
        for (int image : NO_IMAGE) {
            Check.still("keep(" + image + ")", KindsImagesBoundsTest::bothKept, d -> d.keep(image), FarDrum.BAD);
            Check.still("back(" + image + ")", KindsImagesBoundsTest::bothKept, d -> d.back(image), FarDrum.BAD);
            Check.still("keep(" + image + ") of none", FarDrum::new, d -> d.keep(image), FarDrum.BAD);
        }
        FarDrum drum = bothKept();
        Check.due("back(0)", drum.back(0), 2);
        Check.due("back(1)", drum.back(1), 4);
        Check.due("back(0)", drum.back(0), 2);
    }

    private static FarDrum bothKept() {
        FarDrum drum = STAR.get();
        drum.strikes();
        Check.due("keep(0)", drum.keep(0), 2);
        drum.strikes();
        drum.strikes();
        Check.due("keep(1)", drum.keep(1), 4);
        drum.strikes();
        return drum;
    }

    /** STATE: none was kept. */
    private static void noneWasKept() {
        for (int image = 0; image < 2; image++) {
            int other = 1 - image;
            int asked = image;
            Check.still("back(" + image + ") of none", FarDrum::new, d -> d.back(asked), FarDrum.STATE);
            Check.still("back(" + image + ")", STAR, d -> d.back(asked), FarDrum.STATE);
            Supplier<FarDrum> otherKept = () -> {
                FarDrum drum = STAR.get();
                drum.strikes();
                Check.due("keep(" + other + ")", drum.keep(other), 2);
                drum.fog(1);
                return drum;
            };
            Check.still("back(" + image + ") with the other one", otherKept, d -> d.back(asked), FarDrum.STATE);
        }
    }

    /** Refused, the first of these: BAD, STATE. */
    private static void badComesAheadOfState() {
        for (int image : NO_IMAGE) {
            Check.still("back(" + image + "), none kept", STAR, d -> d.back(image), FarDrum.BAD);
            Check.still("back(" + image + ") of none", FarDrum::new, d -> d.back(image), FarDrum.BAD);
        }
    }

    /** Keep NOW (STROKES, the beat, the VILLAGE, FOG, SLOW, DEAF, MULES, how often each was struck). */
    private static void anImageKeepsNow() {
        FarDrum drum = STAR.get();
        drum.strikes();
        drum.fog(1);
        drum.cold(5, 0);
        drum.deafens(3, 1);
        drum.sends(4, 3, 20);
        drum.sends(0, 5, 1);
        drum.keep(1);
        drum.undo();
        drum.undo();
        drum.sends(5, 1, 7);
        drum.deafens(3, 0);
        drum.deafens(0, 1);
        drum.cold(5, 8);
        drum.cold(0, 8);
        drum.fog(0);
        drum.strikes();
        drum.strikes();
        Check.due("back(1)", drum.back(1), 2);
        int[] now = {2, 13, 4, 1, 2, 0};
        for (int what = 0; what < 6; what++) Check.due("now(" + what + ")", drum.now(what), now[what]);
        int[] slow = {0, 1, 2, 3, 4, 0};
        int[] struck = {0, 0, 0, 0, 1, 1};
        for (int v = 0; v < 6; v++) {
            Check.due("slow of " + v, drum.village(v, 0), slow[v]);
            Check.due("deaf of " + v, drum.village(v, 1), v == 3 ? 1 : 0);
            Check.due("struck in " + v, drum.village(v, 3), struck[v]);
        }
        Check.due("its mule to 5", drum.hears(5, 0), 1);
        Check.due("no mule from 5", drum.hears(1, 5), 4);
        drum.deafens(3, 0);
        Check.due("its mule to 3", drum.hears(3, 4), 20);
        Check.due("it has two", drum.sends(0, 1, 1), FarDrum.FULL);
    }

    /** Nothing else. */
    private static void anImageKeepsNothingElse() {
        FarDrum drum = STAR.get();
        drum.heard(0, 1);
        drum.tells(1);
        Check.type(drum, "v0");
        drum.rate(1, 0);
        drum.keep(0);
        drum.heard(0, 2);
        drum.tells(2);
        Check.type(drum, " 0;");
        drum.rate(1, 0);
        Check.due("back(0)", drum.back(0), 1);
        int[] due = {6, 20, 5, 2, 2, 5};
        for (int what = 0; what < 6; what++) Check.due("count(" + what + ")", drum.count(what), due[what]);
        Check.due("trace()", drum.trace(), 22);
    }

    private static void anImageIsKeptAnew() {
        FarDrum drum = bothKept();
        Check.due("keep(0) over it", drum.keep(0), 5);
        drum.strikes();
        Check.due("back(0)", drum.back(0), 5);
        Check.due("back(1) is as it was", drum.back(1), 4);
        // what is done behind back() does not change the image
        drum.cold(5, 1);
        drum.deafens(2, 1);
        drum.sends(1, 2, 3);
        Check.due("back(1) again", drum.back(1), 4);
        Check.due("slow", drum.village(5, 0), 9);
        Check.due("deaf", drum.village(2, 1), 0);
        Check.due("mules", drum.now(4), 0);
    }

    /** Nothing can be UNDONE behind back(). */
    private static void nothingIsUndoneBehindBack() {
        FarDrum drum = bothKept();
        Check.due("known", drum.now(5), 4);
        Check.due("back(1)", drum.back(1), 4);
        Check.due("known", drum.now(5), 0);
        Check.due("undo()", drum.undo(), FarDrum.STATE);
        Check.due("strokes", drum.now(0), 4);
        drum.strikes();
        Check.due("undo() of what came behind it", drum.undo(), 0);
        Check.due("strokes", drum.now(0), 4);
        // to where it is, too
        drum.fog(1);
        drum.keep(0);
        Check.due("known behind keep()", drum.now(5), 1);
        drum.back(0);
        Check.due("undo()", drum.undo(), FarDrum.STATE);
        Check.due("fog", drum.now(3), 1);
    }

    /** Read anew: .. IMAGES are gone; a FAULT leaves them. */
    private static void imagesAreGone() {
        FarDrum drum = bothKept();
        Check.type(drum, "v");
        Check.due("valley() too early", drum.valley(), -11);
        Check.due("back(0)", drum.back(0), 2);
        Check.due("back(1)", drum.back(1), 4);
        drum.clear();
        Check.due("valley()", drum.valley(), 0);
        Check.due("back(0)", drum.back(0), FarDrum.STATE);
        Check.due("back(1)", drum.back(1), FarDrum.STATE);
        Check.due("keep(1)", drum.keep(1), 0);
        Check.due("back(0)", drum.back(0), FarDrum.STATE);
        Check.due("back(1)", drum.back(1), 0);
    }

    private static void imagesWithoutVillages() {
        FarDrum drum = new FarDrum();
        Check.due("keep(0)", drum.keep(0), 0);
        drum.fog(1);
        Check.due("keep(1)", drum.keep(1), 0);
        Check.due("back(0)", drum.back(0), 0);
        Check.due("fog", drum.now(3), 0);
        Check.due("undo()", drum.undo(), FarDrum.STATE);
        Check.due("back(1)", drum.back(1), 0);
        Check.due("fog", drum.now(3), 1);
    }
}

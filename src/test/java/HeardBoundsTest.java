import java.util.function.Supplier;

/** The bounds of promises 22 to 27, sentence by sentence: what was heard, what was told as struck. */
public final class HeardBoundsTest {
    private static final int[] NO_VILLAGE = {Integer.MIN_VALUE, -1, 6, 7, 32, Integer.MAX_VALUE};
    private static final String SIX = "v0 0;v0 0;v0 0;v0 0;v0 0;v0 0;";
    /** Struck at each even beat in 0, at each odd one in 1. */
    private static final String EACH_BEAT = "v0 0;v0 0;e0 1 1;";
    /** Struck at 0, 1, 3, 6, and by three from there on. */
    private static final String CHAIN = "v0 0;v0 0;v0 0;v0 0;e0 1 1;e1 2 2;e2 3 3;";

    public static void main(String[] args) {
        aBeatHeardIs0To200();
        aVillageHears();
        fiveAreHeardAtMost();
        nothingIsForgotten();
        nothingWasHeard();
        heardAtTheFirstAndLastBeat();
        startsOfAllSix();
        aDeafOneHeardNothing();
        noFogColdsMulesSince();
        aBeatToldIs0To400();
        sixAreToldAtMost();
        nothingIsUnsaid();
        allAreStruck();
        justOneIsNone();
        noSuchOne();
        toldAtTheLastBeat();
        toldWithoutVillages();
        struckAsTold();
        Check.finish();
    }

    private static FarDrum heardFive() {
        FarDrum drum = Check.drum(SIX + "e0 1 5;", 7);
        for (int i = 0; i < 5; i++) Check.due("heard()", drum.heard(i, 5 + 10 * i), i + 1);
        return drum;
    }

    private static FarDrum toldSix() {
        FarDrum drum = Check.drum(EACH_BEAT, 3);
        for (int i = 0; i < 6; i++) Check.due("tells()", drum.tells(80 * i), i + 1);
        return drum;
    }

    /** A stroke at a beat (0 .. 200) .. BAD. */
    private static void aBeatHeardIs0To200() {
        Supplier<FarDrum> made = () -> Check.drum(SIX, 6);
        for (int beat : new int[] {Integer.MIN_VALUE, -1, 201, 202, Integer.MAX_VALUE}) {
            Check.still("heard(5, " + beat + ")", made, d -> d.heard(5, beat), FarDrum.BAD);
        }
        FarDrum drum = made.get();
        Check.due("heard(5, 0)", drum.heard(5, 0), 1);
        Check.due("heard(5, 200)", drum.heard(5, 200), 2);
    }

    /** BAD: there is no such VILLAGE. */
    private static void aVillageHears() {
        for (int v : NO_VILLAGE) {
            Check.still("heard(" + v + ", 0)", () -> Check.drum(SIX, 6), d -> d.heard(v, 0), FarDrum.BAD);
            Check.still("heard(" + v + ", 0) of five", HeardBoundsTest::heardFive, d -> d.heard(v, 0), FarDrum.BAD);
        }
        Check.still("heard(2, 0) of two", () -> Check.drum(EACH_BEAT, 3), d -> d.heard(2, 0), FarDrum.BAD);
        Check.still("heard(0, 0) of none", FarDrum::new, d -> d.heard(0, 0), FarDrum.BAD);
    }

    /** HEARD (5 at most) .. FULL; BAD comes ahead of it. */
    private static void fiveAreHeardAtMost() {
        Check.still("a sixth", HeardBoundsTest::heardFive, d -> d.heard(0, 5), FarDrum.FULL);
        Check.still("a sixth at beat 200", HeardBoundsTest::heardFive, d -> d.heard(5, 200), FarDrum.FULL);
        Check.still("a sixth at beat 201", HeardBoundsTest::heardFive, d -> d.heard(5, 201), FarDrum.BAD);
        Check.still("a sixth at beat -1", HeardBoundsTest::heardFive, d -> d.heard(5, -1), FarDrum.BAD);
        FarDrum drum = heardFive();
        Check.due("forget()", drum.forget(), 5);
        Check.due("heard()", drum.heard(5, 200), 1);
        // the same is heard as often as it is told
        for (int i = 2; i <= 5; i++) Check.due("heard() again", drum.heard(5, 200), i);
        Check.due("heard() again", drum.heard(5, 200), FarDrum.FULL);
        // a sixth that was refused does not count
        FarDrum going = Check.drum(EACH_BEAT, 3);
        for (int i = 0; i < 5; i++) going.heard(1, 1 + 2 * i);
        Check.due("mayBe()", going.mayBe(), 1);
        Check.due("a sixth that is not so", going.heard(1, 2), FarDrum.FULL);
        Check.due("mayBe()", going.mayBe(), 1);
    }

    /** Nothing was HEARD: how much there was. */
    private static void nothingIsForgotten() {
        Check.still("forget() of a new one", FarDrum::new, FarDrum::forget, 0);
        Check.still("forget() of nothing", HeardBoundsTest::toldSix, FarDrum::forget, 0);
        FarDrum drum = heardFive();
        Check.due("forget()", drum.forget(), 5);
        Check.due("forget() again", drum.forget(), 0);
        Check.due("heard", drum.count(3), 0);
        Check.due("mayBe()", drum.mayBe(), 63);
        FarDrum both = toldSix();
        both.heard(0, 1);
        Check.due("forget()", both.forget(), 1);
        Check.due("what was told stays", both.count(4), 6);
    }

    /** MAY BE: all that was HEARD is so by each START, if it is nothing. */
    private static void nothingWasHeard() {
        Check.still("without villages", FarDrum::new, FarDrum::mayBe, 0);
        Check.still("one alone", () -> Check.drum("v0 0;", 1), FarDrum::mayBe, 1);
        Check.still("one deaf and alone", () -> Check.drum("v0 1;", 1), FarDrum::mayBe, 1);
        Check.still("six", () -> Check.drum(SIX, 6), FarDrum::mayBe, 63);
    }

    private static int mayBe(String text, int items, int v, int beat) {
        FarDrum drum = Check.drum(text, items);
        Check.due("heard(" + v + ", " + beat + ")", drum.heard(v, beat), 1);
        return drum.mayBe();
    }

    private static void heardAtTheFirstAndLastBeat() {
        // nobody hears a stroke at the beat that it is struck
        Check.due("at 0", mayBe(EACH_BEAT, 3, 1, 0), 0);
        Check.due("at 0, itself", mayBe(EACH_BEAT, 3, 0, 0), 0);
        Check.due("at 1", mayBe(EACH_BEAT, 3, 1, 1), 1);
        Check.due("at 1", mayBe(EACH_BEAT, 3, 0, 1), 2);
        Check.due("at 199", mayBe(EACH_BEAT, 3, 1, 199), 1);
        Check.due("at 200", mayBe(EACH_BEAT, 3, 1, 200), 2);
        Check.due("at 200", mayBe(EACH_BEAT, 3, 0, 200), 1);
        // a stroke at 195, heard at 200
        Check.due("at 200, five beats long", mayBe("v0 0;v0 0;e0 1 5;", 3, 0, 200), 1);
        Check.due("at 196", mayBe("v0 0;v0 0;e0 1 5;", 3, 0, 196), 0);
        Check.due("slow ones at 9", mayBe("v9 0;v9 0;e0 1 9;", 3, 1, 9), 1);
        Check.due("slow ones at 18 + 9", mayBe("v9 0;v9 0;e0 1 9;", 3, 0, 27), 1);
        Check.due("slow ones at 18", mayBe("v9 0;v9 0;e0 1 9;", 3, 0, 18), 0);
    }

    private static void startsOfAllSix() {
        // each of 0 .. 4 is heard by 5 in another number of beats
        String star = SIX + "e0 5 1;e1 5 2;e2 5 3;e3 5 4;e4 5 5;";
        for (int v = 0; v < 5; v++) {
            Check.due("5 heard " + v, mayBe(star, 11, 5, v + 1) & 1 << v, 1 << v);
        }
        Check.due("0 heard 5 at 1", mayBe(star, 11, 0, 1), 32);
        Check.due("4 heard 5 at 5", mayBe(star, 11, 4, 5), 32);
    }

    private static void aDeafOneHeardNothing() {
        String deaf = "v0 1;v0 0;v0 0;e0 1 2;e1 2 3;";
        for (int beat = 0; beat <= 200; beat++) {
            FarDrum drum = Check.drum(deaf, 5);
            drum.heard(0, beat);
            Check.due("a deaf one at " + beat, drum.mayBe(), 0);
        }
        Check.due("but one may begin there", mayBe(deaf, 5, 1, 2), 1);
    }

    /** From the beginning, as told (no FOG, COLD, MULES since). */
    private static void noFogColdsMulesSince() {
        FarDrum drum = Check.drum("v0 0;v2 0;e0 1 4;r7;s1;", 5);
        drum.heard(0, 4);
        drum.heard(1, 8);
        drum.heard(0, 14);
        Check.due("ahead of all that", drum.mayBe(), 2);
        drum.strikes();
        drum.fog(1);
        Check.due("in fog", drum.mayBe(), 2);
        drum.cold(1, 9);
        Check.due("with a cold", drum.mayBe(), 2);
        drum.deafens(0, 1);
        Check.due("with a deaf one", drum.mayBe(), 2);
        drum.sends(1, 0, 1);
        Check.due("with a mule", drum.mayBe(), 2);
        drum.keep(0);
        drum.back(0);
        Check.due("behind back()", drum.mayBe(), 2);
        drum.undo();
        Check.due("behind undo()", drum.mayBe(), 2);
        Check.due("how much was heard", drum.count(3), 3);
    }

    /** Beats told as STROKES (.. 0 .. 400) .. BAD. */
    private static void aBeatToldIs0To400() {
        for (int beat : new int[] {Integer.MIN_VALUE, -1, 401, 402, Integer.MAX_VALUE}) {
            Check.still("tells(" + beat + ")", FarDrum::new, d -> d.tells(beat), FarDrum.BAD);
            Check.still("tells(" + beat + ")", () -> Check.drum(SIX, 6), d -> d.tells(beat), FarDrum.BAD);
        }
        FarDrum drum = new FarDrum();
        Check.due("tells(0)", drum.tells(0), 1);
        Check.due("tells(400)", drum.tells(400), 2);
    }

    /** 6 at most .. FULL; BAD comes ahead of it. */
    private static void sixAreToldAtMost() {
        Check.still("a seventh", HeardBoundsTest::toldSix, d -> d.tells(0), FarDrum.FULL);
        Check.still("a seventh at 400", HeardBoundsTest::toldSix, d -> d.tells(400), FarDrum.FULL);
        Check.still("a seventh at 401", HeardBoundsTest::toldSix, d -> d.tells(401), FarDrum.BAD);
        Check.still("a seventh at -1", HeardBoundsTest::toldSix, d -> d.tells(-1), FarDrum.BAD);
        FarDrum drum = toldSix();
        Check.due("unsay()", drum.unsay(), 6);
        for (int i = 1; i <= 6; i++) Check.due("the same again", drum.tells(7), i);
        Check.due("a seventh", drum.tells(7), FarDrum.FULL);
    }

    /** No beats are told: how many were. */
    private static void nothingIsUnsaid() {
        Check.still("unsay() of a new one", FarDrum::new, FarDrum::unsay, 0);
        Check.still("unsay() of nothing", HeardBoundsTest::heardFive, FarDrum::unsay, 0);
        FarDrum drum = toldSix();
        drum.heard(0, 1);
        Check.due("unsay()", drum.unsay(), 6);
        Check.due("unsay() again", drum.unsay(), 0);
        Check.due("told", drum.count(4), 0);
        Check.due("what was heard stays", drum.count(3), 1);
        Check.due("tooMany()", drum.tooMany(), 0);
    }

    private static int tooMany(String text, int items, int... beats) {
        FarDrum drum = Check.drum(text, items);
        for (int beat : beats) drum.tells(beat);
        Check.due("beats told", drum.count(4), beats.length);
        return drum.tooMany();
    }

    /** 0, if all are. */
    private static void allAreStruck() {
        Check.still("nothing told", () -> Check.drum(CHAIN, 7), FarDrum::tooMany, 0);
        Check.still("six", HeardBoundsTest::toldSix, FarDrum::tooMany, 0);
        Check.due("the first one", tooMany(CHAIN, 7, 0), 0);
        Check.due("six that were struck", tooMany(CHAIN, 7, 399, 3, 1, 6, 0, 9), 0);
        Check.due("the same six times", tooMany(CHAIN, 7, 3, 3, 3, 3, 3, 3), 0);
    }

    /** Just one is none of what was struck: which (bits of those, the one without which all are). */
    private static void justOneIsNone() {
        Check.due("the only one", tooMany(CHAIN, 7, 2), 1);
        for (int i = 0; i < 6; i++) {
            int[] beats = {0, 1, 3, 6, 9, 12};
            beats[i] = 400;
            Check.due("told as number " + i, tooMany(CHAIN, 7, beats), 1 << i);
        }
        // one beside a stroke, on both sides
        Check.due("a beat early", tooMany(CHAIN, 7, 0, 398), 2);
        Check.due("a beat late", tooMany(CHAIN, 7, 400, 0), 1);
        // one alone: the first stroke is all there is
        Check.due("one alone, at 0", tooMany("v0 0;", 1, 0), 0);
        Check.due("one alone, at 1", tooMany("v0 0;", 1, 0, 1), 2);
    }

    /** NONE, if there is no such one. */
    private static void noSuchOne() {
        Check.due("two", tooMany(CHAIN, 7, 2, 4), FarDrum.NONE);
        Check.due("the same one twice", tooMany(CHAIN, 7, 2, 2), FarDrum.NONE);
        Check.due("the first and the last of six", tooMany(CHAIN, 7, 2, 0, 1, 3, 6, 4), FarDrum.NONE);
        Check.due("all of six", tooMany(CHAIN, 7, 2, 4, 5, 7, 8, 10), FarDrum.NONE);
    }

    private static void toldAtTheLastBeat() {
        Check.due("at 400", tooMany(EACH_BEAT, 3, 400), 0);
        Check.due("at 399", tooMany(EACH_BEAT, 3, 399), 0);
        Check.due("at 399 by ten", tooMany("v1 0;v1 0;e0 1 9;", 3, 399), 1);
        Check.due("at 400 by ten", tooMany("v1 0;v1 0;e0 1 9;", 3, 390, 400), 0);
        Check.due("at 400 by three", tooMany(CHAIN, 7, 400), 1);
    }

    private static void toldWithoutVillages() {
        FarDrum drum = new FarDrum();
        Check.due("tooMany()", drum.tooMany(), 0);
        drum.tells(0);
        Check.due("nothing was struck at 0", drum.tooMany(), 1);
        drum.tells(400);
        Check.due("nor at 400", drum.tooMany(), FarDrum.NONE);
    }

    /** What was struck from the beginning, as told: of whatever VILLAGE, by the START that was told. */
    private static void struckAsTold() {
        FarDrum drum = Check.drum("v0 0;v2 0;e0 1 4;r7;s1;", 5);
        for (int beat : new int[] {0, 4, 10, 14, 20}) drum.tells(beat);
        Check.due("ahead of all that", drum.tooMany(), 0);
        drum.strikes();
        drum.fog(1);
        Check.due("in fog", drum.tooMany(), 0);
        drum.cold(1, 9);
        Check.due("with a cold", drum.tooMany(), 0);
        drum.deafens(0, 1);
        Check.due("with a deaf one", drum.tooMany(), 0);
        drum.sends(1, 0, 1);
        Check.due("with a mule", drum.tooMany(), 0);
        drum.undo();
        Check.due("behind undo()", drum.tooMany(), 0);
        drum.tells(6);
        Check.due("by the other start", drum.tooMany(), 32);
    }
}

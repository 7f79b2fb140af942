import java.util.List;
import java.util.function.Supplier;

/** The bounds of promises 15 to 21, sentence by sentence: how it goes, who ends it, mules, the fastest start. */
public final class CourseBoundsTest {
    private static final int[] NO_VILLAGE = {Integer.MIN_VALUE, -1, 6, 7, 32, Integer.MAX_VALUE};
    private static final String SIX = "v0 0;v0 0;v0 0;v0 0;v0 0;v0 0;";
    /** Goes 0, 1, 2, 3, 4, and from 4 on there is only what is sent. */
    private static final String CHAIN = SIX + "e0 1 1;e1 2 2;e2 3 3;e3 4 4;";
    private static final Supplier<FarDrum> ENDING = CourseBoundsTest::ending;
    private static final Supplier<FarDrum> GOING = () -> Check.drum(CHAIN + "e4 5 5;", 11);

    public static void main(String[] args) {
        inStrokesIs0To60();
        inStrokesUpToTheLast();
        inStrokesWithoutVillages();
        endsInNone();
        endsInSoMany();
        neverEnds();
        whatIsSeenOfARound();
        roundsFromNowOn();
        theLongestRound();
        noRound();
        heardIn1To200Beats();
        heardByBeatNAtLast();
        theLatestOneToo();
        heardByNobody();
        endersAreNotDeaf();
        endersOfWhatEnds();
        noEnders();
        mulesLast1To20();
        noMulesAreNeeded();
        oneMuleIsNeeded();
        twoMulesAreNeeded();
        noMulesHelp();
        fullDoesNotMatter();
        theFastestIsTheLowest();
        nothingIsFastest();
        Check.finish();
    }

    /** Ends in five strokes, in village 5, at beat 15. */
    private static FarDrum ending() {
        FarDrum drum = Check.drum(CHAIN, 10);
        drum.sends(4, 5, 5);
        return drum;
    }

    /** IN n (0 .. 60) STROKES .. BAD. */
    private static void inStrokesIs0To60() {
        for (Supplier<FarDrum> made : List.of(ENDING, GOING)) {
            for (int n : new int[] {Integer.MIN_VALUE, -1, 61, 62, Integer.MAX_VALUE}) {
                Check.still("inStrokes(" + n + ", 0)", made, d -> d.inStrokes(n, 0), FarDrum.BAD);
                Check.still("inStrokes(" + n + ", 1)", made, d -> d.inStrokes(n, 1), FarDrum.BAD);
            }
            for (int what : new int[] {Integer.MIN_VALUE, -1, 2, 3, Integer.MAX_VALUE}) {
                Check.still("inStrokes(0, " + what + ")", made, d -> d.inStrokes(0, what), FarDrum.BAD);
                Check.still("inStrokes(60, " + what + ")", made, d -> d.inStrokes(60, what), FarDrum.BAD);
            }
        }
        Check.still("inStrokes(0, 0)", GOING, d -> d.inStrokes(0, 0), 0);
        Check.still("inStrokes(0, 1)", GOING, d -> d.inStrokes(0, 1), 0);
        // 4 at 10, 5 at 15, and so on by five
        Check.still("inStrokes(59, 0)", GOING, d -> d.inStrokes(59, 0), 5);
        Check.still("inStrokes(60, 0)", GOING, d -> d.inStrokes(60, 0), 4);
        Check.still("inStrokes(60, 1)", GOING, d -> d.inStrokes(60, 1), 10 + 56 * 5);
        FarDrum slow = Check.drum("v9 0;v9 0;", 2);
        slow.sends(0, 1, 20);
        slow.sends(1, 0, 20);
        Check.due("the latest beat there may be", slow.inStrokes(60, 1), 60 * 29);
        slow.strikes();
        Check.due("from the latest stroke", slow.inStrokes(0, 1), 29);
        Check.due("from the latest stroke", slow.inStrokes(0, 0), 1);
        Check.due("from the latest stroke", slow.inStrokes(60, 1), 61 * 29);
    }

    /** NONE, if it ENDED ahead of that. */
    private static void inStrokesUpToTheLast() {
        Check.still("the last one", ENDING, d -> d.inStrokes(5, 0), 5);
        Check.still("its beat", ENDING, d -> d.inStrokes(5, 1), 15);
        for (int n = 6; n <= 60; n += 54) {
            int far = n;
            Check.still("behind the last one", ENDING, d -> d.inStrokes(far, 0), FarDrum.NONE);
            Check.still("behind the last one", ENDING, d -> d.inStrokes(far, 1), FarDrum.NONE);
        }
        FarDrum alone = Check.drum("v0 0;", 1);
        Check.due("one alone, 0", alone.inStrokes(0, 0), 0);
        Check.due("one alone, 1", alone.inStrokes(1, 0), FarDrum.NONE);
    }

    private static void inStrokesWithoutVillages() {
        for (int n : new int[] {0, 1, 60}) {
            Check.still("without villages", FarDrum::new, d -> d.inStrokes(n, 0), FarDrum.NONE);
            Check.still("without villages", FarDrum::new, d -> d.inStrokes(n, 1), FarDrum.NONE);
        }
        Check.still("BAD ahead of NONE", FarDrum::new, d -> d.inStrokes(61, 0), FarDrum.BAD);
        Check.still("BAD ahead of NONE", FarDrum::new, d -> d.inStrokes(-1, 0), FarDrum.BAD);
        Check.still("BAD ahead of NONE", FarDrum::new, d -> d.inStrokes(0, 2), FarDrum.BAD);
    }

    /** ENDS: 0: nobody HEARS the latest one. */
    private static void endsInNone() {
        Check.still("without villages", FarDrum::new, FarDrum::ends, 0);
        Check.still("one alone", () -> Check.drum("v0 0;", 1), FarDrum::ends, 0);
        Check.still("six alone", () -> Check.drum(SIX + "s5;", 7), FarDrum::ends, 0);
        Check.still("beyond the reach", () -> Check.drum("v0 0;v0 0;e0 1 9;r8;", 4), FarDrum::ends, 0);
        Check.still("all others are deaf", () -> Check.drum("v0 0;v0 1;e0 1 9;", 3), FarDrum::ends, 0);
    }

    /** ENDS: in how many STROKES it ended. */
    private static void endsInSoMany() {
        FarDrum drum = ENDING.get();
        for (int left = 5; left >= 0; left--) {
            Check.due("ends()", drum.ends(), left);
            Check.due("the last one", drum.inStrokes(left, 0), 5);
            Check.due("one more", drum.inStrokes(left + 1, 0), FarDrum.NONE);
            Check.due("strikes()", drum.strikes(), left == 0 ? FarDrum.STATE : 6 - left);
        }
    }

    /** NONE: never. */
    private static void neverEnds() {
        Check.still("through all six", GOING, FarDrum::ends, FarDrum.NONE);
        Check.still("two", () -> Check.drum("v0 0;v0 0;e0 1 9;", 3), FarDrum::ends, FarDrum.NONE);
        // within the reach just so, in fog as well
        Supplier<FarDrum> foggy = () -> {
            FarDrum drum = Check.drum("v0 0;v0 0;e0 1 9;r18;", 4);
            drum.fog(1);
            return drum;
        };
        Check.still("in fog", foggy, FarDrum::ends, FarDrum.NONE);
    }

    /** From which on (what = 0), STROKES (1), beats (2) .. BAD. */
    private static void whatIsSeenOfARound() {
        for (Supplier<FarDrum> made : List.of(ENDING, GOING, (Supplier<FarDrum>) FarDrum::new)) {
            for (int what : new int[] {Integer.MIN_VALUE, -1, 3, 4, Integer.MAX_VALUE}) {
                Check.still("round(" + what + ")", made, d -> d.round(what), FarDrum.BAD);
            }
        }
        int[] due = {4, 2, 10};
        for (int what = 0; what < 3; what++) {
            int asked = what;
            Check.still("round(" + what + ")", GOING, d -> d.round(asked), due[what]);
        }
    }

    /** From how many STROKES on (0: the latest one) it goes round. */
    private static void roundsFromNowOn() {
        FarDrum drum = GOING.get();
        for (int struck = 0; struck < 7; struck++) {
            Check.due("round(0)", drum.round(0), Math.max(0, 4 - struck));
            Check.due("round(1)", drum.round(1), 2);
            Check.due("round(2)", drum.round(2), 10);
            drum.strikes();
        }
    }

    /** How many STROKES a round has, how many beats. */
    private static void theLongestRound() {
        FarDrum drum = GOING.get();
        drum.sends(5, 0, 20);
        int[] due = {0, 6, 35};
        for (int what = 0; what < 3; what++) Check.due("round(" + what + ") of six", drum.round(what), due[what]);
        for (int v = 0; v < 6; v++) drum.cold(v, 9);
        Check.due("beats of six that are slow", drum.round(2), 35 + 54);
        FarDrum shortest = Check.drum("v0 0;v0 0;e0 1 1;", 3);
        int[] least = {0, 2, 2};
        for (int what = 0; what < 3; what++) Check.due("round(" + what + ") of two", shortest.round(what), least[what]);
    }

    /** NONE, if it ENDS. */
    private static void noRound() {
        for (int what = 0; what < 3; what++) {
            int asked = what;
            Check.still("of what ends", ENDING, d -> d.round(asked), FarDrum.NONE);
            Check.still("without villages", FarDrum::new, d -> d.round(asked), FarDrum.NONE);
            Check.still("one alone", () -> Check.drum("v0 0;", 1), d -> d.round(asked), FarDrum.NONE);
        }
    }

    /** HEARS: within n (1 .. 200) beats .. BAD. */
    private static void heardIn1To200Beats() {
        for (Supplier<FarDrum> made : List.of(ENDING, GOING)) {
            for (int n : new int[] {Integer.MIN_VALUE, -1, 0, 201, 202, Integer.MAX_VALUE}) {
                Check.still("heardIn(5, " + n + ")", made, d -> d.heardIn(5, n), FarDrum.BAD);
            }
            for (int v : NO_VILLAGE) {
                Check.still("heardIn(" + v + ", 1)", made, d -> d.heardIn(v, 1), FarDrum.BAD);
                Check.still("heardIn(" + v + ", 200)", made, d -> d.heardIn(v, 200), FarDrum.BAD);
            }
        }
        Check.still("of none", FarDrum::new, d -> d.heardIn(0, 1), FarDrum.BAD);
        Check.still("of two", () -> Check.drum("v0 0;v0 0;", 2), d -> d.heardIn(2, 1), FarDrum.BAD);
        FarDrum each = Check.drum("v0 0;v0 0;v0 0;e0 1 1;e0 2 1;", 5);
        // 0 at 0, 1 at 1, 0 at 2 ..: 2 hears those of 0 a beat later
        for (int n = 1; n <= 200; n++) {
            Check.due("heardIn(2, " + n + ")", each.heardIn(2, n), (n + 1) / 2);
            Check.due("heardIn(0, " + n + ")", each.heardIn(0, n), n / 2);
        }
    }

    /** Heard by beat n at last. */
    private static void heardByBeatNAtLast() {
        // 4 at 10, 5 at 15, 4 at 20 ..: 3 hears 2 (struck at 3) at 6, 4 at 14, 24 ..
        int[][] due = {{1, 0}, {5, 0}, {6, 1}, {13, 1}, {14, 2}, {23, 2}, {24, 3}, {193, 19}, {194, 20}, {200, 20}};
        for (int[] row : due) {
            Check.still("heardIn(3, " + row[0] + ")", GOING, d -> d.heardIn(3, row[0]), row[1]);
        }
        FarDrum late = Check.drum("v0 0;v0 0;e0 1 8;", 3);
        Check.due("at 200 just so", late.heardIn(1, 200), 13);
        Check.due("at 199 not yet", late.heardIn(1, 199), 12);
    }

    /** Those struck from it on, the latest one too. */
    private static void theLatestOneToo() {
        FarDrum drum = GOING.get();
        drum.strikes();
        // 1 was struck at 1, that is beat 0 now: 0 hears it, what was struck ahead of it is not heard
        Check.due("of the latest one", drum.heardIn(0, 1), 1);
        Check.due("of what is later", drum.heardIn(0, 200), 1);
        Check.due("of one struck ahead of it", drum.heardIn(1, 3), 0);
        Check.due("of 2, struck at 2, heard two beats later", drum.heardIn(1, 4), 1);
    }

    private static void heardByNobody() {
        FarDrum drum = ENDING.get();
        Check.due("5 hears 4 by the mule, at 15", drum.heardIn(5, 15), 1);
        Check.due("ahead of that", drum.heardIn(5, 14), 0);
        Check.due("nothing else till it ends", drum.heardIn(5, 200), 1);
        drum.deafens(5, 1);
        Check.due("a deaf one", drum.heardIn(5, 200), 0);
        Check.due("one alone", Check.drum("v0 0;", 1).heardIn(0, 200), 0);
    }

    /** ENDERS: VILLAGES (bits; not DEAF ones). */
    private static void endersAreNotDeaf() {
        Check.still("of two", () -> Check.drum("v0 0;v0 0;e0 1 9;", 3), FarDrum::enders, 3);
        // 5 alone is all others' neighbour, so it is who ends it; the deaf one is none
        Supplier<FarDrum> star = () -> Check.drum(SIX + "e5 0 1;e5 1 1;e5 2 1;e5 3 1;e5 4 1;", 11);
        Check.still("of a star", star, FarDrum::enders, 32);
        Supplier<FarDrum> deaf = () -> {
            FarDrum drum = star.get();
            for (int v = 1; v < 5; v++) drum.deafens(v, 1);
            return drum;
        };
        Check.still("of what is left of it", deaf, FarDrum::enders, 33);
        // the one that struck may go deaf and have struck
        Check.still("of a start that is deaf", () -> Check.drum("v0 1;v0 0;v0 0;e0 1 9;e1 2 1;", 5), FarDrum::enders, 6);
    }

    private static void endersOfWhatEnds() {
        Check.still("six alone", () -> Check.drum(SIX, 6), FarDrum::enders, 63);
        Check.still("one alone", () -> Check.drum("v0 0;", 1), FarDrum::enders, 1);
        Check.still("one deaf and alone", () -> Check.drum("v0 1;", 1), FarDrum::enders, 0);
        // it ends in 5; if one of 2 .. 5 were deaf, it would go to and fro ahead of that one
        Check.still("of what ends by those who hear", ENDING, FarDrum::enders, 3);
    }

    private static void noEnders() {
        Check.still("without villages", FarDrum::new, FarDrum::enders, 0);
        Check.still("a ring of three", () -> Check.drum("v0 0;v0 0;v0 0;e0 1 1;e1 2 1;e2 0 1;", 6), FarDrum::enders, 0);
        // all but two are deaf: each of these ends it; with all deaf there is none
        Supplier<FarDrum> deaf = () -> Check.drum("v0 1;v0 1;e0 1 1;", 3);
        Check.still("all are deaf", deaf, FarDrum::enders, 0);
    }

    private static void mules(FarDrum drum, int m, int many, int one, int other) {
        Check.due("mules(" + m + ", 0)", drum.mules(m, 0), many);
        Check.due("mules(" + m + ", 1)", drum.mules(m, 1), one);
        Check.due("mules(" + m + ", 2)", drum.mules(m, 2), other);
    }

    /** Each LONG by m (1 .. 20) .. BAD. */
    private static void mulesLast1To20() {
        for (Supplier<FarDrum> made : List.of(ENDING, GOING, (Supplier<FarDrum>) FarDrum::new)) {
            for (int m : new int[] {Integer.MIN_VALUE, -1, 0, 21, 22, Integer.MAX_VALUE}) {
                for (int what = 0; what < 3; what++) {
                    int asked = what;
                    Check.still("mules(" + m + ", " + what + ")", made, d -> d.mules(m, asked), FarDrum.BAD);
                }
            }
            for (int what : new int[] {Integer.MIN_VALUE, -1, 3, 4, Integer.MAX_VALUE}) {
                Check.still("mules(1, " + what + ")", made, d -> d.mules(1, what), FarDrum.BAD);
            }
        }
        // by m the mule is the longer way from 1, or not: then it is only the way back
        FarDrum drum = Check.drum("v0 1;v0 0;v0 0;v0 0;e0 1 9;e2 3 1;", 6);
        for (int m = 1; m <= 20; m++) mules(drum, m, 1, m > 9 ? 2 : 12, FarDrum.NONE);
    }

    /** 1: .. NONE with 0. */
    private static void noMulesAreNeeded() {
        Check.still("mules(1, 0)", GOING, d -> d.mules(1, 0), 0);
        Check.still("mules(1, 1)", GOING, d -> d.mules(1, 1), FarDrum.NONE);
        Check.still("mules(1, 2)", GOING, d -> d.mules(1, 2), FarDrum.NONE);
        mules(GOING.get(), 20, 0, FarDrum.NONE, FarDrum.NONE);
    }

    /** MULES: the fewest more (0 .. 2) .. of as few the first. */
    private static void oneMuleIsNeeded() {
        // from 5, where it is, to 4 alone, whence a mule goes back: the last pair there is
        Supplier<FarDrum> last = () -> {
            FarDrum drum = Check.drum(SIX + "s5;", 7);
            drum.sends(4, 5, 3);
            return drum;
        };
        Check.still("mules(20, 0)", last, d -> d.mules(20, 0), 1);
        Check.still("mules(20, 1)", last, d -> d.mules(20, 1), 54);
        Check.still("mules(20, 2)", last, d -> d.mules(20, 2), FarDrum.NONE);
        // from 0, where it is, to 1: the first pair there is
        FarDrum first = Check.drum(SIX, 6);
        first.sends(1, 0, 3);
        mules(first, 1, 1, 1, FarDrum.NONE);
        // of several the first by from whom, then by to whom
        FarDrum several = Check.drum("v0 0;v0 0;v0 0;v0 0;e1 2 1;s3;", 6);
        mules(several, 4, 1, 31, FarDrum.NONE);
    }

    /** By from whom, to whom of the one, then of the other one, which is behind it so. */
    private static void twoMulesAreNeeded() {
        mules(Check.drum(SIX, 6), 1, 2, 1, 10);
        mules(Check.drum(SIX + "s5;", 7), 20, 2, 5, 50);
        mules(Check.drum("v0 1;v0 1;v0 1;v0 1;v0 0;v0 0;s5;", 7), 20, 2, 45, 54);
        mules(Check.drum("v0 0;v0 0;", 2), 7, 2, 1, 10);
        // from a deaf one to two that hear each other by nothing but mules
        mules(Check.drum("v0 1;v0 0;v0 0;e0 2 5;", 4), 5, 2, 12, 21);
    }

    /** NONE. */
    private static void noMulesHelp() {
        for (int m = 1; m <= 20; m += 19) {
            mules(new FarDrum(), m, FarDrum.NONE, FarDrum.NONE, FarDrum.NONE);
            mules(Check.drum("v0 0;", 1), m, FarDrum.NONE, FarDrum.NONE, FarDrum.NONE);
            mules(Check.drum("v0 0;v0 1;e0 1 1;", 3), m, FarDrum.NONE, FarDrum.NONE, FarDrum.NONE);
            mules(Check.drum("v0 1;v0 1;v0 1;v0 1;v0 1;v0 1;", 6), m, FarDrum.NONE, FarDrum.NONE, FarDrum.NONE);
        }
        // three would be needed: to 1 from a deaf start, and both ways between 1 and 2
        mules(Check.drum("v0 1;v0 0;v0 0;", 3), 5, FarDrum.NONE, FarDrum.NONE, FarDrum.NONE);
    }

    /** FULL does not matter. */
    private static void fullDoesNotMatter() {
        Supplier<FarDrum> full = () -> {
            FarDrum drum = Check.drum(SIX, 6);
            drum.sends(0, 5, 20);
            drum.sends(3, 2, 20);
            return drum;
        };
        Check.still("with two mules, one more", full, d -> d.mules(20, 0), 1);
        Check.still("with two mules, which", full, d -> d.mules(20, 1), 50);
        Supplier<FarDrum> useless = () -> {
            FarDrum drum = Check.drum(SIX, 6);
            drum.sends(4, 5, 20);
            drum.sends(3, 2, 20);
            return drum;
        };
        Check.still("with two mules, two more", useless, d -> d.mules(1, 0), 2);
        Check.still("with two mules, the one", useless, d -> d.mules(1, 1), 1);
        Check.still("with two mules, the other", useless, d -> d.mules(1, 2), 10);
    }

    /** FASTEST: the START by which a round has fewest beats for each STROKE, of several the lowest. */
    private static void theFastestIsTheLowest() {
        FarDrum drum = Check.drum(SIX + "e0 1 5;e2 3 5;e4 5 5;s5;", 10);
        Check.due("all alike", drum.fastest(), 0);
        drum.cold(0, 1);
        Check.due("but the first two", drum.fastest(), 2);
        drum.cold(3, 1);
        Check.due("but the first four", drum.fastest(), 4);
        drum.cold(5, 1);
        Check.due("all alike, slower", drum.fastest(), 0);
        // as many beats for each stroke in a round of three as in one of two
        FarDrum three = Check.drum(SIX + "e0 1 4;e2 3 3;", 8);
        three.sends(3, 4, 5);
        three.sends(4, 2, 4);
        Check.due("12 for 3 are 8 for 2", three.fastest(), 0);
        three.cold(1, 1);
        Check.due("12 for 3 are fewer than 9 for 2", three.fastest(), 2);
        // a start that leads into a round is as fast as the round
        FarDrum lead = Check.drum("v0 1;v0 0;v0 0;e0 1 9;e1 2 9;", 5);
        Check.due("a deaf one that leads into it", lead.fastest(), 0);
    }

    /** NONE (it ENDS by all). */
    private static void nothingIsFastest() {
        Check.still("without villages", FarDrum::new, FarDrum::fastest, FarDrum.NONE);
        Check.still("one alone", () -> Check.drum("v0 0;", 1), FarDrum::fastest, FarDrum.NONE);
        Check.still("six alone", () -> Check.drum(SIX, 6), FarDrum::fastest, FarDrum.NONE);
        Check.still("the deaf and one", () -> Check.drum("v0 0;v0 1;e0 1 1;", 3), FarDrum::fastest, FarDrum.NONE);
        // it ends from where it is, but not from elsewhere
        Check.still("of what ends", () -> Check.drum("v0 0;v0 0;v0 0;e1 2 1;", 4), FarDrum::fastest, 1);
    }
}

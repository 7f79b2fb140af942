import java.util.List;
import java.util.function.Supplier;

/** The bounds of promises 28 and 29, sentence by sentence: two drums that meet, odds by fogs. */
public final class MeetOddsBoundsTest {
    private static final int[] NO_VILLAGE = {Integer.MIN_VALUE, -1, 6, 7, 32, Integer.MAX_VALUE};
    private static final int[] NO_BIT = {Integer.MIN_VALUE, -1, 2, 3, Integer.MAX_VALUE};
    private static final String SIX = "v0 0;v0 0;v0 0;v0 0;v0 0;v0 0;";
    /** From 0: 1 at 1, 2 at 3, 3 at 6, 4 at 10, 5 at 15, and to and fro between these two by five. */
    private static final Supplier<FarDrum> CHAIN = () -> Check.drum(SIX + "e0 1 1;e1 2 2;e2 3 3;e3 4 4;e4 5 5;", 11);
    /** From 0 it goes to 2, in fog to 1; from 1 to 0; from 2 to 0, in fog it ends. */
    private static final Supplier<FarDrum> FORK = () -> Check.drum("v0 0;v0 0;v0 0;e0 1 3;e0 2 8;r10;", 6);

    public static void main(String[] args) {
        meetInAVillage();
        meetInNoBeats();
        meetLater();
        meetAtOneBeatInTwoVillages();
        theyDoNotMeet();
        theOneEnds();
        theSecondDrumIsStruckNow();
        oddsOfAVillage();
        oddsByTenths();
        oddsOfStrokes();
        oddsOfNoStrokes();
        oddsOfSixStrokes();
        oddsInLeastTerms();
        oddsOfWhatEnds();
        whateverThereIsNow();
        Check.finish();
    }

    private static void meet(Supplier<FarDrum> made, int v, int beats, int village) {
        Check.still("meet(" + v + ", 0)", made, d -> d.meet(v, 0), beats);
        Check.still("meet(" + v + ", 1)", made, d -> d.meet(v, 1), village);
    }

    private static void meetNot(Supplier<FarDrum> made, int v) {
        meet(made, v, FarDrum.NONE, FarDrum.NONE);
    }

    /** MEET: beats (what = 0), the VILLAGE (1) .. BAD. */
    private static void meetInAVillage() {
        for (int v : NO_VILLAGE) {
            Check.still("meet(" + v + ", 0)", CHAIN, d -> d.meet(v, 0), FarDrum.BAD);
            Check.still("meet(" + v + ", 1)", CHAIN, d -> d.meet(v, 1), FarDrum.BAD);
        }
        for (int what : NO_BIT) {
            Check.still("meet(0, " + what + ")", CHAIN, d -> d.meet(0, what), FarDrum.BAD);
            Check.still("meet(5, " + what + ") that is never", CHAIN, d -> d.meet(5, what), FarDrum.BAD);
        }
        Check.still("meet(3, 0) of three", FORK, d -> d.meet(3, 0), FarDrum.BAD);
        Check.still("meet(0, 0) of none", FarDrum::new, d -> d.meet(0, 0), FarDrum.BAD);
        Check.still("meet(0, 1) of none", FarDrum::new, d -> d.meet(0, 1), FarDrum.BAD);
    }

    /** In how many beats (0 .. 400): none, where the first one was struck, though nobody hears it. */
    private static void meetInNoBeats() {
        meet(CHAIN, 0, 0, 0);
        meet(() -> Check.drum("v9 0;", 1), 0, 0, 0);
        meet(() -> Check.drum(SIX + "s5;", 7), 5, 0, 5);
        Supplier<FarDrum> later = () -> {
            FarDrum drum = CHAIN.get();
            for (int i = 0; i < 7; i++) drum.strikes();
            return drum;
        };
        meet(later, 5, 0, 5);
    }

    private static void meetLater() {
        // the one comes to 4 at 10, the other one is back there
        meet(CHAIN, 4, 10, 4);
        // from 0 and from 1 to 2 by mules, in 20 + 9 beats, where it ends
        Supplier<FarDrum> slow = () -> {
            FarDrum drum = Check.drum("v9 0;v9 0;v9 0;", 3);
            drum.sends(0, 2, 20);
            drum.sends(1, 2, 20);
            return drum;
        };
        meet(slow, 1, 29, 2);
        meetNot(slow, 2);
    }

    private static void meetAtOneBeatInTwoVillages() {
        // both are struck at 4, in 2 and in 3, and come to 4 at 9
        Supplier<FarDrum> made = () -> Check.drum(SIX + "e0 2 4;e1 3 4;e2 4 5;e3 4 5;", 10);
        meet(made, 1, 9, 4);
        // both come to 1 in four beats, or the one a beat earlier
        Supplier<FarDrum> alike = () -> Check.drum("v0 0;v0 0;v0 0;v0 0;e0 1 4;e3 1 4;", 6);
        meet(alike, 3, 4, 1);
        Supplier<FarDrum> unlike = () -> Check.drum("v0 0;v0 0;v0 0;v0 0;e0 1 4;e3 1 3;", 6);
        meetNot(unlike, 3);
    }

    /** NONE. */
    private static void theyDoNotMeet() {
        meetNot(CHAIN, 1);
        meetNot(CHAIN, 5);
        meetNot(() -> Check.drum("v0 0;v0 0;e0 1 1;", 3), 1);
        meetNot(() -> Check.drum("v0 0;v0 0;v0 0;v0 0;e0 1 1;e2 3 1;", 6), 2);
    }

    private static void theOneEnds() {
        // where both end they meet, if it is at one beat
        meet(() -> Check.drum("v0 1;v0 0;v0 1;e0 1 4;e2 1 4;", 5), 2, 4, 1);
        meetNot(() -> Check.drum("v0 1;v0 0;v0 1;e0 1 4;e2 1 5;", 5), 2);
        meetNot(() -> Check.drum(SIX, 6), 5);
        // the other one comes there later, when the first one has ended
        meetNot(() -> Check.drum("v0 0;v0 0;v0 1;e2 1 4;", 4), 2);
    }

    /** A second drum is struck in a VILLAGE at the beat NOW: a deaf one may be where. */
    private static void theSecondDrumIsStruckNow() {
        Supplier<FarDrum> later = () -> {
            FarDrum drum = CHAIN.get();
            for (int i = 0; i < 3; i++) drum.strikes();
            return drum;
        };
        // from 3: 4 at 4, 5 at 9, 4 at 14; from 4: 5 at 5, 4 at 10
        meetNot(later, 4);
        Supplier<FarDrum> cold = () -> {
            FarDrum drum = later.get();
            drum.cold(4, 6);
            return drum;
        };
        // from 3: 4 at 10, 5 at 15; from 5: 4 at 11; from 4: 5 at 5, 4 at 16
        meetNot(cold, 4);
        meetNot(cold, 5);
        Supplier<FarDrum> deaf = () -> Check.drum("v0 1;v0 0;v0 0;v0 1;e0 1 4;e3 1 4;e1 2 1;s3;", 8);
        meet(deaf, 0, 4, 1);
    }

    private static void odds(Supplier<FarDrum> made, int v, int p, int n, int upper, int lower) {
        String call = "odds(" + v + ", " + p + ", " + n + ", ";
        Check.still(call + "0)", made, d -> d.odds(v, p, n, 0), upper);
        Check.still(call + "1)", made, d -> d.odds(v, p, n, 1), lower);
    }

    /** Upper (what = 0), lower number (1) .. BAD. */
    private static void oddsOfAVillage() {
        for (int v : NO_VILLAGE) {
            Check.still("odds(" + v + ", 5, 1, 0)", CHAIN, d -> d.odds(v, 5, 1, 0), FarDrum.BAD);
            Check.still("odds(" + v + ", 0, 0, 1)", CHAIN, d -> d.odds(v, 0, 0, 1), FarDrum.BAD);
        }
        for (int what : NO_BIT) {
            Check.still("odds(0, 5, 1, " + what + ")", CHAIN, d -> d.odds(0, 5, 1, what), FarDrum.BAD);
        }
        Check.still("odds(3, 5, 1, 0) of three", FORK, d -> d.odds(3, 5, 1, 0), FarDrum.BAD);
        Check.still("odds(0, 0, 0, 0) of none", FarDrum::new, d -> d.odds(0, 0, 0, 0), FarDrum.BAD);
        Check.still("odds(0, 0, 0, 1) of none", FarDrum::new, d -> d.odds(0, 0, 0, 1), FarDrum.BAD);
    }

    /** ODDS by p (0 .. 10): there is FOG by p of 10. */
    private static void oddsByTenths() {
        for (int p : new int[] {Integer.MIN_VALUE, -1, 11, 12, Integer.MAX_VALUE}) {
            Check.still("odds(0, " + p + ", 1, 0)", FORK, d -> d.odds(0, p, 1, 0), FarDrum.BAD);
            Check.still("odds(0, " + p + ", 0, 1)", FORK, d -> d.odds(0, p, 0, 1), FarDrum.BAD);
        }
        int[][] due = {{0, 1}, {1, 10}, {1, 5}, {3, 10}, {2, 5}, {1, 2}, {3, 5}, {7, 10}, {4, 5}, {9, 10}, {1, 1}};
        for (int p = 0; p <= 10; p++) {
            odds(FORK, 1, p, 1, due[p][0], due[p][1]);
            odds(FORK, 2, p, 1, due[10 - p][0], due[10 - p][1]);
            odds(FORK, 0, p, 1, 0, 1);
        }
    }

    /** n (0 .. 6). */
    private static void oddsOfStrokes() {
        for (int n : new int[] {Integer.MIN_VALUE, -1, 7, 8, Integer.MAX_VALUE}) {
            Check.still("odds(0, 5, " + n + ", 0)", FORK, d -> d.odds(0, 5, n, 0), FarDrum.BAD);
            Check.still("odds(0, 0, " + n + ", 1)", FORK, d -> d.odds(0, 0, n, 1), FarDrum.BAD);
        }
        // back in 0 by every second stroke, but for a clear one and a foggy one behind it
        int[][] due = {{1, 1}, {0, 1}, {3, 4}, {0, 1}, {9, 16}, {0, 1}, {27, 64}};
        for (int n = 0; n <= 6; n++) odds(FORK, 0, 5, n, due[n][0], due[n][1]);
    }

    private static void oddsOfNoStrokes() {
        for (int p = 0; p <= 10; p += 5) {
            odds(FORK, 0, p, 0, 1, 1);
            odds(FORK, 1, p, 0, 0, 1);
            odds(() -> Check.drum(SIX + "s5;", 7), 5, p, 0, 1, 1);
            odds(() -> Check.drum(SIX + "s5;", 7), 4, p, 0, 0, 1);
        }
    }

    /** The longest fractions: 0.79 three times over. */
    private static void oddsOfSixStrokes() {
        odds(FORK, 0, 3, 6, 493039, 1000000);
        odds(FORK, 0, 7, 6, 493039, 1000000);
        odds(FORK, 1, 3, 5, 3 * 79 * 79, 100000);
        odds(FORK, 0, 1, 6, 91 * 91 * 91, 1000000);
        // whatever the fog, the drum is there for certain
        Supplier<FarDrum> sure = () -> Check.drum("v0 0;v0 0;e0 1 1;", 3);
        odds(sure, 0, 3, 6, 1, 1);
        odds(sure, 1, 3, 6, 0, 1);
        odds(sure, 1, 7, 5, 1, 1);
    }

    /** A fraction .. in least terms. */
    private static void oddsInLeastTerms() {
        odds(FORK, 1, 5, 1, 1, 2);
        odds(FORK, 1, 4, 1, 2, 5);
        odds(FORK, 0, 2, 2, 21, 25);
        odds(FORK, 0, 0, 6, 1, 1);
        odds(FORK, 0, 10, 6, 1, 1);
        odds(FORK, 2, 10, 5, 0, 1);
    }

    private static void oddsOfWhatEnds() {
        for (Supplier<FarDrum> made : List.<Supplier<FarDrum>>of(() -> Check.drum(SIX, 6), () -> Check.drum(SIX + "e4 5 1;", 7))) {
            for (int v = 0; v < 6; v++) {
                odds(made, v, 5, 1, 0, 1);
                odds(made, v, 0, 6, 0, 1);
            }
        }
        // fog alone ends it: beyond the reach
        Supplier<FarDrum> far = () -> Check.drum("v0 0;v0 0;e0 1 1;r1;", 4);
        odds(far, 0, 5, 6, 1, 64);
        odds(far, 0, 10, 6, 0, 1);
        odds(far, 0, 0, 6, 1, 1);
        odds(far, 1, 9, 5, 1, 100000);
    }

    /** For itself (whatever there is NOW). */
    private static void whateverThereIsNow() {
        Supplier<FarDrum> foggy = () -> {
            FarDrum drum = FORK.get();
            drum.fog(1);
            return drum;
        };
        odds(foggy, 2, 0, 1, 1, 1);
        odds(foggy, 1, 10, 1, 1, 1);
        odds(foggy, 1, 3, 1, 3, 10);
        // what else there is now matters
        Supplier<FarDrum> mule = () -> {
            FarDrum drum = foggy.get();
            drum.sends(0, 2, 2);
            drum.strikes();
            drum.strikes();
            return drum;
        };
        odds(mule, 0, 3, 0, 1, 1);
        odds(mule, 1, 0, 1, 1, 1);
        odds(mule, 1, 10, 1, 1, 1);
        Supplier<FarDrum> deaf = () -> {
            FarDrum drum = foggy.get();
            drum.deafens(1, 1);
            return drum;
        };
        odds(deaf, 2, 3, 1, 7, 10);
        odds(deaf, 1, 3, 1, 0, 1);
    }
}

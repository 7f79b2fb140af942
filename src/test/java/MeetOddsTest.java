/** Promises 28 and 29: two drums, odds. */
public final class MeetOddsTest {
    private static final String CHAIN = "v0 0;v0 0;v0 0;v0 0;e0 1 1;e1 2 2;e2 3 3;";

    public static void main(String[] args) {
        meetings();
        meetingsFromNow();
        odds();
        oddsOfNow();
        Check.finish();
    }

    private static void meet(FarDrum drum, int v, int beats, int village) {
        Check.due("meet(" + v + ", 0)", drum.meet(v, 0), beats);
        Check.due("meet(" + v + ", 1)", drum.meet(v, 1), village);
    }

    private static void meetings() {
        // from 0: 0 at 0, 1 at 1, 2 at 3, 3 at 6, 2 at 9; from 3: 3 at 0, 2 at 3
        FarDrum drum = Check.drum(CHAIN, 7);
        meet(drum, 0, 0, 0);
        meet(drum, 1, FarDrum.NONE, FarDrum.NONE);
        meet(drum, 2, FarDrum.NONE, FarDrum.NONE);
        meet(drum, 3, 3, 2);
        Check.due("meet(4, 0)", drum.meet(4, 0), FarDrum.BAD);
        Check.due("meet(-1, 0)", drum.meet(-1, 0), FarDrum.BAD);
        Check.due("meet(0, 2)", drum.meet(0, 2), FarDrum.BAD);
        Check.due("meet(0, -1)", drum.meet(0, -1), FarDrum.BAD);
        Check.due("without villages", new FarDrum().meet(0, 0), FarDrum.BAD);
        Check.due("strokes", drum.now(0), 1);
        // the one ends ahead of the other's stroke, but where it ends they meet
        FarDrum ending = Check.drum("v0 1;v0 0;v0 1;e0 1 4;e2 1 4;", 5);
        meet(ending, 2, 4, 1);
        FarDrum apart = Check.drum("v0 1;v0 0;v0 1;e0 1 4;e2 1 5;", 5);
        meet(apart, 2, FarDrum.NONE, FarDrum.NONE);
        meet(apart, 1, FarDrum.NONE, FarDrum.NONE);
    }

    private static void meetingsFromNow() {
        FarDrum drum = Check.drum(CHAIN, 7);
        drum.strikes();
        // from 1: 1 at 0, 2 at 2, 3 at 5
        meet(drum, 1, 0, 1);
        meet(drum, 3, FarDrum.NONE, FarDrum.NONE);
        drum.cold(2, 1);
        // from 1: 2 at 3, 3 at 6; from 3: 2 at 4, 3 at 7
        meet(drum, 3, FarDrum.NONE, FarDrum.NONE);
        drum.sends(3, 2, 2);
        meet(drum, 3, 3, 2);
        drum.fog(1);
        // from 1: 2 at 4 + 1; from 3: 2 at 2 + 1, 3 at 9, 2 at 12; from 2 at 5: 3 at 11
        meet(drum, 3, FarDrum.NONE, FarDrum.NONE);
    }

    private static void odds(FarDrum drum, int v, int p, int n, int upper, int lower) {
        String call = "odds(" + v + ", " + p + ", " + n + ", ";
        Check.due(call + "0)", drum.odds(v, p, n, 0), upper);
        Check.due(call + "1)", drum.odds(v, p, n, 1), lower);
    }

    private static void odds() {
        // from 0 it goes to 2, in fog to 1; from 1 to 0; from 2 to 0, in fog it ends
        FarDrum drum = Check.drum("v0 0;v0 0;v0 0;e0 1 3;e0 2 8;r10;", 6);
        odds(drum, 0, 3, 0, 1, 1);
        odds(drum, 1, 3, 0, 0, 1);
        odds(drum, 0, 3, 1, 0, 1);
        odds(drum, 1, 3, 1, 3, 10);
        odds(drum, 2, 3, 1, 7, 10);
        odds(drum, 2, 5, 1, 1, 2);
        odds(drum, 0, 3, 2, 79, 100);
        odds(drum, 1, 3, 2, 0, 1);
        odds(drum, 0, 5, 6, 27, 64);
        odds(drum, 0, 3, 6, 493039, 1000000);
        odds(drum, 2, 0, 1, 1, 1);
        odds(drum, 2, 10, 1, 0, 1);
        odds(drum, 1, 10, 5, 1, 1);
        Check.due("odds(3, 0, 0, 0)", drum.odds(3, 0, 0, 0), FarDrum.BAD);
        Check.due("odds(-1, 0, 0, 0)", drum.odds(-1, 0, 0, 0), FarDrum.BAD);
        Check.due("odds(0, 11, 0, 0)", drum.odds(0, 11, 0, 0), FarDrum.BAD);
        Check.due("odds(0, -1, 0, 0)", drum.odds(0, -1, 0, 0), FarDrum.BAD);
        Check.due("odds(0, 0, 7, 0)", drum.odds(0, 0, 7, 0), FarDrum.BAD);
        Check.due("odds(0, 0, -1, 0)", drum.odds(0, 0, -1, 0), FarDrum.BAD);
        Check.due("odds(0, 0, 0, 2)", drum.odds(0, 0, 0, 2), FarDrum.BAD);
        Check.due("odds(0, 0, 0, -1)", drum.odds(0, 0, 0, -1), FarDrum.BAD);
        Check.due("without villages", new FarDrum().odds(0, 0, 0, 0), FarDrum.BAD);
    }

    private static void oddsOfNow() {
        FarDrum drum = Check.drum("v0 0;v0 0;v0 0;e0 1 3;e0 2 8;r10;", 6);
        drum.fog(1);
        odds(drum, 1, 3, 1, 3, 10);
        drum.strikes();
        odds(drum, 1, 3, 0, 1, 1);
        odds(drum, 0, 3, 1, 1, 1);
        drum.fog(0);
        drum.deafens(2, 1);
        odds(drum, 1, 3, 2, 1, 1);
        drum.deafens(2, 0);
        drum.sends(0, 1, 20);
        // the way of 3 is shorter than the mule, so it is as it was
        odds(drum, 1, 3, 2, 3, 10);
        drum.sends(2, 0, 20);
        odds(drum, 0, 3, 3, 1, 1);
        Check.due("fog behind odds()", drum.now(3), 0);
        Check.due("strokes behind odds()", drum.now(0), 2);
    }
}

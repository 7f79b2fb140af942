/** Promises 15 to 21: how it goes, who ends it, mules, the fastest start. */
public final class CourseTest {
    /** Goes 0, 1, 2, 3, and then to and fro between 2 and 3. */
    private static final String CHAIN = "v0 0;v0 0;v0 0;v0 0;e0 1 1;e1 2 2;e2 3 3;";

    public static void main(String[] args) {
        inStrokes();
        ends();
        rounds();
        heardWithin();
        enders();
        noMules();
        oneMule();
        twoMules();
        mulesThatDoNotHelp();
        fastest();
        Check.finish();
    }

    private static void inStrokes() {
        FarDrum drum = Check.drum(CHAIN, 7);
        int[] villages = {0, 1, 2, 3, 2, 3};
        int[] beats = {0, 1, 3, 6, 9, 12};
        for (int n = 0; n < 6; n++) {
            Check.due("inStrokes(" + n + ", 0)", drum.inStrokes(n, 0), villages[n]);
            Check.due("inStrokes(" + n + ", 1)", drum.inStrokes(n, 1), beats[n]);
        }
        Check.due("inStrokes(60, 0)", drum.inStrokes(60, 0), 2);
        Check.due("inStrokes(60, 1)", drum.inStrokes(60, 1), 177);
        Check.due("inStrokes(61, 0)", drum.inStrokes(61, 0), FarDrum.BAD);
        Check.due("inStrokes(-1, 0)", drum.inStrokes(-1, 0), FarDrum.BAD);
        Check.due("inStrokes(0, 2)", drum.inStrokes(0, 2), FarDrum.BAD);
        Check.due("inStrokes(0, -1)", drum.inStrokes(0, -1), FarDrum.BAD);
        Check.due("strokes", drum.now(0), 1);
        drum.strikes();
        drum.cold(2, 5);
        drum.fog(1);
        Check.due("from the latest stroke", drum.inStrokes(0, 1), 1);
        Check.due("in fog, with a cold", drum.inStrokes(1, 1), 10);
        Check.due("in fog, with a cold", drum.inStrokes(3, 1), 27);
        FarDrum short1 = Check.drum("v0 1;v3 0;e0 1 4;", 3);
        Check.due("the last one", short1.inStrokes(1, 1), 7);
        Check.due("behind the last one", short1.inStrokes(2, 0), FarDrum.NONE);
        Check.due("far behind the last one", short1.inStrokes(60, 1), FarDrum.NONE);
        FarDrum none = new FarDrum();
        Check.due("without villages", none.inStrokes(0, 0), FarDrum.NONE);
        Check.due("without villages", none.inStrokes(0, 1), FarDrum.NONE);
        Check.due("without villages", none.inStrokes(61, 1), FarDrum.BAD);
    }

    private static void ends() {
        FarDrum drum = Check.drum("v0 1;v3 0;e0 1 4;", 3);
        Check.due("ends()", drum.ends(), 1);
        drum.strikes();
        Check.due("ends()", drum.ends(), 0);
        drum.deafens(0, 0);
        Check.due("ends()", drum.ends(), FarDrum.NONE);
        Check.due("without villages", new FarDrum().ends(), 0);
        Check.due("one alone", Check.drum("v0 0;", 1).ends(), 0);
        // a way of mules: 0 to 1 to 2 to 3, whom nobody hears
        FarDrum far = Check.drum("v0 1;v0 0;v0 0;v0 0;e0 1 9;", 5);
        far.sends(1, 2, 1);
        far.sends(2, 3, 1);
        Check.due("ends() of four", far.ends(), 3);
    }

    private static void rounds() {
        FarDrum drum = Check.drum(CHAIN, 7);
        round(drum, 2, 2, 6);
        drum.strikes();
        round(drum, 1, 2, 6);
        drum.strikes();
        drum.cold(3, 4);
        round(drum, 0, 2, 10);
        drum.fog(1);
        round(drum, 0, 2, 16);
        Check.due("round(3)", drum.round(3), FarDrum.BAD);
        Check.due("round(-1)", drum.round(-1), FarDrum.BAD);
        FarDrum ending = Check.drum("v0 1;v3 0;e0 1 4;", 3);
        round(ending, FarDrum.NONE, FarDrum.NONE, FarDrum.NONE);
        Check.due("round(3) of what ends", ending.round(3), FarDrum.BAD);
        round(new FarDrum(), FarDrum.NONE, FarDrum.NONE, FarDrum.NONE);
        // through all six
        FarDrum six = Check.drum("v0 0;v0 0;v0 0;v0 0;v0 0;v0 0;e0 1 1;e1 2 2;e2 3 3;e3 4 4;e4 5 5;", 11);
        round(six, 4, 2, 10);
        Check.due("ends() of all six", six.ends(), FarDrum.NONE);
        // of three, by mules
        FarDrum three = Check.drum("v0 0;v1 0;v0 0;v2 0;e0 1 9;e1 2 3;s0;", 7);
        three.sends(1, 3, 10);
        three.sends(3, 0, 5);
        round(three, 0, 3, 27);
    }

    private static void round(FarDrum drum, int from, int strokes, int beats) {
        Check.due("round(0)", drum.round(0), from);
        Check.due("round(1)", drum.round(1), strokes);
        Check.due("round(2)", drum.round(2), beats);
    }

    private static void heardWithin() {
        FarDrum drum = Check.drum(CHAIN, 7);
        // 1 hears 0 at 1, then 2, struck at 3, 9, 15 .., two beats later
        int[][] due = {{1, 1}, {4, 1}, {5, 2}, {10, 2}, {11, 3}, {16, 3}, {17, 4}, {200, 34}};
        for (int[] row : due) {
            Check.due("heardIn(1, " + row[0] + ")", drum.heardIn(1, row[0]), row[1]);
        }
        Check.due("heardIn(0, 1)", drum.heardIn(0, 1), 0);
        Check.due("heardIn(0, 2)", drum.heardIn(0, 2), 1);
        Check.due("heardIn(0, 200)", drum.heardIn(0, 200), 1);
        Check.due("heardIn(4, 1)", drum.heardIn(4, 1), FarDrum.BAD);
        Check.due("heardIn(-1, 1)", drum.heardIn(-1, 1), FarDrum.BAD);
        Check.due("heardIn(0, 0)", drum.heardIn(0, 0), FarDrum.BAD);
        Check.due("heardIn(0, 201)", drum.heardIn(0, 201), FarDrum.BAD);
        drum.deafens(1, 1);
        Check.due("a deaf one", drum.heardIn(1, 200), 0);
        // beats from the latest stroke, not from the beginning
        FarDrum two = Check.drum("v0 0;v0 0;e0 1 1;", 3);
        Check.due("a stroke each beat", two.heardIn(0, 200), 100);
        Check.due("a stroke each beat", two.heardIn(1, 199), 100);
        two.strikes();
        Check.due("from the latest one on", two.heardIn(0, 1), 1);
        Check.due("from the latest one on", two.heardIn(1, 1), 0);
        FarDrum ending = Check.drum("v0 1;v3 0;v0 0;e0 1 4;e0 2 1;", 5);
        Check.due("of one that ends", ending.heardIn(2, 200), 1);
        Check.due("without villages", new FarDrum().heardIn(0, 1), FarDrum.BAD);
    }

    private static void enders() {
        Check.due("of two", Check.drum("v0 0;v0 0;e0 1 4;", 3).enders(), 3);
        Check.due("of a chain", Check.drum(CHAIN, 7).enders(), 2);
        Check.due("without villages", new FarDrum().enders(), 0);
        Check.due("one alone", Check.drum("v0 0;", 1).enders(), 1);
        // it ends as it is: each that is not deaf
        Check.due("of what ends", Check.drum("v0 1;v3 0;v0 0;e0 1 4;", 4).enders(), 6);
        FarDrum drum = Check.drum("v0 0;v0 0;v0 0;e0 1 4;e0 2 5;", 5);
        Check.due("of three", drum.enders(), 1);
        drum.deafens(1, 1);
        Check.due("with a deaf one", drum.enders(), 5);
        drum.undo();
        drum.sends(1, 2, 9);
        Check.due("with a mule", drum.enders(), 1);
        drum.sends(2, 1, 9);
        Check.due("with two mules", drum.enders(), 0);
        Check.due("deaf behind enders()", drum.village(0, 1), 0);
    }

    private static void mules(FarDrum drum, int m, int many, int one, int other) {
        Check.due("mules(" + m + ", 0)", drum.mules(m, 0), many);
        Check.due("mules(" + m + ", 1)", drum.mules(m, 1), one);
        Check.due("mules(" + m + ", 2)", drum.mules(m, 2), other);
    }

    private static void noMules() {
        FarDrum drum = Check.drum(CHAIN, 7);
        mules(drum, 1, 0, FarDrum.NONE, FarDrum.NONE);
        Check.due("mules(0, 0)", drum.mules(0, 0), FarDrum.BAD);
        Check.due("mules(21, 0)", drum.mules(21, 0), FarDrum.BAD);
        Check.due("mules(1, 3)", drum.mules(1, 3), FarDrum.BAD);
        Check.due("mules(1, -1)", drum.mules(1, -1), FarDrum.BAD);
        mules(new FarDrum(), 1, FarDrum.NONE, FarDrum.NONE, FarDrum.NONE);
        mules(Check.drum("v0 0;", 1), 20, FarDrum.NONE, FarDrum.NONE, FarDrum.NONE);
    }

    private static void oneMule() {
        FarDrum drum = Check.drum("v0 0;v0 0;s1;", 3);
        drum.sends(0, 1, 5);
        mules(drum, 20, 1, 10, FarDrum.NONE);
        // how long it is matters: as the longer one it leads away from 1, who is heard by nobody else
        FarDrum apart = Check.drum("v0 1;v0 0;v0 0;v0 0;e0 1 4;e2 3 1;", 6);
        mules(apart, 5, 1, 2, FarDrum.NONE);
        mules(apart, 4, 1, 12, FarDrum.NONE);
        mules(apart, 3, 1, 12, FarDrum.NONE);
        Check.due("mules behind mules()", apart.now(4), 0);
        Check.due("ends behind mules()", apart.ends(), 1);
    }

    private static void twoMules() {
        FarDrum drum = Check.drum("v0 0;v0 0;s1;", 3);
        mules(drum, 1, 2, 1, 10);
        FarDrum deaf = Check.drum("v0 1;v0 0;v0 0;e0 1 4;", 4);
        mules(deaf, 5, 2, 12, 21);
        deaf.sends(0, 1, 9);
        deaf.sends(0, 1, 9);
        mules(deaf, 5, 2, 12, 21);
        FarDrum apart = Check.drum("v0 0;v0 0;v0 0;v0 0;s3;", 5);
        mules(apart, 7, 2, 3, 30);
    }

    private static void mulesThatDoNotHelp() {
        mules(Check.drum("v0 1;v0 0;e0 1 4;", 3), 3, FarDrum.NONE, FarDrum.NONE, FarDrum.NONE);
        mules(Check.drum("v0 1;v0 1;v0 1;e0 1 4;", 4), 20, FarDrum.NONE, FarDrum.NONE, FarDrum.NONE);
    }

    private static void fastest() {
        FarDrum drum = Check.drum("v0 0;v0 0;v0 0;v0 0;e0 1 5;e2 3 4;", 6);
        Check.due("fastest()", drum.fastest(), 2);
        drum.cold(3, 1);
        Check.due("by a beat", drum.fastest(), 2);
        drum.cold(3, 2);
        Check.due("alike", drum.fastest(), 0);
        drum.deafens(0, 1);
        Check.due("but those by which it ends", drum.fastest(), 2);
        drum.deafens(3, 1);
        Check.due("it ends by all", drum.fastest(), FarDrum.NONE);
        Check.due("without villages", new FarDrum().fastest(), FarDrum.NONE);
        // beats for each stroke, not beats: 10 for 3 are fewer than 8 for 2
        FarDrum three = Check.drum("v0 0;v0 0;v0 0;v0 0;v0 0;e0 1 4;e2 3 3;", 7);
        three.sends(3, 4, 5);
        three.sends(4, 2, 2);
        Check.due("of three strokes", three.fastest(), 2);
        // a deaf one may start, what leads into the round does not count
        FarDrum deaf = Check.drum("v0 1;v0 0;v0 0;e0 1 9;e1 2 2;s2;", 6);
        Check.due("a start outside of the round", deaf.fastest(), 0);
    }
}

/** Promises 30 to 34: kinds, images, the trace. */
public final class KindsImagesTest {
    public static void main(String[] args) {
        constants();
        rates();
        ratesOfNow();
        traces();
        images();
        imagesOfMules();
        imagesAndUndo();
        imagesWithoutVillages();
        Check.finish();
    }

    private static void constants() {
        Check.due("BAD", FarDrum.BAD, -1);
        Check.due("STATE", FarDrum.STATE, -2);
        Check.due("FULL", FarDrum.FULL, -3);
        Check.due("NONE", FarDrum.NONE, -9);
        Check.due("NO", FarDrum.NO, -1000000);
    }

    private static void rates() {
        FarDrum drum = Check.drum("v1 0;v4 0;v2 1;v9 0;e0 1 3;e1 2 5;e2 0 8;s2;", 8);
        int[][] due = {
            {1, 4, 2, 9},
            {3, 6, 4, 9},
            {-7, -1, -6, 9},
            {6, 12, 8, 18},
            {-7, 0, -4, 12},
            {1, 4, 3, 9},
        };
        for (int kind = 0; kind < 6; kind++) {
            for (int v = 0; v < 4; v++) {
                Check.due("rate(" + kind + ", " + v + ")", drum.rate(kind, v), due[kind][v]);
            }
        }
        long trace = drum.trace();
        Check.due("rate(6, 0)", drum.rate(6, 0), FarDrum.NO);
        Check.due("rate(-1, 0)", drum.rate(-1, 0), FarDrum.NO);
        Check.due("rate(0, 4)", drum.rate(0, 4), FarDrum.NO);
        Check.due("rate(0, -1)", drum.rate(0, -1), FarDrum.NO);
        Check.due("trace behind refusals", drum.trace(), trace);
        Check.due("without villages", new FarDrum().rate(0, 0), FarDrum.NO);
    }

    private static void ratesOfNow() {
        FarDrum drum = Check.drum("v1 0;v4 0;e0 1 9;r17;", 4);
        drum.strikes();
        drum.strikes();
        drum.cold(0, 5);
        drum.fog(1);
        drum.sends(0, 1, 20);
        Check.due("slow by a cold", drum.rate(0, 0), 5);
        Check.due("mules are no ways", drum.rate(1, 0), 6);
        Check.due("ways without fog", drum.rate(2, 0), -4);
        Check.due("struck twice", drum.rate(5, 0), 7);
        Check.due("struck once", drum.rate(5, 1), 5);
    }

    private static void traces() {
        FarDrum drum = Check.drum("v1 0;", 1);
        long[] adds = {1, 11, 101, 1011, 10101, 100001};
        long due = 0;
        for (int i = 0; i < 30; i++) {
            drum.rate(i * i % 6, 0);
            due += adds[i * i % 6];
            Check.due("trace()", drum.trace(), due);
        }
        for (int kind = 0; kind < 6; kind++) {
            drum.rate(kind, 0);
            due += adds[kind];
            Check.due("trace()", drum.trace(), due);
        }
        drum.keep(0);
        drum.rate(5, 0);
        drum.back(0);
        Check.due("trace behind back()", drum.trace(), due + 100001);
    }

    private static void images() {
        FarDrum drum = Check.drum("v1 0;v4 1;v0 0;e0 1 9;e0 2 3;s1;", 6);
        Check.due("keep(2)", drum.keep(2), FarDrum.BAD);
        Check.due("keep(-1)", drum.keep(-1), FarDrum.BAD);
        Check.due("back(2)", drum.back(2), FarDrum.BAD);
        Check.due("back(-1)", drum.back(-1), FarDrum.BAD);
        Check.due("back(0)", drum.back(0), FarDrum.STATE);
        Check.due("keep(0)", drum.keep(0), 1);
        Check.due("back(1)", drum.back(1), FarDrum.STATE);
        drum.strikes();
        drum.fog(1);
        drum.cold(2, 7);
        drum.deafens(1, 0);
        drum.sends(0, 1, 2);
        drum.heard(0, 3);
        drum.tells(5);
        Check.due("keep(1)", drum.keep(1), 2);
        drum.sends(1, 2, 20);
        drum.strikes();
        due(drum, new int[] {3, 23, 2, 1, 2, 7}, new int[] {1, 4, 7}, 0, new int[] {1, 1, 1});
        Check.due("back(0)", drum.back(0), 1);
        due(drum, new int[] {1, 0, 1, 0, 0, 0}, new int[] {1, 4, 0}, 2, new int[] {0, 1, 0});
        Check.due("heard behind back()", drum.count(3), 1);
        Check.due("told behind back()", drum.count(4), 1);
        Check.due("back(1)", drum.back(1), 2);
        due(drum, new int[] {2, 10, 0, 1, 1, 0}, new int[] {1, 4, 7}, 0, new int[] {1, 1, 0});
        Check.due("the mule of the image", drum.hears(1, 0), 2);
        drum.cold(0, 9);
        Check.due("back(1) again", drum.back(1), 2);
        Check.due("an image does not change", drum.village(0, 0), 1);
        Check.due("keep(0) over the other one", drum.keep(0), 2);
        drum.strikes();
        Check.due("back(0)", drum.back(0), 2);
    }

    private static void due(FarDrum drum, int[] now, int[] slow, int deaf, int[] struck) {
        for (int what = 0; what < 6; what++) {
            Check.due("now(" + what + ")", drum.now(what), now[what]);
        }
        for (int v = 0; v < 3; v++) {
            Check.due("slow of " + v, drum.village(v, 0), slow[v]);
            Check.due("deaf of " + v, drum.village(v, 1), deaf >> v & 1);
            Check.due("struck in " + v, drum.village(v, 3), struck[v]);
        }
    }

    private static void imagesOfMules() {
        FarDrum drum = Check.drum("v0 0;v0 0;v0 0;", 3);
        drum.sends(0, 1, 5);
        drum.keep(1);
        drum.undo();
        drum.sends(2, 0, 7);
        drum.keep(0);
        drum.sends(1, 2, 9);
        Check.due("back(1)", drum.back(1), 1);
        Check.due("its mule", drum.hears(1, 0), 5);
        Check.due("no later mule", drum.hears(0, 2), FarDrum.NONE);
        Check.due("back(0)", drum.back(0), 1);
        Check.due("no earlier mule", drum.hears(1, 0), FarDrum.NONE);
        Check.due("its mule", drum.hears(0, 2), 7);
        Check.due("no later mule", drum.hears(2, 1), FarDrum.NONE);
    }

    private static void imagesAndUndo() {
        FarDrum drum = Check.drum("v0 0;v0 0;e0 1 1;", 3);
        drum.strikes();
        drum.keep(0);
        Check.due("keep() is not undone", drum.undo(), 0);
        drum.strikes();
        drum.strikes();
        Check.due("a refused back()", drum.back(1), FarDrum.STATE);
        Check.due("undone behind it", drum.now(5), 2);
        Check.due("back(0)", drum.back(0), 2);
        Check.due("undone behind back()", drum.now(5), 0);
        Check.due("undo behind back()", drum.undo(), FarDrum.STATE);
        drum.fog(1);
        Check.due("undo of what came behind", drum.undo(), 0);
        Check.due("strokes", drum.now(0), 2);
    }

    private static void imagesWithoutVillages() {
        FarDrum drum = new FarDrum();
        drum.fog(1);
        Check.due("keep(0)", drum.keep(0), 0);
        drum.fog(0);
        Check.due("back(0)", drum.back(0), 0);
        Check.due("fog", drum.now(3), 1);
        Check.type(drum, "v0 0;");
        drum.keep(0);
        Check.due("valley()", drum.valley(), 1);
        Check.due("images are gone", drum.back(0), FarDrum.STATE);
    }
}

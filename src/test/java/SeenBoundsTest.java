import java.util.function.Supplier;

/** The bounds of promises 5 to 8 and 33, sentence by sentence: what is seen of villages, ways, the drum, all that is counted. */
public final class SeenBoundsTest {
    private static final int[] NO_VILLAGE = {Integer.MIN_VALUE, -1, 6, 7, 32, Integer.MAX_VALUE};
    private static final String SIX = "v0 0;v0 0;v0 0;v0 0;v0 0;v0 0;";
    private static final Supplier<FarDrum> TWO_OF_SIX = () -> Check.drum("v3 0;v4 1;e0 1 5;r9;s1;", 5);
    private static final Supplier<FarDrum> ALL_SIX = () -> Check.drum(SIX + "e0 5 9;e5 1 1;e2 5 2;e3 5 3;e5 4 4;s5;", 12);

    public static void main(String[] args) {
        aVillageThatThereIsNot();
        whatIsSeenOfAVillage();
        aVillageWithAllWays();
        aWayToItself();
        noWay();
        waysAreAsLongAsToldInFog();
        nobodyHearsItself();
        aWayWithinReach();
        fogCountsForReach();
        fogAndReachDoNotMatterToMules();
        aMuleGoesThatWayAlone();
        theShorterIfBothAre();
        theDeafHearNothing();
        whatThereIsNow();
        nowWithoutVillages();
        whatIsCounted();
        countedEmpty();
        countedFull();
        Check.finish();
    }

    /** BAD: there is no such thing. */
    private static void aVillageThatThereIsNot() {
        for (int v : NO_VILLAGE) {
            Check.still("village(" + v + ", 0)", ALL_SIX, d -> d.village(v, 0), FarDrum.BAD);
            Check.still("way(" + v + ", 0)", ALL_SIX, d -> d.way(v, 0), FarDrum.BAD);
            Check.still("way(0, " + v + ")", ALL_SIX, d -> d.way(0, v), FarDrum.BAD);
            Check.still("way to itself of " + v, ALL_SIX, d -> d.way(v, v), FarDrum.BAD);
            Check.still("hears(" + v + ", 0)", ALL_SIX, d -> d.hears(v, 0), FarDrum.BAD);
            Check.still("hears(0, " + v + ")", ALL_SIX, d -> d.hears(0, v), FarDrum.BAD);
            Check.still("hears itself, of " + v, ALL_SIX, d -> d.hears(v, v), FarDrum.BAD);
        }
        FarDrum two = TWO_OF_SIX.get();
        Check.due("village(1, 0)", two.village(1, 0), 4);
        Check.due("village(2, 0)", two.village(2, 0), FarDrum.BAD);
        Check.due("way(0, 2)", two.way(0, 2), FarDrum.BAD);
        Check.due("way(2, 2)", two.way(2, 2), FarDrum.BAD);
        Check.due("hears(2, 1)", two.hears(2, 1), FarDrum.BAD);
        Check.due("hears(1, 2)", two.hears(1, 2), FarDrum.BAD);
        FarDrum none = new FarDrum();
        Check.due("village of none", none.village(0, 0), FarDrum.BAD);
        Check.due("way of none", none.way(0, 0), FarDrum.BAD);
        Check.due("hears of none", none.hears(0, 0), FarDrum.BAD);
    }

    /** 0 SLOW, 1 DEAF, 2 those it has a WAY to (bits), 3 how often it was struck. BAD. */
    private static void whatIsSeenOfAVillage() {
        int[] due = {4, 1, 1, 1};
        for (int what = 0; what < 4; what++) {
            Check.due("village(1, " + what + ")", TWO_OF_SIX.get().village(1, what), due[what]);
        }
        for (int what : new int[] {Integer.MIN_VALUE, -1, 4, 5, Integer.MAX_VALUE}) {
            Check.still("village(1, " + what + ")", TWO_OF_SIX, d -> d.village(1, what), FarDrum.BAD);
        }
    }

    private static void aVillageWithAllWays() {
        FarDrum drum = ALL_SIX.get();
        Check.due("ways of 5", drum.village(5, 2), 31);
        for (int v = 0; v < 5; v++) {
            Check.due("ways of " + v, drum.village(v, 2), 32);
        }
        FarDrum none = Check.drum(SIX, 6);
        for (int v = 0; v < 6; v++) {
            Check.due("no ways of " + v, none.village(v, 2), 0);
        }
        // a way is there in fog, beyond the reach, to a deaf one; a mule is none
        FarDrum far = Check.drum("v0 0;v0 1;v0 0;e0 1 9;r1;", 5);
        far.fog(1);
        far.sends(0, 2, 1);
        Check.due("ways of 0", far.village(0, 2), 2);
        Check.due("ways of 1", far.village(1, 2), 1);
        Check.due("ways of 2", far.village(2, 2), 0);
    }

    /** NONE (to itself, too). */
    private static void aWayToItself() {
        for (int v = 0; v < 6; v++) {
            Check.due("way of " + v + " to itself", ALL_SIX.get().way(v, v), FarDrum.NONE);
        }
        Check.due("way of one alone", Check.drum("v0 0;", 1).way(0, 0), FarDrum.NONE);
    }

    private static void noWay() {
        FarDrum drum = ALL_SIX.get();
        int[] due = {9, 1, 2, 3, 4};
        for (int v = 0; v < 5; v++) {
            Check.due("way(" + v + ", 5)", drum.way(v, 5), due[v]);
            Check.due("way(5, " + v + ")", drum.way(5, v), due[v]);
            Check.due("way(" + v + ", " + (v + 1) % 5 + ")", drum.way(v, (v + 1) % 5), FarDrum.NONE);
        }
    }

    /** How LONG the WAY between two VILLAGES is (without FOG). */
    private static void waysAreAsLongAsToldInFog() {
        FarDrum drum = Check.drum("v0 0;v0 1;e0 1 9;r1;", 4);
        drum.fog(1);
        drum.sends(0, 1, 1);
        Check.due("way", drum.way(0, 1), 9);
        Check.due("way", drum.way(1, 0), 9);
    }

    /** NONE (itself, too). */
    private static void nobodyHearsItself() {
        for (int v = 0; v < 6; v++) {
            Check.due("hears itself", ALL_SIX.get().hears(v, v), FarDrum.NONE);
        }
    }

    /** No stroke is heard by a WAY that is longer. */
    private static void aWayWithinReach() {
        for (int beats = 1; beats <= 9; beats++) {
            for (int reach = 1; reach <= 20; reach++) {
                FarDrum drum = Check.drum("v0 0;v0 0;e0 1 " + beats + ";r" + reach + ";", 4);
                int due = beats <= reach ? beats : FarDrum.NONE;
                Check.due(beats + " within " + reach, drum.hears(1, 0), due);
                Check.due(beats + " within " + reach, drum.hears(0, 1), due);
                Check.due("strikes() of " + beats + " within " + reach, drum.strikes(), beats <= reach ? 1 : FarDrum.STATE);
            }
        }
    }

    /** All WAYS are twice as LONG in it .. (FOG counts). */
    private static void fogCountsForReach() {
        for (int beats = 1; beats <= 9; beats++) {
            for (int reach = 1; reach <= 20; reach++) {
                FarDrum drum = Check.drum("v0 0;v0 0;e0 1 " + beats + ";r" + reach + ";", 4);
                drum.fog(1);
                int due = 2 * beats <= reach ? 2 * beats : FarDrum.NONE;
                Check.due("in fog " + beats + " within " + reach, drum.hears(1, 0), due);
                Check.due("in fog " + beats + " within " + reach, drum.inStrokes(1, 1), due);
            }
        }
        FarDrum farthest = Check.drum("v0 0;v0 0;e0 1 9;", 3);
        farthest.fog(1);
        Check.due("the longest way in fog, by the reach at first", farthest.hears(1, 0), 18);
    }

    /** FOG and REACH do not matter to them. */
    private static void fogAndReachDoNotMatterToMules() {
        for (int lasts = 1; lasts <= 20; lasts++) {
            FarDrum drum = Check.drum("v0 0;v0 0;r1;", 3);
            drum.sends(0, 1, lasts);
            Check.due("a mule", drum.hears(1, 0), lasts);
            drum.fog(1);
            Check.due("a mule in fog", drum.hears(1, 0), lasts);
        }
    }

    /** From a VILLAGE to another one (that way alone). */
    private static void aMuleGoesThatWayAlone() {
        FarDrum drum = Check.drum(SIX, 6);
        drum.sends(5, 0, 3);
        drum.sends(4, 5, 6);
        for (int a = 0; a < 6; a++) {
            for (int b = 0; b < 6; b++) {
                int due = b == 5 && a == 0 ? 3 : b == 4 && a == 5 ? 6 : FarDrum.NONE;
                Check.due("hears(" + a + ", " + b + ")", drum.hears(a, b), due);
            }
        }
    }

    /** As many beats later as that is LONG (the shorter, if both are). */
    private static void theShorterIfBothAre() {
        for (int lasts = 1; lasts <= 20; lasts++) {
            FarDrum drum = Check.drum("v0 0;v0 0;e0 1 5;r10;", 4);
            drum.sends(0, 1, lasts);
            Check.due("a way of 5, a mule of " + lasts, drum.hears(1, 0), Math.min(5, lasts));
            drum.fog(1);
            Check.due("a way of 10, a mule of " + lasts, drum.hears(1, 0), Math.min(10, lasts));
            drum.sends(0, 1, 7);
            Check.due("and a mule of 7", drum.hears(1, 0), Math.min(7, lasts));
        }
        FarDrum far = Check.drum("v0 0;v0 0;e0 1 5;r4;", 4);
        far.sends(0, 1, 20);
        Check.due("a way beyond the reach is none", far.hears(1, 0), 20);
    }

    /** It is HEARD by each other VILLAGE that is not DEAF. */
    private static void theDeafHearNothing() {
        FarDrum drum = Check.drum("v0 0;v0 1;e0 1 5;", 3);
        drum.sends(0, 1, 2);
        Check.due("a deaf one, by way and mule", drum.hears(1, 0), FarDrum.NONE);
        Check.due("of a deaf one", drum.hears(0, 1), 5);
        drum.deafens(1, 0);
        Check.due("it hears again", drum.hears(1, 0), 2);
    }

    /** 0 STROKES .. 5 how many may be UNDONE .. BAD. */
    private static void whatThereIsNow() {
        for (int what : new int[] {Integer.MIN_VALUE, -1, 6, 7, Integer.MAX_VALUE}) {
            Check.still("now(" + what + ")", ALL_SIX, d -> d.now(what), FarDrum.BAD);
            Check.still("now(" + what + ") of none", FarDrum::new, d -> d.now(what), FarDrum.BAD);
        }
        FarDrum drum = ALL_SIX.get();
        int[] first = {1, 0, 5, 0, 0, 0};
        for (int what = 0; what < 6; what++) {
            Check.due("now(" + what + ")", drum.now(what), first[what]);
        }
    }

    /** Without VILLAGES 0 .. 2 are 0. */
    private static void nowWithoutVillages() {
        FarDrum drum = ALL_SIX.get();
        drum.strikes();
        drum.strikes();
        Check.due("valley() of nothing", drum.valley(), 0);
        drum.fog(0);
        drum.fog(1);
        int[] due = {0, 0, 0, 1, 0, 2};
        for (int what = 0; what < 6; what++) {
            Check.due("now(" + what + ") without villages", drum.now(what), due[what]);
        }
    }

    /** 0 VILLAGES .. 5 letters of THE TEXT. BAD. */
    private static void whatIsCounted() {
        for (int what : new int[] {Integer.MIN_VALUE, -1, 6, 7, Integer.MAX_VALUE}) {
            Check.still("count(" + what + ")", ALL_SIX, d -> d.count(what), FarDrum.BAD);
            Check.still("count(" + what + ") of none", FarDrum::new, d -> d.count(what), FarDrum.BAD);
        }
    }

    private static void countedEmpty() {
        int[] due = {0, 20, 0, 0, 0, 0};
        for (int what = 0; what < 6; what++) {
            Check.due("count(" + what + ") of a new one", new FarDrum().count(what), due[what]);
        }
    }

    private static void countedFull() {
        FarDrum drum = Check.drum(SIX + "s5;r1;", 8);
        for (int i = 0; i < 9; i++) {
            drum.heard(i % 6, i);
            drum.tells(i);
        }
        for (int i = 0; i < 210; i++) {
            drum.type('x');
        }
        int[] due = {6, 1, 5, 5, 6, 200};
        for (int what = 0; what < 6; what++) {
            Check.due("count(" + what + ") of a full one", drum.count(what), due[what]);
        }
    }
}

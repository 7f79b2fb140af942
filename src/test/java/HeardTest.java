/** Promises 22 to 27: what was heard, and told. */
public final class HeardTest {
    private static final String CHAIN = "v0 0;v0 0;v0 0;v0 0;e0 1 1;e1 2 2;e2 3 3;";

    public static void main(String[] args) {
        whatWasHeard();
        whereItBegan();
        asTold();
        beatsTold();
        oneTooMany();
        tooManyAsTold();
        Check.finish();
    }

    private static void whatWasHeard() {
        FarDrum drum = Check.drum("v0 0;v0 0;", 2);
        Check.due("heard(2, 0)", drum.heard(2, 0), FarDrum.BAD);
        Check.due("heard(-1, 0)", drum.heard(-1, 0), FarDrum.BAD);
        Check.due("heard(0, -1)", drum.heard(0, -1), FarDrum.BAD);
        Check.due("heard(0, 201)", drum.heard(0, 201), FarDrum.BAD);
        Check.due("heard(0, 0)", drum.heard(0, 0), 1);
        Check.due("heard(1, 200)", drum.heard(1, 200), 2);
        Check.due("heard(1, 200)", drum.heard(1, 200), 3);
        Check.due("heard(0, 7)", drum.heard(0, 7), 4);
        Check.due("heard(0, 8)", drum.heard(0, 8), 5);
        Check.due("a sixth one", drum.heard(0, 9), FarDrum.FULL);
        Check.due("a wrong sixth one", drum.heard(2, 9), FarDrum.BAD);
        Check.due("how much there is", drum.count(3), 5);
        Check.due("forget()", drum.forget(), 5);
        Check.due("forget()", drum.forget(), 0);
        Check.due("heard(0, 1)", drum.heard(0, 1), 1);
        Check.due("without villages", new FarDrum().heard(0, 0), FarDrum.BAD);
        Check.due("undone", drum.now(5), 0);
    }

    private static void whereItBegan() {
        FarDrum drum = Check.drum(CHAIN, 7);
        Check.due("nothing heard", drum.mayBe(), 15);
        // 1 hears 0 at 1, 2 at 2; of 0: 2 struck at 3; of 1: 2 struck at 2; of 3: 2 struck at 3
        drum.heard(1, 5);
        Check.due("1 heard one at 5", drum.mayBe(), 1 | 8);
        drum.heard(1, 1);
        Check.due("and at 1", drum.mayBe(), 1);
        drum.heard(1, 5);
        Check.due("told again", drum.mayBe(), 1);
        drum.heard(2, 5);
        Check.due("not heard at all", drum.mayBe(), 0);
        drum.forget();
        drum.heard(0, 0);
        Check.due("its own stroke", drum.mayBe(), 0);
        drum.forget();
        drum.heard(1, 200);
        // of 2: struck at 0, 6, .., 198, heard at 200
        Check.due("at the last beat", drum.mayBe(), 4);
        drum.forget();
        drum.heard(3, 3);
        Check.due("3 heard one at 3", drum.mayBe(), 4);
        Check.due("without villages", new FarDrum().mayBe(), 0);
    }

    private static void asTold() {
        FarDrum drum = Check.drum("v0 0;v2 0;v0 1;e0 1 4;e1 2 3;r7;s1;", 7);
        drum.strikes();
        drum.fog(1);
        drum.cold(1, 9);
        drum.deafens(0, 1);
        drum.deafens(2, 0);
        drum.sends(0, 2, 1);
        drum.heard(1, 4);
        // 1 hears 0 at 4, if that began; from 1 on 0 strikes at 4, heard at 8
        Check.due("heard at 4", drum.mayBe(), 1);
        drum.heard(1, 14);
        Check.due("heard at 14", drum.mayBe(), 1);
        drum.forget();
        drum.heard(0, 4);
        Check.due("0 was not deaf", drum.mayBe(), 2);
        drum.forget();
        drum.heard(2, 1);
        Check.due("there was no mule", drum.mayBe(), 0);
        drum.forget();
        drum.heard(2, 3);
        Check.due("2 was deaf", drum.mayBe(), 0);
        drum.forget();
        drum.heard(1, 3);
        Check.due("a deaf one may begin", drum.mayBe(), 4);
    }

    private static void beatsTold() {
        FarDrum drum = new FarDrum();
        Check.due("tells(-1)", drum.tells(-1), FarDrum.BAD);
        Check.due("tells(401)", drum.tells(401), FarDrum.BAD);
        Check.due("tells(400)", drum.tells(400), 1);
        Check.due("tells(0)", drum.tells(0), 2);
        for (int i = 3; i <= 6; i++) {
            Check.due("tells(3)", drum.tells(3), i);
        }
        Check.due("a seventh", drum.tells(3), FarDrum.FULL);
        Check.due("a wrong seventh", drum.tells(401), FarDrum.BAD);
        Check.due("beats told", drum.count(4), 6);
        Check.due("unsay()", drum.unsay(), 6);
        Check.due("unsay()", drum.unsay(), 0);
        Check.due("tells(3)", drum.tells(3), 1);
    }

    private static void oneTooMany() {
        // struck at 0, 1, 3, 6, 9, 12 ..
        FarDrum drum = Check.drum(CHAIN, 7);
        Check.due("nothing told", drum.tooMany(), 0);
        int[] beats = {0, 3, 399, 1};
        for (int beat : beats) {
            drum.tells(beat);
            Check.due("all were struck", drum.tooMany(), 0);
        }
        drum.tells(400);
        Check.due("the fifth was not", drum.tooMany(), 16);
        drum.tells(3);
        Check.due("one that was, again", drum.tooMany(), 16);
        drum.unsay();
        drum.tells(2);
        Check.due("the only one", drum.tooMany(), 1);
        drum.tells(2);
        Check.due("the same one again", drum.tooMany(), FarDrum.NONE);
        drum.unsay();
        int[] others = {0, 1, 3, 6, 9, 4};
        for (int beat : others) {
            drum.tells(beat);
        }
        Check.due("the sixth", drum.tooMany(), 32);
        drum.unsay();
        drum.tells(4);
        drum.tells(0);
        drum.tells(5);
        Check.due("two of three", drum.tooMany(), FarDrum.NONE);
        FarDrum last = Check.drum("v0 0;v0 0;e0 1 1;", 3);
        last.tells(400);
        Check.due("at the last beat", last.tooMany(), 0);
    }

    private static void tooManyAsTold() {
        // struck in 1 at 0, in 0 at 4, in 1 at 10 ..
        FarDrum drum = Check.drum("v0 0;v2 0;e0 1 4;r7;s1;", 5);
        drum.strikes();
        drum.fog(1);
        drum.cold(1, 9);
        drum.deafens(0, 1);
        drum.sends(1, 0, 1);
        drum.tells(4);
        drum.tells(10);
        drum.tells(14);
        drum.tells(20);
        Check.due("as told", drum.tooMany(), 0);
        drum.tells(21);
        Check.due("as told, but one", drum.tooMany(), 16);
        // it ended: later beats are none
        FarDrum ended = Check.drum("v0 1;v3 0;e0 1 4;", 3);
        ended.tells(7);
        ended.tells(0);
        Check.due("ended", ended.tooMany(), 0);
        ended.tells(11);
        Check.due("behind its end", ended.tooMany(), 4);
        FarDrum none = new FarDrum();
        Check.due("without villages", none.tooMany(), 0);
        none.tells(0);
        Check.due("without villages", none.tooMany(), 1);
        none.tells(0);
        Check.due("without villages", none.tooMany(), FarDrum.NONE);
    }
}

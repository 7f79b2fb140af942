import java.util.ArrayList;
import java.util.List;

/** All that can be seen of a drum, so that two of them can be compared; a drum that was looked at is used up. */
final class Look {
    private Look() {
    }

    static List<Long> at(FarDrum drum) {
        List<Long> seen = new ArrayList<>();
        seen.add(drum.trace());
        for (int what = 0; what < 6; what++) {
            seen.add((long) drum.count(what));
            for (int v = 0; v < 6; v++) seen.add((long) drum.way(v, what));
        }
        seen.add((long) drum.mayBe());
        seen.add((long) drum.tooMany());
        addThings(drum, seen);
        for (int i = 0; i < 11; i++) {
            seen.add((long) drum.undo());
            addThings(drum, seen);
        }
        for (int image = 0; image < 2; image++) {
            seen.add((long) drum.back(image));
            addThings(drum, seen);
        }
        addText(drum, seen);
        addHeardAndTold(drum, seen);
        return seen;
    }

    /** What images keep. */
    private static void addThings(FarDrum drum, List<Long> seen) {
        for (int what = 0; what < 6; what++) {
            seen.add((long) drum.now(what));
            for (int v = 0; v < 6; v++) {
                seen.add((long) drum.village(v, what));
                seen.add((long) drum.hears(v, what));
            }
        }
    }

    /** A text is seen by what it tells. */
    private static void addText(FarDrum drum, List<Long> seen) {
        seen.add((long) drum.valley());
        for (int what = 0; what < 6; what++) {
            seen.add((long) drum.count(what));
            for (int v = 0; v < 6; v++) seen.add((long) drum.way(v, what));
        }
    }

    private static void addHeardAndTold(FarDrum drum, List<Long> seen) {
        seen.add((long) drum.forget());
        seen.add((long) drum.unsay());
    }
}

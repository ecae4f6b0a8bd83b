/** Promises 13 to 16: the order of playing, and how long it lasts. */
final class OrderTest {
    public static void main(String[] args) {
        orders();
        places();
        timesPlayed();
        seconds();
        placeAt();
        Check.end();
    }

    private static void orders() {
        due("- - -", "0 1 2");
        due("- 2 -", "0 1 0 1 2");
        due("- o- 3 -", "0 1 2 1 2 1 2 3");
        due("4", "0 0 0 0");
        due("o2 o2", "0 0 1 1");
        // without an opening, the next repeat starts behind the one before
        due("- 2 - 2", "0 1 0 1 2 3 2 3");
        // endings
        due("o- a2 b -", "0 1 0 2 3");
        due("o- a2 b2 c", "0 1 0 2");
        due("o- a3 b3 c -", "0 1 0 2 0 3 4");
        due("- a - -", "0 1 2 3");
        due("- b - -", "0 2 3");
        due("a b", "0");
        due("b2 -", "1");
        // an ending that is left out closes nothing
        due("- b2 -", "0 2");
        // behind an ending, a measure of none starts anew, also behind one that was left out
        due("- b - 2", "0 2 3 2 3");
        due("- a - 2", "0 1 2 3 2 3");
        due("- a2 - 2", "0 1 0 2 3 2 3");
        // opening in an ending that is left out makes the pass 1 and the start this measure
        due("- 2 ob 2", "0 1 0 1 3 3");
        due("o- a2 ob a -", "0 1 0 3 4");
        due("o- a2 ob 2", "0 1 0 3 3");
        // a jump back to an opening does not make the pass 1 again
        due("o3 -", "0 0 0 1");
        // a measure of an ending that is come to by a jump back is left out too
        due("oa2 b -", "0 1 2");
        due("oa2 b3 c -", "0 1 2 3");
        // the second times are compared with the pass that is reached
        due("o- 2 b3 -", "0 1 0 1 3");
        due("o- a2 b4 c d", "0 1 0 2 0 3");
        due("o- a4 b4 c4 d4 -", "0 1 0 2 0 3 0 4 5");
    }

    private static void due(String plan, String order) {
        Check.equal("order of \"" + plan + "\"", Check.order(Made.repeats(plan)), order);
    }

    private static void places() {
        Music bars = Made.repeats("o- a2 b");
        Check.equal("order(3)", bars.order(3), 2);
        Check.equal("order(4)", bars.order(4), Music.NONE);
        Check.equal("order() far behind", bars.order(Integer.MAX_VALUE), Music.NONE);
        Check.equal("order(0) without measures", new Music().order(0), Music.NONE);
        Check.badValue("order(-1)", () -> bars.order(-1));
        Check.badValue("order() far ahead", () -> bars.order(Integer.MIN_VALUE));
        Music most = Made.repeats("4 4 4 4 4 4 4 4 4 4 4 4 4 4 4 4");
        Check.equal("places of the longest plain order", most.whole(6), 64);
    }

    private static void timesPlayed() {
        Music bars = Made.repeats("o- a2 b - d");
        int[] due = {2, 1, 1, 1, 0};
        for (int measure = 0; measure < due.length; measure++) {
            Check.equal("timesPlayed(" + measure + ")", bars.timesPlayed(measure), due[measure]);
        }
        Check.noPlace("timesPlayed(5)", () -> bars.timesPlayed(5));
        Check.noPlace("timesPlayed(-1)", () -> bars.timesPlayed(-1));
    }

    private static void seconds() {
        Music bars = Made.repeats("- 2 -");
        bars.set(0, 3, 97);
        bars.set(1, 1, 3);
        bars.set(1, 2, 16);
        bars.set(1, 3, 300);
        bars.set(2, 3, 20);
        float first = 64.0f * (60.0f / (16.0f * 97.0f));
        float second = 12.0f * (60.0f / (16.0f * 300.0f));
        float third = 64.0f * (60.0f / (16.0f * 20.0f));
        float due = 0.0f;
        float[] steps = {first, second, first, second, third};
        for (int place = 0; place < steps.length; place++) {
            Check.equal("seconds(" + place + ")", bars.seconds(place), due);
            due += steps[place];
        }
        Check.equal("seconds(5)", bars.seconds(5), due);
        Check.equal("seconds() behind the end", bars.seconds(Integer.MAX_VALUE), due);
        Check.equal("seconds(7) without measures", new Music().seconds(7), 0.0f);
        Check.badValue("seconds(-1)", () -> bars.seconds(-1));
    }

    private static void placeAt() {
        Music bars = Made.bars(3);
        bars.set(1, 1, 1);
        // places last 2, 0.5 and 2 seconds
        int[] due = {0, 0, 1, 2, 2};
        for (int seconds = 0; seconds < due.length; seconds++) {
            Check.equal("placeAt(" + seconds + ")", bars.placeAt(seconds), due[seconds]);
        }
        Check.equal("placeAt(5)", bars.placeAt(5), Music.NONE);
        bars.removeMeasure(1);
        Check.equal("placeAt(3) of 4 seconds", bars.placeAt(3), 1);
        Check.equal("placeAt() at the very end", bars.placeAt(4), Music.NONE);
        Check.equal("placeAt() far behind", bars.placeAt(Integer.MAX_VALUE), Music.NONE);
        Check.equal("placeAt(0) without measures", new Music().placeAt(0), Music.NONE);
        bars.set(0, 6, 2);
        bars.set(1, 6, 2);
        Check.equal("placeAt(0) of an empty order", bars.placeAt(0), Music.NONE);
        Check.badValue("placeAt(-1)", () -> bars.placeAt(-1));
    }
}

/** Promises 8 to 12: values of measures and events, crossings, values of the whole. */
final class ValuesTest {
    public static void main(String[] args) {
        measureTicks();
        eventTicks();
        restValues();
        signsAndKeys();
        tiesAndShifts();
        signsAhead();
        tiesOverBars();
        tiesThatBreak();
        heldLengths();
        lowest();
        eventAt();
        crossings();
        whole();
        Check.end();
    }

    private static void measureTicks() {
        Music bars = Made.bars(1);
        int[] lowers = {2, 4, 8, 16};
        for (int upper = 1; upper <= 12; upper++) {
            for (int lower : lowers) {
                bars.set(0, 1, upper);
                bars.set(0, 2, lower);
                Check.equal("ticks of " + upper + " " + lower, bars.measure(0, 7), 64 * upper / lower);
            }
        }
        Check.noPlace("measure(1, 99)", () -> bars.measure(1, 99));
        Check.noPlace("measure(-1, 0)", () -> bars.measure(-1, 0));
        Check.badValue("measure(0, 12)", () -> bars.measure(0, 12));
        Check.badValue("measure(0, -1)", () -> bars.measure(0, -1));
    }

    private static void eventTicks() {
        Music bars = Made.bars(1);
        int[] ticks = {64, 96, 32, 48, 16, 24, 8, 12, 4, 6};
        int begin = 0;
        for (int duration = 0; duration <= 9; duration++) {
            bars.addNote(0, 0, 30, 0, duration, false);
            bars.addRest(0, 1, 9 - duration);
            Check.equal("ticks of " + duration, bars.event(0, 0, duration, 4), ticks[duration]);
            Check.equal("begin of " + duration, bars.event(0, 0, duration, 5), begin);
            begin += ticks[duration];
        }
        Check.equal("events of voice 0", bars.measure(0, 8), 10);
        Check.equal("ticks of voice 0", bars.measure(0, 10), 310);
        Check.equal("events of voice 1", bars.measure(0, 9), 10);
        Check.equal("ticks of voice 1", bars.measure(0, 11), 310);
        bars.removeEvent(0, 1, 0);
        Check.equal("events of voice 1 behind a removal", bars.measure(0, 9), 9);
        Check.equal("ticks of voice 1 behind a removal", bars.measure(0, 11), 304);
    }

    private static void restValues() {
        Music bars = Made.bars(1);
        bars.addNote(0, 0, 30, 1, 4, true);
        bars.addRest(0, 0, 3);
        int none = Music.NONE;
        int[] due = {none, none, 3, none, 48, 16, none, none, none, none};
        for (int what = 0; what < due.length; what++) {
            Check.equal("value " + what + " of a rest", bars.event(0, 0, 1, what), due[what]);
        }
        Check.equal("a tie to a rest is broken", bars.event(0, 0, 0, 9), 1);
        Check.noPlace("event(0, 0, 2, 99)", () -> bars.event(0, 0, 2, 99));
        Check.noPlace("event(0, 0, -1, 0)", () -> bars.event(0, 0, -1, 0));
        Check.noPlace("event(0, 2, 0, 0)", () -> bars.event(0, 2, 0, 0));
        Check.noPlace("event(0, -1, 0, 0)", () -> bars.event(0, -1, 0, 0));
        Check.noPlace("event(1, 0, 0, 0)", () -> bars.event(1, 0, 0, 0));
        Check.badValue("event(0, 0, 1, 10)", () -> bars.event(0, 0, 1, 10));
        Check.badValue("event(0, 0, 1, -1)", () -> bars.event(0, 0, 1, -1));
    }

    private static void signsAndKeys() {
        Music bars = Made.bars(1);
        for (int step = 0; step < 7; step++) {
            bars.addNote(0, 0, 28 + step, 0, 4, false);
        }
        int[] heights = {48, 50, 52, 53, 55, 57, 59};
        int[] sharps = {3, 0, 4, 1, 5, 2, 6};
        int[] flats = {6, 2, 5, 1, 4, 0, 3};
        for (int key = -7; key <= 7; key++) {
            bars.set(0, 0, key);
            for (int step = 0; step < 7; step++) {
                int shift = 0;
                for (int sign = 0; sign < Math.abs(key); sign++) {
                    shift += (key > 0 ? sharps : flats)[sign] == step ? Integer.signum(key) : 0;
                }
                Check.equal("shift of " + step + " in " + key, bars.event(0, 0, step, 6), shift);
                Check.equal("sound of " + step + " in " + key, bars.event(0, 0, step, 7), heights[step] + shift);
            }
        }
    }

    /** Signs ahead hold for their pitch alone, in their voice and measure alone, the latest of them. */
    private static void tiesAndShifts() {
        Music bars = Made.bars(2);
        bars.addNote(0, 0, 28, 1, 4, false);
        bars.addNote(0, 0, 35, 0, 4, false);
        bars.addNote(0, 0, 28, 0, 4, false);
        bars.addNote(0, 0, 28, 2, 4, false);
        bars.addNote(0, 0, 28, 0, 4, false);
        bars.addNote(0, 0, 28, 3, 4, false);
        bars.addNote(0, 0, 28, 0, 4, false);
        bars.addNote(0, 1, 28, 0, 4, false);
        bars.addNote(1, 0, 28, 0, 4, false);
        bars.set(0, 0, 7);
        int[] due = {1, 1, 1, -1, -1, 0, 0};
        for (int event = 0; event < due.length; event++) {
            Check.equal("shift of event " + event, bars.event(0, 0, event, 6), due[event]);
        }
        Check.equal("shift in the other voice", bars.event(0, 1, 0, 6), 1);
        Check.equal("shift in the next measure", bars.event(1, 0, 0, 6), 0);

        Music tied = Made.bars(1);
        tied.addNote(0, 0, 31, 1, 4, false);
        tied.addNote(0, 0, 31, 2, 4, true);
        tied.addNote(0, 0, 31, 3, 4, false);
        tied.addNote(0, 0, 30, 1, 4, true);
        tied.addNote(0, 0, 31, 0, 4, false);
        int[] shifts = {1, -1, 0, 1, 0};
        for (int event = 0; event < shifts.length; event++) {
            Check.equal("shift with ties, event " + event, tied.event(0, 0, event, 6), shifts[event]);
        }
        Check.equal("a tie to another sign holds", tied.event(0, 0, 1, 9), 0);
        Check.equal("a tie to another pitch is broken", tied.event(0, 0, 3, 9), 1);
        Check.equal("no tie is not broken", tied.event(0, 0, 0, 9), 0);
    }

    /** The sign of the very first event reaches all behind it, over notes without signs and rests. */
    private static void signsAhead() {
        Music bars = Made.bars(1);
        bars.addNote(0, 0, 30, 1, 4, false);
        bars.addNote(0, 0, 30, 0, 4, false);
        bars.addRest(0, 0, 4);
        bars.addNote(0, 0, 30, 0, 4, false);
        int[] due = {1, 1, Music.NONE, 1};
        for (int event = 0; event < due.length; event++) {
            Check.equal("shift behind the first sign, event " + event, bars.event(0, 0, event, 6), due[event]);
        }
    }

    /** What stands between a tie and its note breaks it, whatever call has put it there. */
    private static void tiesThatBreak() {
        Music bars = Made.bars(2);
        bars.addNote(0, 0, 30, 1, 4, true);
        bars.addNote(1, 0, 30, 0, 4, false);
        Check.equal("shift over the bar", bars.event(1, 0, 0, 6), 1);
        bars.addRest(0, 0, 4);
        Check.equal("shift behind a rest", bars.event(1, 0, 0, 6), 0);
        Check.equal("a rest breaks the tie", bars.event(0, 0, 0, 9), 1);
        Check.equal("held length to a rest", bars.event(0, 0, 0, 8), 16);
        bars.removeEvent(0, 0, 1);
        Check.equal("held length without the rest", bars.event(0, 0, 0, 8), 32);
        Check.typeText(bars, "bar 1 voice 1 e flat 4 half tied back 2 end");
        bars.readInto(0);
        Check.equal("shift behind readInto()", bars.event(1, 0, 0, 6), -1);
        Check.equal("held length behind readInto()", bars.event(0, 0, 0, 8), 48);
        Check.equal("order behind readInto()", Check.order(bars), "0 0 1");
        bars.undo();
        Check.equal("shift behind undo()", bars.event(1, 0, 0, 6), 1);
        Check.equal("order behind undo()", Check.order(bars), "0 1");
    }

    /** A tie takes the shift over the barline; the sign itself does not reach so far. */
    private static void tiesOverBars() {
        Music bars = Made.bars(4);
        bars.addNote(0, 0, 29, 1, 0, true);
        bars.addNote(1, 0, 29, 0, 0, true);
        bars.addNote(2, 0, 29, 0, 2, false);
        bars.addNote(2, 0, 29, 0, 2, false);
        Check.equal("shift over one bar", bars.event(1, 0, 0, 6), 1);
        Check.equal("shift over two bars", bars.event(2, 0, 0, 6), 1);
        Check.equal("shift behind the tie", bars.event(2, 0, 1, 6), 0);
        Check.equal("held length over bars", bars.event(0, 0, 0, 8), 160);
        bars.removeEvent(1, 0, 0);
        Check.equal("shift behind an empty voice", bars.event(2, 0, 0, 6), 0);
        Check.equal("tie to an empty voice", bars.event(0, 0, 0, 9), 1);
        Check.equal("held length to an empty voice", bars.event(0, 0, 0, 8), 64);
        bars.removeMeasure(1);
        Check.equal("shift behind a removed measure", bars.event(1, 0, 0, 6), 1);
        bars.addNote(2, 1, 29, 0, 0, true);
        Check.equal("tie of the last measure", bars.event(2, 1, 0, 9), 1);
        bars.addNote(1, 1, 29, 1, 0, false);
        Check.equal("shift behind a note that is not tied", bars.event(2, 1, 0, 6), 0);
    }

    private static void heldLengths() {
        Music bars = Made.bars(2);
        bars.addNote(0, 0, 20, 0, 4, true);
        bars.addNote(0, 0, 20, 2, 5, true);
        bars.addNote(0, 0, 20, 0, 8, false);
        bars.addNote(0, 0, 20, 0, 9, true);
        bars.addNote(1, 0, 21, 0, 9, true);
        int[] due = {44, 28, 4, 6};
        int[] broken = {0, 0, 0, 1};
        for (int event = 0; event < due.length; event++) {
            Check.equal("held length of " + event, bars.event(0, 0, event, 8), due[event]);
            Check.equal("broken tie of " + event, bars.event(0, 0, event, 9), broken[event]);
        }
        Music longest = Made.bars(16);
        for (int measure = 0; measure < 16; measure++) {
            for (int event = 0; event < 24; event++) {
                longest.addNote(measure, 0, 7, measure + event == 0 ? 2 : 0, 1, true);
            }
        }
        Check.equal("the longest held length", longest.event(0, 0, 0, 8), 16 * 24 * 96);
        Check.equal("the shift at its end", longest.event(15, 0, 23, 6), -1);
    }

    private static void lowest() {
        Music bars = Made.bars(1);
        bars.addNote(0, 0, 0, 2, 4, false);
        bars.addNote(0, 0, 62, 1, 4, false);
        Check.equal("the lowest sound", bars.event(0, 0, 0, 7), -1);
        Check.equal("the highest sound", bars.event(0, 0, 1, 7), 108);
    }

    private static void eventAt() {
        Music bars = Made.bars(1);
        bars.addRest(0, 0, 9);
        bars.addNote(0, 0, 3, 0, 4, false);
        bars.addRest(0, 0, 8);
        int[][] due = {{0, 0}, {5, 0}, {6, 1}, {21, 1}, {22, 2}, {25, 2}};
        for (int[] pair : due) {
            Check.equal("eventAt(0, 0, " + pair[0] + ")", bars.eventAt(0, 0, pair[0]), pair[1]);
        }
        Check.equal("eventAt() at the end", bars.eventAt(0, 0, 26), Music.NONE);
        Check.equal("eventAt() far behind", bars.eventAt(0, 0, Integer.MAX_VALUE), Music.NONE);
        Check.equal("eventAt() of no events", bars.eventAt(0, 1, 0), Music.NONE);
        Check.noPlace("eventAt() of voice 2", () -> bars.eventAt(0, 2, -1));
        Check.noPlace("eventAt() of measure 1", () -> bars.eventAt(1, 0, 0));
        Check.badValue("eventAt() at -1", () -> bars.eventAt(0, 0, -1));
    }

    private static void crossings() {
        Music bars = Made.bars(1);
        bars.addNote(0, 0, 28, 0, 2, false);
        bars.addRest(0, 0, 4);
        bars.addNote(0, 0, 28, 0, 1, false);
        Check.equal("crossings of one voice", bars.crossings(0), 0);
        bars.addNote(0, 1, 29, 0, 4, false);
        Check.equal("crossings from 0 to 16", bars.crossings(0), 16);
        bars.addNote(0, 1, 28, 0, 8, false);
        Check.equal("the same height does not cross", bars.crossings(0), 16);
        bars.addRest(0, 1, 8);
        bars.addNote(0, 1, 28, 1, 4, false);
        Check.equal("crossings to a rest", bars.crossings(0), 24);
        bars.addNote(0, 1, 62, 0, 0, false);
        Check.equal("crossings to the end of the measure", bars.crossings(0), 40);
        bars.set(0, 1, 12);
        Check.equal("crossings in a longer measure", bars.crossings(0), 80);
        bars.set(0, 1, 1);
        Check.equal("crossings in a shorter measure", bars.crossings(0), 16);
        bars.set(0, 1, 4);
        for (int count = 0; count < 4; count++) {
            bars.removeEvent(0, 1, 0);
        }
        Check.equal("crossings of five notes less four", bars.crossings(0), 32 + 16);
        Check.noPlace("crossings(1)", () -> bars.crossings(1));
        Check.noPlace("crossings(-1)", () -> bars.crossings(-1));
    }

    private static void whole() {
        Music bars = Made.bars(3);
        bars.addNote(0, 0, 28, 0, 0, true);
        bars.addNote(1, 0, 28, 0, 0, true);
        bars.addRest(1, 1, 1);
        bars.addNote(2, 1, 28, 0, 2, true);
        bars.addNote(2, 1, 28, 0, 4, false);
        bars.addRest(2, 1, 4);
        bars.addRest(2, 0, 8);
        bars.set(2, 5, 3);
        bars.type(65);
        long[] due = {3, 7, 4, 3, 1, 2, 9, 576, 1};
        for (int what = 0; what < due.length; what++) {
            Check.equal("whole(" + what + ")", bars.whole(what), due[what]);
        }
        bars.addRest(0, 1, 9);
        Check.equal("whole(5) with a short voice in the first measure", bars.whole(5), 3);
        bars.undo();
        bars.set(1, 1, 3);
        Check.equal("whole(7) with a shorter measure", bars.whole(7), 528);
        Check.equal("whole(5) with a shorter measure", bars.whole(5), 3);
        Check.badValue("whole(9)", () -> bars.whole(9));
        Check.badValue("whole(-1)", () -> bars.whole(-1));
    }
}

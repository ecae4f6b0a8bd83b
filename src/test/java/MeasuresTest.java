/** Promises 1 to 7: a new object, and what changes measures and events. */
final class MeasuresTest {
    public static void main(String[] args) {
        newObject();
        addMeasure();
        removeMeasure();
        removeOfAll();
        set();
        setRanges();
        addNote();
        addRest();
        fullVoice();
        removeEvent();
        removeOfFullVoice();
        Check.end();
    }

    private static void newObject() {
        Music bars = new Music();
        for (int what = 0; what <= 8; what++) {
            Check.equal("whole(" + what + ") of a new object", bars.whole(what), 0);
        }
        Check.badState("undo() of a new object", bars::undo);
        Check.equal("fault() of a new object", bars.fault(), 0);
        Check.equal("NONE", Music.NONE, -1000);
    }

    private static void addMeasure() {
        Music bars = new Music();
        Check.equal("the first addMeasure()", bars.addMeasure(), 0);
        int[] first = {0, 4, 4, 120, 0, 0, 0, 64, 0, 0, 0, 0};
        for (int what = 0; what < first.length; what++) {
            Check.equal("first measure, " + what, bars.measure(0, what), first[what]);
        }
        int[] values = {-3, 6, 8, 90, 1, 3, 2};
        for (int what = 0; what < values.length; what++) {
            bars.set(0, what, values[what]);
        }
        bars.addRest(0, 0, 4);
        Check.equal("the second addMeasure()", bars.addMeasure(), 1);
        int[] second = {-3, 6, 8, 90, 0, 0, 0, 48, 0, 0, 0, 0};
        for (int what = 0; what < second.length; what++) {
            Check.equal("second measure, " + what, bars.measure(1, what), second[what]);
        }
        for (int number = 2; number < 16; number++) {
            Check.equal("addMeasure()", bars.addMeasure(), number);
        }
        long digest = bars.digest();
        Check.badState("the 17th addMeasure()", bars::addMeasure);
        Check.equal("digest behind the 17th addMeasure()", bars.digest(), digest);
    }

    private static void removeMeasure() {
        Music bars = Made.bars(4);
        for (int measure = 0; measure < 4; measure++) {
            bars.set(measure, 3, 100 + measure);
            bars.addRest(measure, 1, measure);
        }
        Check.equal("removeMeasure(1)", bars.removeMeasure(1), 3);
        Check.equal("tempo of measure 0", bars.measure(0, 3), 100);
        Check.equal("tempo of measure 1", bars.measure(1, 3), 102);
        Check.equal("rest of measure 1", bars.event(1, 1, 0, 2), 2);
        Check.equal("tempo of measure 2", bars.measure(2, 3), 103);
        Check.noPlace("removeMeasure(3)", () -> bars.removeMeasure(3));
        Check.noPlace("removeMeasure(-1)", () -> bars.removeMeasure(-1));
        Check.equal("addMeasure()", bars.addMeasure(), 3);
        Check.equal("events of the measure in a removed one's place", bars.measure(3, 9), 0);
        Check.equal("its tempo", bars.measure(3, 3), 103);
        for (int left = 3; left >= 0; left--) {
            Check.equal("removeMeasure(0)", bars.removeMeasure(0), left);
        }
        Check.noPlace("removeMeasure(0) without measures", () -> bars.removeMeasure(0));
        bars.addMeasure();
        Check.equal("tempo of a first measure", bars.measure(0, 3), 120);
    }

    private static void removeOfAll() {
        for (int removed = 0; removed < 16; removed++) {
            Music bars = Made.bars(16);
            for (int measure = 0; measure < 16; measure++) {
                bars.set(measure, 3, 100 + measure);
            }
            Check.equal("removeMeasure() of 16", bars.removeMeasure(removed), 15);
            for (int measure = 0; measure < 15; measure++) {
                Check.equal("tempo of " + measure, bars.measure(measure, 3), 100 + measure + (measure < removed ? 0 : 1));
            }
        }
    }

    private static void set() {
        Music bars = Made.bars(2);
        int[] previous = {0, 4, 4, 120, 0, 0, 0};
        int[] values = {7, 12, 16, 300, 1, 4, 4};
        for (int what = 0; what < values.length; what++) {
            Check.equal("set(1, " + what + ")", bars.set(1, what, values[what]), previous[what]);
            Check.equal("set(1, " + what + ") again", bars.set(1, what, previous[what]), values[what]);
            bars.set(1, what, values[what]);
        }
        for (int what = 0; what < values.length; what++) {
            Check.equal("measure(1, " + what + ")", bars.measure(1, what), values[what]);
            Check.equal("measure(0, " + what + ")", bars.measure(0, what), previous[what]);
        }
        Check.noPlace("set(2, 99, 0)", () -> bars.set(2, 99, 0));
        Check.noPlace("set(-1, 0, 99)", () -> bars.set(-1, 0, 99));
        Check.badValue("set(0, -1, 0)", () -> bars.set(0, -1, 0));
        Check.badValue("set(0, 7, 0)", () -> bars.set(0, 7, 0));
    }

    private static void setRanges() {
        int[][] allowed = {{-7, 7}, {1, 12}, {2, 2, 4, 4, 8, 8, 16, 16}, {20, 300}, {0, 1}, {0, 0, 2, 4}, {0, 4}};
        for (int what = 0; what < allowed.length; what++) {
            for (int value = -20; value <= 310; value++) {
                Music bars = Made.bars(1);
                boolean fits = false;
                for (int pair = 0; pair < allowed[what].length; pair += 2) {
                    fits |= value >= allowed[what][pair] && value <= allowed[what][pair + 1];
                }
                int whatNow = what;
                int valueNow = value;
                if (fits) {
                    bars.set(0, what, value);
                    Check.equal("value " + what, bars.measure(0, what), value);
                } else {
                    Check.badValue("set(0, " + what + ", " + value + ")", () -> bars.set(0, whatNow, valueNow));
                }
            }
        }
    }

    private static void addNote() {
        Music bars = Made.bars(1);
        Check.equal("first addNote()", bars.addNote(0, 1, 62, 3, 9, true), 1);
        Check.equal("second addNote()", bars.addNote(0, 1, 0, 0, 0, false), 2);
        int[][] due = {{62, 3, 9, 1}, {0, 0, 0, 0}};
        for (int event = 0; event < 2; event++) {
            for (int what = 0; what < 4; what++) {
                Check.equal("event " + event + ", " + what, bars.event(0, 1, event, what), due[event][what]);
            }
        }
        Check.equal("events of voice 0", bars.measure(0, 8), 0);
        Check.noPlace("addNote() to measure 1", () -> bars.addNote(1, 0, 0, 0, 0, false));
        Check.noPlace("addNote() to measure -1", () -> bars.addNote(-1, 0, 0, 0, 0, false));
        Check.noPlace("addNote() to voice 2", () -> bars.addNote(0, 2, 99, 0, 0, false));
        Check.noPlace("addNote() to voice -1", () -> bars.addNote(0, -1, 0, 0, 0, false));
        Check.badValue("addNote() of pitch -1", () -> bars.addNote(0, 0, -1, 0, 0, false));
        Check.badValue("addNote() of pitch 63", () -> bars.addNote(0, 0, 63, 0, 0, false));
        Check.badValue("addNote() of sign -1", () -> bars.addNote(0, 0, 0, -1, 0, false));
        Check.badValue("addNote() of sign 4", () -> bars.addNote(0, 0, 0, 4, 0, false));
        Check.badValue("addNote() of duration -1", () -> bars.addNote(0, 0, 0, 0, -1, false));
        Check.badValue("addNote() of duration 10", () -> bars.addNote(0, 0, 0, 0, 10, false));
        Check.equal("events of voice 0 at the end", bars.measure(0, 8), 0);
    }

    private static void addRest() {
        Music bars = Made.bars(1);
        for (int duration = 0; duration <= 9; duration++) {
            Check.equal("addRest()", bars.addRest(0, 0, duration), duration + 1);
            Check.equal("duration", bars.event(0, 0, duration, 2), duration);
        }
        Check.noPlace("addRest() to measure 1", () -> bars.addRest(1, 0, 0));
        Check.noPlace("addRest() to voice 2", () -> bars.addRest(0, 2, 99));
        Check.badValue("addRest() of duration -1", () -> bars.addRest(0, 0, -1));
        Check.badValue("addRest() of duration 10", () -> bars.addRest(0, 0, 10));
    }

    private static void fullVoice() {
        Music bars = Made.bars(1);
        for (int count = 1; count <= 24; count++) {
            Check.equal("addRest()", bars.addRest(0, 0, 4), count);
        }
        long digest = bars.digest();
        Check.badState("addRest() to a full voice", () -> bars.addRest(0, 0, 4));
        Check.badState("addNote() to a full voice", () -> bars.addNote(0, 0, 4, 0, 4, false));
        Check.badValue("addRest() of 10 to a full voice", () -> bars.addRest(0, 0, 10));
        Check.badValue("addNote() of pitch 63 to a full voice", () -> bars.addNote(0, 0, 63, 0, 4, false));
        Check.equal("digest behind them", bars.digest(), digest);
        Check.equal("addNote() to the other voice", bars.addNote(0, 1, 4, 0, 4, false), 1);
    }

    private static void removeEvent() {
        Music bars = Made.bars(1);
        for (int duration = 0; duration < 5; duration++) {
            bars.addRest(0, 0, duration);
        }
        bars.addRest(0, 1, 9);
        Check.equal("removeEvent(0, 0, 4)", bars.removeEvent(0, 0, 4), 4);
        Check.equal("removeEvent(0, 0, 1)", bars.removeEvent(0, 0, 1), 3);
        Check.equal("removeEvent(0, 0, 0)", bars.removeEvent(0, 0, 0), 2);
        Check.equal("what is left at 0", bars.event(0, 0, 0, 2), 2);
        Check.equal("what is left at 1", bars.event(0, 0, 1, 2), 3);
        Check.equal("the other voice", bars.event(0, 1, 0, 2), 9);
        Check.noPlace("removeEvent(0, 0, 2)", () -> bars.removeEvent(0, 0, 2));
        Check.noPlace("removeEvent(0, 0, -1)", () -> bars.removeEvent(0, 0, -1));
        Check.noPlace("removeEvent(0, 2, 0)", () -> bars.removeEvent(0, 2, 0));
        Check.noPlace("removeEvent(1, 0, 0)", () -> bars.removeEvent(1, 0, 0));
    }

    private static void removeOfFullVoice() {
        for (int removed = 0; removed < 24; removed++) {
            Music bars = Made.bars(16);
            for (int event = 0; event < 24; event++) {
                bars.addNote(15, 0, 20, 0, 0, false);
                bars.addNote(15, 1, event, 0, 0, false);
            }
            Check.equal("removeEvent() of 24", bars.removeEvent(15, 1, removed), 23);
            for (int event = 0; event < 23; event++) {
                Check.equal("pitch of " + event, bars.event(15, 1, event, 0), event + (event < removed ? 0 : 1));
            }
            Check.equal("removeEvent() of the other voice", bars.removeEvent(15, 0, removed), 23);
            Check.equal("the first pitch left", bars.event(15, 1, 0, 0), removed == 0 ? 1 : 0);
        }
    }
}

import java.util.ArrayList;
import java.util.List;
import java.util.function.Supplier;

/** Promises 8 to 12 but for what notes sound, sentence by sentence: what stands just inside and outside of boundaries. */
final class ValuesEdgeTest {
    static final List<Edge> EDGES = new ArrayList<>();
    private static final int NONE = Music.NONE;

    static {
        ofMeasure();
        ofEvent();
        ofEventAt();
        ofCrossings();
        ofWhole();
    }

    private static void ofMeasure() {
        EDGES.add(new Edge(8, "Returns a value of a measure.", ValuesEdgeTest::valuesOfMeasures));
        EDGES.add(new Edge(8, "what: 0 to 6 as for set(), 7 ticks that it lasts, 8 and 9 events of the voices 0 and 1, "
                + "10 and 11 ticks of these events", ValuesEdgeTest::countsOfMeasures));
        EDGES.add(new Edge(8, "The measure lasts 64 * upper number / lower number ticks", ValuesEdgeTest::ticksOfMeasures));
        EDGES.add(new Edge(8, "its events may last longer or shorter.", ValuesEdgeTest::eventsLongerOrShorter));
        EDGES.add(new Edge(8, Edge.RETURNS_VALUE, ValuesEdgeTest::measureAnswersAgain));
        EDGES.add(new Edge(8, Edge.NO_MEASURE,
                () -> Check.refusesMeasures("measure()", (music, measure) -> music.measure(measure, 7))));
        EDGES.add(new Edge(8, "Throws IllegalArgumentException if what is out of range", ValuesEdgeTest::noValueOfMeasures));
        EDGES.add(new Edge(8, Edge.FIRST_LISTED, ValuesEdgeTest::measureFirstListed));
    }

    private static void ofEvent() {
        EDGES.add(new Edge(9, "Its duration is a number from 0 to 9: its half, rounded down, is 0 for a whole, 1 for a "
                + "half, 2 for a quarter, 3 for an eighth, 4 for a sixteenth; it is dotted if the number is odd.",
                ValuesEdgeTest::durationsInWords));
        EDGES.add(new Edge(9, "A whole lasts 64 ticks, each next one half as long; a dot makes it half as long again.",
                ValuesEdgeTest::ticksOfDurations));
        EDGES.add(new Edge(9, "The events of a voice follow one another from tick 0 of the measure.",
                ValuesEdgeTest::beginsOfEvents));
        EDGES.add(new Edge(9, "An event is a note or a rest.", ValuesEdgeTest::notesAndRests));
        EDGES.add(new Edge(9, "Returns a value of an event.", ValuesEdgeTest::valuesOfFullVoices));
        EDGES.add(new Edge(9, Edge.VOICE, ValuesEdgeTest::voicesOfEvents));
        EDGES.add(new Edge(9, "event: number of an event of the voice", ValuesEdgeTest::firstAndLastEvent));
        EDGES.add(new Edge(9, "what: 0 pitch, 1 sign, 2 duration, 3 1 if it is tied or 0 if not, 4 ticks, 5 tick at which "
                + "it begins, 6 shift, 7 what it sounds, 8 held length, 9 1 if it is tied and the tie is broken or 0 if not",
                ValuesEdgeTest::valuesOfEvents));
        EDGES.add(new Edge(9, "Returns that value; NONE for a rest, if what is not 2, 4 or 5.",
                ValuesEdgeTest::valuesOfRests));
        EDGES.add(new Edge(9, Edge.NO_EVENT, ValuesEdgeTest::noEvent));
        EDGES.add(new Edge(9, "Throws IllegalArgumentException if what is out of range", ValuesEdgeTest::noValueOfEvents));
        EDGES.add(new Edge(9, Edge.FIRST_LISTED, ValuesEdgeTest::eventFirstListed));
        EDGES.add(new Edge(9, Edge.NONE_LAST, ValuesEdgeTest::restsRefuseToo));
    }

    private static void ofEventAt() {
        EDGES.add(new Edge(10, "Returns the event of a voice that lasts at a tick.", ValuesEdgeTest::firstAndLastTicks));
        EDGES.add(new Edge(10, Edge.VOICE, ValuesEdgeTest::voicesOfTicks));
        EDGES.add(new Edge(10, "tick: 0 or more", ValuesEdgeTest::nearAndFarTicks));
        EDGES.add(new Edge(10, "Returns the number of the event; NONE if the events of the voice have ended.",
                ValuesEdgeTest::endedVoices));
        EDGES.add(new Edge(10, Edge.NO_VOICE, ValuesEdgeTest::noVoiceForTicks));
        EDGES.add(new Edge(10, "Throws IllegalArgumentException if tick is negative", ValuesEdgeTest::negativeTicks));
        EDGES.add(new Edge(10, Edge.FIRST_LISTED, ValuesEdgeTest::eventAtFirstListed));
        EDGES.add(new Edge(10, Edge.NONE_LAST, ValuesEdgeTest::negativeTicksOfEmptyVoices));
    }

    private static void ofCrossings() {
        EDGES.add(new Edge(11, "Counts the ticks of a measure, below those that it lasts", ValuesEdgeTest::crossingsInside));
        EDGES.add(new Edge(11, "at which both voices have notes", ValuesEdgeTest::crossingsOfNotes));
        EDGES.add(new Edge(11, "and voice 1 sounds higher than voice 0.", ValuesEdgeTest::crossingsHigher));
        EDGES.add(new Edge(11, Edge.RETURNS_NUMBER, ValuesEdgeTest::crossingsFromNoneToAll));
        EDGES.add(new Edge(11, Edge.NO_MEASURE, () -> Check.refusesMeasures("crossings()", Music::crossings)));
    }

    private static void ofWhole() {
        EDGES.add(new Edge(12, "Returns a value of the whole.", ValuesEdgeTest::emptyAndFull));
        EDGES.add(new Edge(12, "what: 0 measures, 1 events, 2 notes, 3 tied notes", ValuesEdgeTest::kindsOfEvents));
        EDGES.add(new Edge(12, "4 broken ties", ValuesEdgeTest::brokenTies));
        EDGES.add(new Edge(12, "5 voices with events that last shorter or longer than their measure",
                ValuesEdgeTest::unevenVoices));
        EDGES.add(new Edge(12, "6 places of the order", ValuesEdgeTest::placesOfTheOrder));
        EDGES.add(new Edge(12, "7 ticks of all measures of the order (a measure that is played twice counts twice)",
                ValuesEdgeTest::ticksOfTheOrder));
        EDGES.add(new Edge(12, "8 length of the text", ValuesEdgeTest::lengthOfTheText));
        EDGES.add(new Edge(12, Edge.RETURNS_VALUE, ValuesEdgeTest::wholeAnswersAgain));
        EDGES.add(new Edge(12, "Throws IllegalArgumentException if what is out of range",
                ValuesEdgeTest::noValueOfTheWhole));
    }

    public static void main(String[] args) {
        Check.run(EDGES);
    }

    // ---- promise 8: measure

    private static void valuesOfMeasures() {
        int[][] lowAndHigh = {{-7, 1, 2, 20, 0, 0, 0}, {7, 12, 16, 300, 1, 4, 4}};
        for (int[] values : lowAndHigh) {
            for (int measure : new int[] {0, 15}) {
                Music music = Made.bars(16);
                for (int what = 0; what <= 6; what++) {
                    music.set(measure, what, values[what]);
                }
                for (int what = 0; what <= 6; what++) {
                    Check.equal("measure(" + measure + ", " + what + ")", music.measure(measure, what), values[what]);
                    Check.equal("measure(7, " + what + ")", music.measure(7, what), new int[] {0, 4, 4, 120, 0, 0, 0}[what]);
                }
            }
        }
    }

    private static void countsOfMeasures() {
        Music music = Made.bars(2);
        values("of no events", music, 64, 0, 0, 0, 0);
        music.addRest(1, 1, 9);
        values("of one rest", music, 64, 0, 1, 0, 6);
        for (int event = 0; event < 24; event++) {
            music.addNote(1, 0, 30, 0, 1, true);
        }
        for (int event = 1; event < 24; event++) {
            music.addRest(1, 1, 9);
        }
        values("of full voices", music, 64, 24, 24, 24 * 96, 24 * 6);
        music.removeEvent(1, 0, 0);
        values("of a voice less full", music, 64, 23, 24, 23 * 96, 24 * 6);
        for (int left = 22; left >= 0; left--) {
            music.removeEvent(1, 0, left);
        }
        values("of an emptied voice", music, 64, 0, 24, 0, 24 * 6);
    }

    private static void values(String where, Music music, int... due) {
        for (int what = 7; what <= 11; what++) {
            Check.equal("measure(1, " + what + ") " + where, music.measure(1, what), due[what - 7]);
        }
    }

    private static void ticksOfMeasures() {
        int[] lowers = {2, 4, 8, 16};
        int[] ofOne = {32, 16, 8, 4};
        for (int index = 0; index < 4; index++) {
            for (int upper = 1; upper <= 12; upper++) {
                Music music = Made.bars(2);
                music.set(1, 1, upper);
                music.set(1, 2, lowers[index]);
                Check.equal("ticks of " + upper + " over " + lowers[index], music.measure(1, 7), upper * ofOne[index]);
                Check.equal("ticks of the measure before", music.measure(0, 7), 64);
            }
        }
    }

    private static void eventsLongerOrShorter() {
        int[][] durations = {{8}, {3, 8, 6}, {3, 8, 6, 8}, {3, 5}, {0}, {0, 8}, {1}};
        int[] due = {4, 60, 64, 72, 64, 68, 96};
        for (int index = 0; index < due.length; index++) {
            Music music = Made.bars(1);
            for (int duration : durations[index]) {
                music.addRest(0, 1, duration);
            }
            Check.equal("ticks of the measure", music.measure(0, 7), 64);
            Check.equal("ticks of its events", music.measure(0, 11), due[index]);
            Check.equal("events of the voice", music.measure(0, 9), durations[index].length);
        }
    }

    private static void measureAnswersAgain() {
        Music music = Made.rich();
        int[] due = {0, 4, 4, 77, 0, 2, 1, 64, 1, 1, 16, 96};
        for (int time = 0; time < 2; time++) {
            for (int what = 0; what <= 11; what++) {
                Check.equal("measure(1, " + what + ")", music.measure(1, what), due[what]);
            }
        }
        Check.savesNothing("measure()", Made::rich, asked -> asked.measure(1, 7));
    }

    private static void noValueOfMeasures() {
        for (int what : new int[] {-1, 12, Integer.MIN_VALUE, Integer.MAX_VALUE}) {
            Check.refusedValue("measure(0, " + what + ")", Made::young, music -> music.measure(0, what));
            Check.refusedValue("measure(2, " + what + ")", Made::rich, music -> music.measure(2, what));
        }
        Check.equal("measure(0, 0)", Made.young().measure(0, 0), 0);
        Check.equal("measure(2, 11)", Made.rich().measure(2, 11), 6);
    }

    private static void measureFirstListed() {
        Check.refusedPlace("measure(0, 12) without measures", Music::new, music -> music.measure(0, 12));
        Check.refusedPlace("measure(3, -1)", Made::rich, music -> music.measure(3, -1));
        Check.refusedPlace("measure(-1, 12)", Made::rich, music -> music.measure(-1, 12));
    }

    // ---- promise 9: event

    private static void durationsInWords() {
        String[] words = {"whole", "dotted whole", "half", "dotted half", "quarter", "dotted quarter", "eighth",
            "dotted eighth", "sixteenth", "dotted sixteenth"};
        for (int duration = 0; duration <= 9; duration++) {
            Music rest = Made.bars(2);
            rest.addRest(1, 0, duration);
            Check.equal("sentence", Check.sentence(rest, 1), "bar 2 voice 1 rest " + words[duration] + " end");
            Music note = Made.bars(2);
            note.addNote(1, 0, 34, 0, duration, false);
            Check.equal("sentence", Check.sentence(note, 1), "bar 2 voice 1 b 4 " + words[duration] + " end");
            Check.equal("event(1, 0, 0, 2)", note.event(1, 0, 0, 2), duration);
        }
        Check.refusedValue("a duration of 10", Made::rich, music -> music.addRest(0, 0, 10));
        Check.refusedValue("a duration of -1", Made::rich, music -> music.addRest(0, 0, -1));
    }

    private static void ticksOfDurations() {
        int[] ticks = {64, 96, 32, 48, 16, 24, 8, 12, 4, 6};
        for (int duration = 0; duration <= 9; duration++) {
            Music music = Made.bars(1);
            music.addRest(0, 0, duration);
            music.addNote(0, 1, 62, 3, duration, true);
            Check.equal("ticks of a rest of " + duration, music.event(0, 0, 0, 4), ticks[duration]);
            Check.equal("ticks of a note of " + duration, music.event(0, 1, 0, 4), ticks[duration]);
            Check.equal("held length of a note of " + duration, music.event(0, 1, 0, 8), ticks[duration]);
        }
    }

    private static void beginsOfEvents() {
        int[] ticks = {64, 96, 32, 48, 16, 24, 8, 12, 4, 6};
        Music music = Made.bars(2);
        Made.add(music, 0, 0, new int[] {3}, new int[] {30, 0, 1, 0});
        int begin = 0;
        for (int event = 0; event < 24; event++) {
            if (event % 3 == 0) {
                music.addRest(1, 0, event % 10);
            } else {
                music.addNote(1, 0, event, 0, event % 10, true);
            }
            Check.equal("begin of event " + event, music.event(1, 0, event, 5), begin);
            begin += ticks[event % 10];
        }
        Check.equal("begin of the first event", music.event(1, 0, 0, 5), 0);
        music.removeEvent(1, 0, 0);
        Check.equal("begin of the first one behind a removal", music.event(1, 0, 0, 5), 0);
        Check.equal("begin of the second one behind a removal", music.event(1, 0, 1, 5), 96);
    }

    private static void notesAndRests() {
        Music music = Made.bars(1);
        Made.add(music, 0, 0, new int[] {0, 0, 0, 0}, new int[] {0}, new int[] {62, 3, 9, 1}, new int[] {9});
        int[] pitches = {0, NONE, 62, NONE};
        for (int event = 0; event < 4; event++) {
            Check.equal("pitch of event " + event, music.event(0, 0, event, 0), pitches[event]);
        }
        Check.equal("whole(2)", music.whole(2), 2);
    }

    private static void valuesOfFullVoices() {
        Music music = Made.full();
        for (int measure : new int[] {0, 15}) {
            for (int event : new int[] {0, 1, 22, 23}) {
                Check.equal("tick at which it begins", music.event(measure, 0, event, 5), 32 * event);
                Check.equal("whether it is tied", music.event(measure, 0, event, 3), 1);
                Check.equal("whether one of voice 1 is tied", music.event(measure, 1, event, 3), 0);
                Check.equal("what it sounds", music.event(measure, 1, event, 7), 48);
            }
        }
    }

    private static void voicesOfEvents() {
        Music music = Made.rests(1, 0);
        music.addNote(0, 1, 44, 0, 4, false);
        Check.equal("event of voice 0", music.event(0, 0, 0, 0), NONE);
        Check.equal("event of voice 1", music.event(0, 1, 0, 0), 44);
        for (int voice : new int[] {-1, 2, Integer.MIN_VALUE, Integer.MAX_VALUE}) {
            Check.refusedPlace("event() of voice " + voice, Made::rich, asked -> asked.event(0, voice, 0, 2));
        }
    }

    private static void firstAndLastEvent() {
        Supplier<Music> maker = () -> Made.rests(24, 1);
        Check.equal("event(0, 0, 0, 5)", maker.get().event(0, 0, 0, 5), 0);
        Check.equal("event(0, 0, 23, 5)", maker.get().event(0, 0, 23, 5), 23 * 4);
        Check.equal("event(0, 1, 0, 5)", maker.get().event(0, 1, 0, 5), 0);
        Check.refusedPlace("event 24", maker, music -> music.event(0, 0, 24, 5));
        Check.refusedPlace("event -1", maker, music -> music.event(0, 0, -1, 5));
        Check.refusedPlace("event 1 of voice 1", maker, music -> music.event(0, 1, 1, 5));
    }

    private static void valuesOfEvents() {
        Music music = Made.bars(2);
        Made.add(music, 0, 0, new int[] {8}, new int[] {59, 1, 9, 1}, new int[] {59, 0, 3, 1}, new int[] {58, 0, 0, 0});
        int[][] due = {{59, 1, 9, 1, 6, 4, 1, 102, 54, 0}, {59, 0, 3, 1, 48, 10, 1, 102, 48, 1},
            {58, 0, 0, 0, 64, 58, 0, 100, 64, 0}};
        for (int event = 1; event <= 3; event++) {
            for (int what = 0; what <= 9; what++) {
                Check.equal("event(0, 0, " + event + ", " + what + ")", music.event(0, 0, event, what),
                        due[event - 1][what]);
            }
        }
    }

    private static void valuesOfRests() {
        for (int duration : new int[] {0, 9}) {
            Music music = Made.bars(1);
            Made.add(music, 0, 1, new int[] {30, 1, 4, 1}, new int[] {duration}, new int[] {30, 0, 4, 1});
            int[] due = {NONE, NONE, duration, NONE, duration == 0 ? 64 : 6, 16, NONE, NONE, NONE, NONE};
            for (int what = 0; what <= 9; what++) {
                Check.equal("value " + what + " of a rest", music.event(0, 1, 1, what), due[what]);
                Check.isTrue("value " + what + " of a note is not NONE", music.event(0, 1, 0, what) != NONE);
            }
        }
    }

    private static void noEvent() {
        for (int voice = 0; voice <= 1; voice++) {
            int asked = voice;
            for (int measure : new int[] {-1, 3, 16, Integer.MIN_VALUE, Integer.MAX_VALUE}) {
                Check.refusedPlace("event() of measure " + measure, Made::rich, music -> music.event(measure, asked, 0, 2));
            }
            for (int event : new int[] {-1, 3, 24, Integer.MIN_VALUE, Integer.MAX_VALUE}) {
                Check.refusedPlace("event() " + event, Made::rich, music -> music.event(0, asked, event, 2));
            }
        }
        Check.refusedPlace("event() of a new object", Music::new, music -> music.event(0, 0, 0, 2));
        Check.refusedPlace("event() of an empty voice", Made::young, music -> music.event(0, 0, 0, 2));
        Check.refusedPlace("event() of the empty one of two voices", Made::rich, music -> music.event(2, 0, 0, 2));
        Check.equal("event() of the last one", Made.rich().event(0, 0, 2, 2), 6);
        Check.equal("event() of the last measure", Made.rich().event(2, 1, 0, 2), 9);
        Music emptied = Made.rests(1, 1);
        emptied.removeEvent(0, 1, 0);
        Check.noPlace("event() of an emptied voice", () -> emptied.event(0, 1, 0, 2));
    }

    private static void noValueOfEvents() {
        for (int what : new int[] {-1, 10, Integer.MIN_VALUE, Integer.MAX_VALUE}) {
            Check.refusedValue("event(0, 0, 0, " + what + ")", Made::rich, music -> music.event(0, 0, 0, what));
        }
        Check.equal("event(0, 0, 0, 0)", Made.rich().event(0, 0, 0, 0), 31);
        Check.equal("event(0, 0, 0, 9)", Made.rich().event(0, 0, 0, 9), 0);
    }

    private static void eventFirstListed() {
        Check.refusedPlace("no measure and what 10", Made::rich, music -> music.event(3, 0, 0, 10));
        Check.refusedPlace("no voice and what -1", Made::rich, music -> music.event(0, 2, 0, -1));
        Check.refusedPlace("no event and what 10", Made::rich, music -> music.event(0, 0, 3, 10));
    }

    private static void restsRefuseToo() {
        Check.refusedValue("value 10 of a rest", Made::rich, music -> music.event(0, 0, 2, 10));
        Check.refusedValue("value -1 of a rest", Made::rich, music -> music.event(0, 0, 2, -1));
        Check.equal("value 9 of a rest", Made.rich().event(0, 0, 2, 9), NONE);
        Check.equal("value 0 of a rest", Made.rich().event(0, 0, 2, 0), NONE);
    }

    // ---- promise 10: eventAt

    private static void firstAndLastTicks() {
        int[] ticks = {64, 96, 32, 48, 16, 24, 8, 12, 4, 6};
        for (int voice = 0; voice <= 1; voice++) {
            Music music = Made.bars(2);
            int begin = 0;
            for (int event = 0; event < 24; event++) {
                if (event % 2 == 0) {
                    music.addRest(1, voice, event % 10);
                } else {
                    music.addNote(1, voice, 30, 0, event % 10, true);
                }
                int end = begin + ticks[event % 10];
                Check.equal("the first tick of event " + event, music.eventAt(1, voice, begin), event);
                Check.equal("the last tick of event " + event, music.eventAt(1, voice, end - 1), event);
                Check.equal("the tick behind event " + event, music.eventAt(1, voice, end), NONE);
                begin = end;
            }
        }
    }

    private static void voicesOfTicks() {
        Music music = Made.rests(2, 1);
        Check.equal("eventAt(0, 0, 4)", music.eventAt(0, 0, 4), 1);
        Check.equal("eventAt(0, 1, 4)", music.eventAt(0, 1, 4), NONE);
        Check.equal("eventAt(0, 1, 3)", music.eventAt(0, 1, 3), 0);
        for (int voice : new int[] {-1, 2, Integer.MIN_VALUE, Integer.MAX_VALUE}) {
            Check.refusedPlace("eventAt() of voice " + voice, Made::rich, asked -> asked.eventAt(0, voice, 0));
        }
    }

    private static void nearAndFarTicks() {
        Check.equal("tick 0", Made.rich().eventAt(0, 0, 0), 0);
        Check.equal("tick 64, behind the measure", Made.rich().eventAt(1, 1, 64), 0);
        Check.equal("the highest tick", Made.rich().eventAt(0, 0, Integer.MAX_VALUE), NONE);
        Check.refusedValue("tick -1", Made::rich, music -> music.eventAt(0, 0, -1));
    }

    private static void endedVoices() {
        Check.equal("tick 0 of no events", Made.young().eventAt(0, 0, 0), NONE);
        Check.equal("tick 0 of no events of voice 1", Made.young().eventAt(0, 1, 0), NONE);
        Check.equal("the last tick of the rest", Made.rich().eventAt(2, 1, 5), 0);
        Check.equal("the tick behind the rest, inside the measure", Made.rich().eventAt(2, 1, 6), NONE);
        Check.equal("the last tick of 24", Made.rests(24, 0).eventAt(0, 0, 95), 23);
        Check.equal("the tick behind 24", Made.rests(24, 0).eventAt(0, 0, 96), NONE);
    }

    private static void noVoiceForTicks() {
        Check.refusesMeasures("eventAt() of voice 0", (music, measure) -> music.eventAt(measure, 0, 0));
        Check.refusesMeasures("eventAt() of voice 1", (music, measure) -> music.eventAt(measure, 1, 0));
        Check.refusedPlace("eventAt() of voice -1", Made::young, music -> music.eventAt(0, -1, 0));
        Check.refusedPlace("eventAt() of voice 2", Made::young, music -> music.eventAt(0, 2, 0));
    }

    private static void negativeTicks() {
        for (int tick : new int[] {-1, -64, Integer.MIN_VALUE}) {
            Check.refusedValue("eventAt(0, 0, " + tick + ")", Made::rich, music -> music.eventAt(0, 0, tick));
        }
        Check.equal("eventAt(0, 0, 0)", Made.rich().eventAt(0, 0, 0), 0);
    }

    private static void eventAtFirstListed() {
        Check.refusedPlace("no measure and tick -1", Made::rich, music -> music.eventAt(3, 0, -1));
        Check.refusedPlace("no voice and tick -1", Made::rich, music -> music.eventAt(0, 2, -1));
        Check.refusedPlace("no voice and tick -1", Made::rich, music -> music.eventAt(0, -1, -1));
    }

    private static void negativeTicksOfEmptyVoices() {
        Check.refusedValue("tick -1 of no events", Made::young, music -> music.eventAt(0, 0, -1));
        Check.refusedValue("the lowest tick of no events", Made::young, music -> music.eventAt(0, 1, Integer.MIN_VALUE));
    }

    // ---- promise 11: crossings

    /** Two whole notes, voice 1 above voice 0, in a measure of so many ticks. */
    private static Music crossed(int upper, int lower, int duration0, int duration1) {
        Music music = Made.bars(1);
        music.set(0, 1, upper);
        music.set(0, 2, lower);
        Made.add(music, 0, 0, new int[] {28, 0, duration0, 0});
        Made.add(music, 0, 1, new int[] {29, 0, duration1, 0});
        return music;
    }

    private static void crossingsInside() {
        Check.equal("notes as long as the measure", crossed(4, 4, 0, 0).crossings(0), 64);
        Check.equal("notes longer than the measure", crossed(4, 4, 1, 1).crossings(0), 64);
        Check.equal("notes a sixteenth longer", crossed(11, 16, 3, 3).crossings(0), 44);
        Check.equal("notes shorter than the measure", crossed(5, 4, 0, 0).crossings(0), 64);
        Check.equal("notes in the shortest measure", crossed(1, 16, 1, 1).crossings(0), 4);
        Check.equal("notes in the longest measure", crossed(12, 2, 1, 1).crossings(0), 96);
        Music behind = Made.bars(1);
        Made.add(behind, 0, 0, new int[] {0}, new int[] {28, 0, 0, 0});
        Made.add(behind, 0, 1, new int[] {0}, new int[] {29, 0, 0, 0});
        Check.equal("notes that begin at the end of the measure", behind.crossings(0), 0);
        Music over = Made.bars(1);
        Made.add(over, 0, 0, new int[] {3}, new int[] {6}, new int[] {8}, new int[] {28, 0, 0, 0});
        Made.add(over, 0, 1, new int[] {29, 0, 1, 0});
        Check.equal("a note that begins 4 ticks ahead of the end", over.crossings(0), 4);
        over.set(0, 2, 2);
        Check.equal("the same in a measure of 128 ticks", over.crossings(0), 36);
    }

    private static void crossingsOfNotes() {
        Check.equal("voice 0 ends first", crossed(4, 4, 4, 0).crossings(0), 16);
        Check.equal("voice 1 ends first", crossed(4, 4, 0, 5).crossings(0), 24);
        Music rest0 = Made.bars(1);
        Made.add(rest0, 0, 0, new int[] {8}, new int[] {28, 0, 8, 0}, new int[] {8});
        Made.add(rest0, 0, 1, new int[] {29, 0, 0, 0});
        Check.equal("voice 0 rests, sounds and rests", rest0.crossings(0), 4);
        Music rest1 = Made.bars(1);
        Made.add(rest1, 0, 0, new int[] {28, 0, 0, 0});
        Made.add(rest1, 0, 1, new int[] {8}, new int[] {29, 0, 9, 0}, new int[] {8}, new int[] {29, 0, 8, 0});
        Check.equal("voice 1 rests, sounds, rests and sounds", rest1.crossings(0), 10);
        Music rests = Made.bars(1);
        Made.add(rests, 0, 0, new int[] {28, 0, 4, 0}, new int[] {4});
        Made.add(rests, 0, 1, new int[] {4}, new int[] {29, 0, 4, 0});
        Check.equal("notes next to each other", rests.crossings(0), 0);
        Check.equal("rests alone", Made.rests(24, 24).crossings(0), 0);
        Check.equal("no voice", Made.young().crossings(0), 0);
        Music one = Made.bars(1);
        Made.add(one, 0, 1, new int[] {62, 0, 0, 0});
        Check.equal("voice 1 alone", one.crossings(0), 0);
    }

    private static void crossingsHigher() {
        int[][] signsAndCrossings = {{28, 0, 28, 0, 0}, {28, 0, 28, 1, 64}, {28, 2, 28, 0, 64}, {28, 1, 28, 0, 0},
            {28, 1, 29, 0, 64}, {28, 1, 29, 2, 0}, {30, 0, 31, 0, 64}, {30, 0, 31, 2, 0}, {30, 1, 31, 0, 0},
            {30, 1, 31, 2, 0}, {34, 0, 35, 0, 64}, {34, 1, 35, 0, 0}, {62, 1, 0, 2, 0}, {0, 2, 62, 1, 64}};
        for (int[] row : signsAndCrossings) {
            Music music = Made.bars(1);
            Made.add(music, 0, 0, new int[] {row[0], row[1], 0, 0});
            Made.add(music, 0, 1, new int[] {row[2], row[3], 0, 0});
            Check.equal("pitch " + row[2] + " sign " + row[3] + " over " + row[0] + " sign " + row[1], music.crossings(0),
                    row[4]);
        }
        Music keyed = Made.bars(2);
        Made.add(keyed, 1, 0, new int[] {30, 0, 2, 0}, new int[] {30, 3, 2, 0});
        Made.add(keyed, 1, 1, new int[] {31, 2, 0, 0});
        Check.equal("f flat over e", keyed.crossings(1), 0);
        keyed.set(1, 0, -2);
        Check.equal("f flat over e flat by the key", keyed.crossings(1), 32);
    }

    private static void crossingsFromNoneToAll() {
        Music music = Made.bars(16);
        music.set(15, 1, 12);
        music.set(15, 2, 2);
        for (int event = 0; event < 24; event++) {
            music.addNote(15, 0, 0, 2, 5, true);
            music.addNote(15, 1, event % 2 == 0 ? 62 : 0, event % 2 == 0 ? 1 : 2, 5, false);
        }
        Check.equal("every other one of the 16 notes inside", music.crossings(15), 8 * 24);
        Check.equal("a measure without events", music.crossings(14), 0);
    }

    // ---- promise 12: whole

    private static void emptyAndFull() {
        due("of nothing", new Music(), 0, 0, 0, 0, 0, 0, 0, 0, 0);
        due("of one measure", Made.young(), 1, 0, 0, 0, 0, 0, 1, 64, 0);
        due("of full measures", Made.full(), 16, 768, 768, 384, 1, 32, 16, 16 * 64, 596);
    }

    private static void due(String where, Music music, int... due) {
        for (int what = 0; what <= 8; what++) {
            Check.equal("whole(" + what + ") " + where, music.whole(what), due[what]);
        }
    }

    private static void kindsOfEvents() {
        Music music = Made.bars(16);
        Made.add(music, 15, 1, new int[] {4});
        due("of a rest", music, 16, 1, 0, 0, 0, 1, 16, 1024, 0);
        Made.add(music, 15, 1, new int[] {0, 0, 4, 0});
        due("and a note", music, 16, 2, 1, 0, 0, 1, 16, 1024, 0);
        Made.add(music, 15, 1, new int[] {0, 0, 4, 1});
        due("and a tied note", music, 16, 3, 2, 1, 1, 1, 16, 1024, 0);
        Made.add(music, 0, 0, new int[] {62, 3, 9, 1});
        due("and one in the first measure", music, 16, 4, 3, 2, 2, 2, 16, 1024, 0);
        music.removeEvent(0, 0, 0);
        music.removeEvent(15, 1, 0);
        due("without the rest", music, 16, 2, 2, 1, 1, 1, 16, 1024, 0);
    }

    private static void brokenTies() {
        int[][][] voices = {{{30, 0, 4, 0}}, {{30, 0, 4, 1}}, {{30, 0, 4, 1}, {30, 2, 4, 0}}, {{30, 0, 4, 1}, {31, 0, 4, 1}},
            {{30, 0, 4, 1}, {4}}, {{30, 0, 4, 1}, {30, 0, 4, 1}}, {{30, 0, 4, 1}, {37, 0, 4, 0}}};
        int[] due = {0, 1, 0, 2, 1, 1, 1};
        for (int index = 0; index < due.length; index++) {
            Music inMeasure = Made.bars(1);
            Made.add(inMeasure, 0, 1, voices[index]);
            Check.equal("broken ties in a measure, row " + index, inMeasure.whole(4), due[index]);
            Music overBars = Made.bars(3);
            for (int event = 0; event < voices[index].length; event++) {
                Made.add(overBars, 1 + event, 0, voices[index][event]);
            }
            Check.equal("broken ties over bars, row " + index, overBars.whole(4), due[index]);
        }
    }

    private static void unevenVoices() {
        int[][] durations = {{0}, {2, 2}, {3, 5}, {3, 6, 8}, {3, 6, 9}, {0, 8}, {1}, {8}};
        int[] due = {0, 0, 1, 1, 1, 1, 1, 1};
        for (int index = 0; index < due.length; index++) {
            for (int voice = 0; voice <= 1; voice++) {
                Music music = Made.bars(2);
                for (int duration : durations[index]) {
                    music.addRest(1, voice, duration);
                }
                Check.equal("uneven voices, row " + index, music.whole(5), due[index]);
                Made.add(music, 1, 1 - voice, new int[] {30, 0, 8, 0});
                Check.equal("and a short voice beside it", music.whole(5), due[index] + 1);
            }
        }
        Music music = Made.bars(16);
        Check.equal("voices without events", music.whole(5), 0);
        Made.add(music, 15, 0, new int[] {0});
        Check.equal("a voice as long as its measure", music.whole(5), 0);
        music.set(15, 1, 3);
        Check.equal("a voice longer than its measure", music.whole(5), 1);
        music.set(15, 1, 5);
        Check.equal("a voice shorter than its measure", music.whole(5), 1);
        music.set(15, 1, 8);
        music.set(15, 2, 8);
        Check.equal("a voice as long as 8 over 8", music.whole(5), 0);
    }

    private static void placesOfTheOrder() {
        Music music = Made.bars(16);
        Check.equal("places without repeats", music.whole(6), 16);
        for (int measure = 0; measure < 16; measure++) {
            music.set(measure, 5, 4);
        }
        Check.equal("the most places there can be", music.whole(6), 64);
        for (int measure = 0; measure < 16; measure++) {
            music.set(measure, 6, 2);
        }
        Check.equal("places if all are left out", music.whole(6), 0);
        music.set(0, 6, 1);
        Check.equal("places if the first alone is of ending 1", music.whole(6), 2);
    }

    private static void ticksOfTheOrder() {
        Music music = Made.bars(1);
        music.set(0, 1, 12);
        music.set(0, 2, 2);
        for (int measure = 1; measure < 16; measure++) {
            music.addMeasure();
        }
        Check.equal("ticks without repeats", music.whole(7), 16 * 384);
        for (int measure = 0; measure < 16; measure++) {
            music.set(measure, 5, 4);
        }
        Check.equal("the most ticks there can be", music.whole(7), 64 * 384);
        music.set(15, 6, 2);
        Check.equal("ticks without the last measure", music.whole(7), 60 * 384);
        Music twice = Made.bars(2);
        twice.set(0, 1, 1);
        twice.set(0, 2, 16);
        twice.set(0, 5, 2);
        Check.equal("ticks of a measure that is played twice", twice.whole(7), 2 * 4 + 64);
        twice.addRest(1, 0, 1);
        Check.equal("events that last longer do not count", twice.whole(7), 2 * 4 + 64);
    }

    private static void lengthOfTheText() {
        Check.equal("whole(8) of no text", new Music().whole(8), 0);
        Check.equal("whole(8) of one byte", Made.text("x").whole(8), 1);
        Check.equal("whole(8) of a full text", Made.longText(600).whole(8), 600);
        Music cut = Made.longText(600);
        cut.cut(600);
        Check.equal("whole(8) of a text that is cut", cut.whole(8), 0);
    }

    private static void wholeAnswersAgain() {
        for (int time = 0; time < 2; time++) {
            Music music = Made.rich();
            due("of rich music", music, 3, 7, 5, 4, 2, 4, 4, 256, 86);
            due("of rich music again", music, 3, 7, 5, 4, 2, 4, 4, 256, 86);
        }
    }

    private static void noValueOfTheWhole() {
        for (int what : new int[] {-1, 9, Integer.MIN_VALUE, Integer.MAX_VALUE}) {
            Check.refusedValue("whole(" + what + ")", Made::rich, music -> music.whole(what));
            Check.refusedValue("whole(" + what + ")", Music::new, music -> music.whole(what));
        }
        Check.equal("whole(0)", Made.rich().whole(0), 3);
        Check.equal("whole(8)", Made.rich().whole(8), Made.RICH_TEXT.length());
    }
}

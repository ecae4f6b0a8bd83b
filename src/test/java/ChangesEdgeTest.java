import java.util.ArrayList;
import java.util.List;
import java.util.function.Consumer;
import java.util.function.Supplier;

/** Promises 4 to 7, sentence by sentence: what stands just inside and just outside of the boundaries that each one names. */
final class ChangesEdgeTest {
    static final List<Edge> EDGES = new ArrayList<>();

    static {
        ofSet();
        ofAddNote();
        ofAddRest();
        ofRemoveEvent();
    }

    private static void ofSet() {
        EDGES.add(new Edge(4, "A measure has a key (-7 to 7; -k means k flats, k sharps)", ChangesEdgeTest::keys));
        EDGES.add(new Edge(4, "a time with an upper number (1 to 12)", ChangesEdgeTest::upperNumbers));
        EDGES.add(new Edge(4, "and a lower number (2, 4, 8 or 16)", ChangesEdgeTest::lowerNumbers));
        EDGES.add(new Edge(4, "a tempo (20 to 300)", ChangesEdgeTest::tempos));
        EDGES.add(new Edge(4, "may open a repeat", ChangesEdgeTest::openings));
        EDGES.add(new Edge(4, "may close one with a number of times (2 to 4; 0 if not)", ChangesEdgeTest::times));
        EDGES.add(new Edge(4, "may be of an ending (1 to 4; 0 if not)", ChangesEdgeTest::endings));
        EDGES.add(new Edge(4, "Sets a value of a measure.", ChangesEdgeTest::setsOneValue));
        EDGES.add(new Edge(4, "what: 0 key, 1 upper number, 2 lower number, 3 tempo, 4 1 if it opens a repeat or 0 if not, "
                + "5 times with which it closes one (0, 2 to 4), 6 ending (0 to 4)", ChangesEdgeTest::whatOfSet));
        EDGES.add(new Edge(4, "value: the new value, in its range", ChangesEdgeTest::farValues));
        EDGES.add(new Edge(4, "Returns the previous value.", ChangesEdgeTest::setReturns));
        EDGES.add(new Edge(4, Edge.NO_MEASURE, () -> Check.refusesMeasures("set()",
                (music, measure) -> music.set(measure, 0, 1))));
        EDGES.add(new Edge(4, "Throws IllegalArgumentException if what or value is out of range",
                ChangesEdgeTest::setOutOfRange));
        EDGES.add(new Edge(4, Edge.FIRST_LISTED, ChangesEdgeTest::setFirstListed));
        EDGES.add(new Edge(4, Edge.UNDOABLE, ChangesEdgeTest::undoneSet));
    }

    private static void ofAddNote() {
        EDGES.add(new Edge(5, "has two voices, 0 and 1, each with at most 24 events in an order.",
                ChangesEdgeTest::fullOfNotes));
        EDGES.add(new Edge(5, "Adds a note behind the events of a voice.", ChangesEdgeTest::notesInOrder));
        EDGES.add(new Edge(5, Edge.VOICE, ChangesEdgeTest::voicesOfNotes));
        EDGES.add(new Edge(5, "pitch: 0 to 62", ChangesEdgeTest::pitches));
        EDGES.add(new Edge(5, "sign: 0 to 3", ChangesEdgeTest::signs));
        EDGES.add(new Edge(5, "duration: 0 to 9", ChangesEdgeTest::durationsOfNotes));
        EDGES.add(new Edge(5, "tied: whether it is tied", ChangesEdgeTest::tiedOrNot));
        EDGES.add(new Edge(5, "A note has a pitch, 7 * octave + step, with an octave from 0 to 8 and a step from 0 to 6 "
                + "(c, d, e, f, g, a, b)", ChangesEdgeTest::octavesAndSteps));
        EDGES.add(new Edge(5, "a sign: 0 none, 1 sharp, 2 flat, 3 natural; and is tied or not.",
                ChangesEdgeTest::signsInWords));
        EDGES.add(new Edge(5, "Returns the number of events of the voice.", ChangesEdgeTest::addNoteReturns));
        EDGES.add(new Edge(5, Edge.NO_VOICE, ChangesEdgeTest::noVoiceForNotes));
        EDGES.add(new Edge(5, "Throws IllegalArgumentException if pitch, sign or duration is out of range",
                ChangesEdgeTest::noteOutOfRange));
        EDGES.add(new Edge(5, "Throws IllegalStateException if the voice has 24 events", ChangesEdgeTest::noteToFullVoice));
        EDGES.add(new Edge(5, Edge.FIRST_LISTED, ChangesEdgeTest::addNoteFirstListed));
        EDGES.add(new Edge(5, Edge.UNDOABLE, ChangesEdgeTest::undoneAddNote));
    }

    private static void ofAddRest() {
        EDGES.add(new Edge(6, "each with at most 24 events in an order.", ChangesEdgeTest::fullOfRests));
        EDGES.add(new Edge(6, "Adds a rest behind the events of a voice.", ChangesEdgeTest::restsInOrder));
        EDGES.add(new Edge(6, Edge.VOICE, ChangesEdgeTest::voicesOfRests));
        EDGES.add(new Edge(6, "duration: 0 to 9", ChangesEdgeTest::durationsOfRests));
        EDGES.add(new Edge(6, "Returns the number of events of the voice.", ChangesEdgeTest::addRestReturns));
        EDGES.add(new Edge(6, Edge.NO_VOICE, ChangesEdgeTest::noVoiceForRests));
        EDGES.add(new Edge(6, "Throws IllegalArgumentException if duration is out of range",
                ChangesEdgeTest::restOutOfRange));
        EDGES.add(new Edge(6, "Throws IllegalStateException if the voice has 24 events", ChangesEdgeTest::restToFullVoice));
        EDGES.add(new Edge(6, Edge.FIRST_LISTED, ChangesEdgeTest::addRestFirstListed));
        EDGES.add(new Edge(6, Edge.UNDOABLE, ChangesEdgeTest::undoneAddRest));
    }

    private static void ofRemoveEvent() {
        EDGES.add(new Edge(7, "Removes an event.", ChangesEdgeTest::removedEvent));
        EDGES.add(new Edge(7, Edge.VOICE, ChangesEdgeTest::voicesOfRemovals));
        EDGES.add(new Edge(7, "event: number of an event of the voice, from 0", ChangesEdgeTest::firstAndLastEvent));
        EDGES.add(new Edge(7, "Returns the number of events that are left in the voice.",
                ChangesEdgeTest::removeEventReturns));
        EDGES.add(new Edge(7, Edge.NO_EVENT, ChangesEdgeTest::removeNoEvent));
        EDGES.add(new Edge(7, Edge.UNDOABLE, ChangesEdgeTest::undoneRemoveEvent));
    }

    public static void main(String[] args) {
        Check.run(EDGES);
    }

    // ---- promise 4: set

    private static void keys() {
        range(0, new int[] {-7, -6, -1, 0, 1, 6, 7}, new int[] {-8, 8});
        for (int key = 1; key <= 7; key++) {
            Music music = Made.young();
            music.set(0, 0, -key);
            Check.equal("sentence", Check.sentence(music, 0), "bar 1 key " + key + " flat time 4 4 end");
            music.set(0, 0, key);
            Check.equal("sentence", Check.sentence(music, 0), "bar 1 key " + key + " sharp time 4 4 end");
        }
    }

    private static void upperNumbers() {
        range(1, new int[] {1, 2, 3, 4, 5, 6, 7, 8, 9, 10, 11, 12}, new int[] {0, 13, -1, -4});
    }

    private static void lowerNumbers() {
        range(2, new int[] {2, 4, 8, 16},
                new int[] {0, 1, 3, 5, 6, 7, 9, 10, 11, 12, 13, 14, 15, 17, 18, 32, 64, -2, -4, -8, -16});
    }

    private static void tempos() {
        range(3, new int[] {20, 21, 119, 120, 121, 255, 256, 299, 300}, new int[] {19, 301, 0, -20, -120});
    }

    private static void openings() {
        range(4, new int[] {1, 0}, new int[] {-1, 2});
    }

    private static void times() {
        range(5, new int[] {2, 3, 4, 0}, new int[] {1, 5, -1, -2});
    }

    private static void endings() {
        range(6, new int[] {1, 2, 3, 4, 0}, new int[] {-1, 5});
    }

    /** Each value inside is taken by a new measure and by one that has values; each outside is refused by both. */
    private static void range(int what, int[] inside, int[] outside) {
        for (Supplier<Music> maker : List.<Supplier<Music>>of(Made::young, Made::rich, Made::wide)) {
            for (int value : inside) {
                Music music = maker.get();
                music.set(0, what, value);
                Check.equal("measure(0, " + what + ")", music.measure(0, what), value);
            }
            for (int value : outside) {
                Check.refusedValue("set(0, " + what + ", " + value + ")", maker, music -> music.set(0, what, value));
            }
        }
    }

    private static void setsOneValue() {
        int[] values = {-2, 7, 16, 33, 1, 4, 4};
        for (int measure : new int[] {0, 1, 14, 15}) {
            for (int what = 0; what < 7; what++) {
                Music music = Made.wide();
                music.set(measure, what, values[what]);
                for (int near = Math.max(measure - 1, 0); near <= Math.min(measure + 1, 15); near++) {
                    for (int other = 0; other < 7; other++) {
                        int kept = other == 3 ? 100 + near : new int[] {0, 4, 4, 0, 0, 0, 0}[other];
                        Check.equal("measure(" + near + ", " + other + ") behind set(" + measure + ", " + what + ")",
                                music.measure(near, other), near == measure && other == what ? values[what] : kept);
                    }
                    Check.equal("events of " + near, music.measure(near, 8 + near % 2), 1);
                }
            }
        }
    }

    private static void whatOfSet() {
        int[] values = {1, 3, 8, 60, 1, 2, 1};
        for (int what = 0; what <= 6; what++) {
            Music music = Made.young();
            music.set(0, what, values[what]);
            Check.equal("measure(0, " + what + ")", music.measure(0, what), values[what]);
        }
        for (int what : new int[] {-1, 7, 8, Integer.MIN_VALUE, Integer.MAX_VALUE}) {
            for (int value = 0; value <= 4; value += 2) {
                int asked = value;
                Check.refusedValue("set(0, " + what + ", " + value + ")", Made::rich, music -> music.set(0, what, asked));
            }
        }
    }

    private static void farValues() {
        for (int what = 0; what <= 6; what++) {
            int asked = what;
            for (int value : new int[] {Integer.MIN_VALUE, Integer.MAX_VALUE, 1000, -1000, 512 + 4, 65536 + 4}) {
                Check.refusedValue("set(0, " + what + ", " + value + ")", Made::young, music -> music.set(0, asked, value));
            }
        }
    }

    private static void setReturns() {
        int[][] steps = {{0, -7, 7, 7, 0}, {4, 1, 12, 12, 4}, {4, 2, 16, 16, 4}, {120, 20, 300, 300, 120}, {0, 1, 1, 0, 0},
            {0, 4, 2, 2, 0}, {0, 1, 4, 4, 0}};
        for (int what = 0; what <= 6; what++) {
            Music music = Made.bars(2);
            for (int step = 1; step < 5; step++) {
                Check.equal("set(1, " + what + ", " + steps[what][step] + ")", music.set(1, what, steps[what][step]),
                        steps[what][step - 1]);
            }
        }
    }

    private static void setOutOfRange() {
        int[] inside = {7, 12, 16, 300, 1, 4, 4};
        int[] outside = {8, 13, 17, 301, 2, 5, 5};
        for (int what = 0; what <= 6; what++) {
            int asked = what;
            Check.equal("the value inside", set(Made.rich(), 2, what, inside[what]), inside[what]);
            Check.refusedValue("set(2, " + what + ", " + outside[what] + ")", Made::rich,
                    music -> music.set(2, asked, outside[asked]));
        }
        Check.refusedValue("set(2, -1, 0)", Made::rich, music -> music.set(2, -1, 0));
        Check.refusedValue("set(2, 7, 0)", Made::rich, music -> music.set(2, 7, 0));
    }

    private static int set(Music music, int measure, int what, int value) {
        music.set(measure, what, value);
        return music.measure(measure, what);
    }

    private static void setFirstListed() {
        Check.refusedPlace("set(3, 7, 0)", Made::rich, music -> music.set(3, 7, 0));
        Check.refusedPlace("set(-1, -1, 0)", Made::rich, music -> music.set(-1, -1, 0));
        Check.refusedPlace("set(3, 0, 8)", Made::rich, music -> music.set(3, 0, 8));
        Check.refusedPlace("set(0, 0, 8) without measures", Music::new, music -> music.set(0, 0, 8));
    }

    private static void undoneSet() {
        int[] values = {-7, 12, 16, 300, 1, 3, 4};
        for (int what = 0; what <= 6; what++) {
            int asked = what;
            for (Supplier<Music> maker : List.<Supplier<Music>>of(Made::young, Made::rich, Made::wide)) {
                Check.undoable("set(0, " + what + ")", maker, music -> music.set(0, asked, values[asked]));
                int same = maker.get().measure(0, what);
                Check.undoable("set(0, " + what + ") to the same value", maker, music -> music.set(0, asked, same));
            }
        }
    }

    // ---- promise 5: addNote

    private static void fullOfNotes() {
        Music music = Made.bars(16);
        for (int event = 0; event < 24; event++) {
            music.addNote(15, 0, event, event % 4, event % 10, event % 2 == 0);
            music.addNote(15, 1, 62 - event, (event + 1) % 4, (event + 1) % 10, event % 2 == 1);
        }
        for (int event = 0; event < 24; event++) {
            isNote(music, 15, 0, event, event, event % 4, event % 10, event % 2 == 0);
            isNote(music, 15, 1, event, 62 - event, (event + 1) % 4, (event + 1) % 10, event % 2 == 1);
        }
        Check.equal("events of voice 0", music.measure(15, 8), 24);
        Check.equal("events of voice 1", music.measure(15, 9), 24);
    }

    private static void isNote(Music music, int measure, int voice, int event, int pitch, int sign, int duration,
            boolean tied) {
        int[] due = {pitch, sign, duration, tied ? 1 : 0};
        for (int what = 0; what < 4; what++) {
            Check.equal("event(" + measure + ", " + voice + ", " + event + ", " + what + ")",
                    music.event(measure, voice, event, what), due[what]);
        }
    }

    private static void notesInOrder() {
        for (int ahead : new int[] {0, 1, 22, 23}) {
            Music music = Made.rests(ahead, 2);
            music.addNote(0, 0, 40, 2, 3, true);
            Check.equal("events of the voice", music.measure(0, 8), ahead + 1);
            Check.equal("events of the other voice", music.measure(0, 9), 2);
            isNote(music, 0, 0, ahead, 40, 2, 3, true);
            for (int event = 0; event < ahead; event++) {
                Check.equal("the event ahead", music.event(0, 0, event, 2), 8);
                Check.equal("the pitch of the rest ahead", music.event(0, 0, event, 0), Music.NONE);
            }
        }
    }

    private static void voicesOfNotes() {
        for (int voice = 0; voice <= 1; voice++) {
            Music music = Made.rich();
            int other = music.measure(2, 9 - voice);
            int before = music.measure(2, 8 + voice);
            music.addNote(2, voice, 62, 3, 9, true);
            Check.equal("events of voice " + voice, music.measure(2, 8 + voice), before + 1);
            Check.equal("events of the other voice", music.measure(2, 9 - voice), other);
        }
        for (int voice : new int[] {-1, 2, 3, Integer.MIN_VALUE, Integer.MAX_VALUE}) {
            Check.refusedPlace("addNote() to voice " + voice, Made::rich, music -> music.addNote(0, voice, 30, 0, 4, false));
            Check.refusedPlace("addNote() to voice " + voice, Made::wide, music -> music.addNote(15, voice, 30, 0, 4,
                    false));
        }
    }

    private static void pitches() {
        for (int pitch = 0; pitch <= 62; pitch++) {
            Music music = Made.young();
            music.addNote(0, pitch % 2, pitch, 0, 4, false);
            isNote(music, 0, pitch % 2, 0, pitch, 0, 4, false);
        }
        refusesNotes(new int[] {-1, 63, 64, 128, Integer.MIN_VALUE, Integer.MAX_VALUE}, new int[] {0}, new int[] {4});
    }

    private static void signs() {
        for (int sign = 0; sign <= 3; sign++) {
            Music music = Made.young();
            music.addNote(0, 0, 62, sign, 9, true);
            isNote(music, 0, 0, 0, 62, sign, 9, true);
        }
        refusesNotes(new int[] {30}, new int[] {-1, 4, 8, Integer.MIN_VALUE, Integer.MAX_VALUE}, new int[] {4});
    }

    private static void durationsOfNotes() {
        for (int duration = 0; duration <= 9; duration++) {
            Music music = Made.young();
            music.addNote(0, 1, 0, 3, duration, false);
            isNote(music, 0, 1, 0, 0, 3, duration, false);
        }
        refusesNotes(new int[] {30}, new int[] {0}, new int[] {-1, 10, 16, Integer.MIN_VALUE, Integer.MAX_VALUE});
    }

    private static void refusesNotes(int[] pitches, int[] signs, int[] durations) {
        for (int pitch : pitches) {
            for (int sign : signs) {
                for (int duration : durations) {
                    String call = "addNote(0, 0, " + pitch + ", " + sign + ", " + duration + ", ..)";
                    Check.refusedValue(call, Made::young, music -> music.addNote(0, 0, pitch, sign, duration, false));
                    Check.refusedValue(call, Made::rich, music -> music.addNote(0, 0, pitch, sign, duration, true));
                }
            }
        }
    }

    private static void tiedOrNot() {
        for (int duration = 0; duration <= 9; duration++) {
            Music music = Made.young();
            music.addNote(0, 0, 62, 3, duration, true);
            music.addNote(0, 0, 0, 0, duration, false);
            music.addNote(0, 0, 0, 0, duration, true);
            isNote(music, 0, 0, 0, 62, 3, duration, true);
            isNote(music, 0, 0, 1, 0, 0, duration, false);
            isNote(music, 0, 0, 2, 0, 0, duration, true);
        }
    }

    private static void octavesAndSteps() {
        for (int octave = 0; octave <= 8; octave++) {
            for (int step = 0; step <= 6; step++) {
                Music music = Made.bars(2);
                music.addNote(1, 0, 7 * octave + step, 0, 4, false);
                Check.equal("sentence", Check.sentence(music, 1),
                        "bar 2 voice 1 " + "cdefgab".charAt(step) + " " + octave + " quarter end");
            }
        }
    }

    private static void signsInWords() {
        String[] words = {"", "sharp ", "flat ", "natural "};
        for (int sign = 0; sign <= 3; sign++) {
            Music music = Made.bars(2);
            music.addNote(1, 0, 28, sign, 4, sign % 2 == 0);
            Check.equal("sentence", Check.sentence(music, 1),
                    "bar 2 voice 1 c " + words[sign] + "4 quarter " + (sign % 2 == 0 ? "tied " : "") + "end");
        }
    }

    private static void addNoteReturns() {
        Music music = Made.bars(1);
        for (int count = 1; count <= 24; count++) {
            Check.equal("addNote() to voice 1", music.addNote(0, 1, 30, 0, 4, false), count);
            Check.equal("addNote() to voice 0", music.addNote(0, 0, 30, 0, 4, false), count);
        }
        music.removeEvent(0, 1, 0);
        Check.equal("addNote() behind a removal", music.addNote(0, 1, 30, 0, 4, false), 24);
    }

    private static void noVoiceForNotes() {
        Check.refusesMeasures("addNote() to voice 0", (music, measure) -> music.addNote(measure, 0, 30, 0, 4, false));
        Check.refusesMeasures("addNote() to voice 1", (music, measure) -> music.addNote(measure, 1, 30, 0, 4, false));
        Check.refusedPlace("addNote() to voice -1", Made::young, music -> music.addNote(0, -1, 30, 0, 4, false));
        Check.refusedPlace("addNote() to voice 2", Made::young, music -> music.addNote(0, 2, 30, 0, 4, false));
    }

    private static void noteOutOfRange() {
        Check.equal("the lowest values", Made.young().addNote(0, 0, 0, 0, 0, false), 1);
        Check.equal("the highest values", Made.young().addNote(0, 0, 62, 3, 9, true), 1);
        refusesNotes(new int[] {63}, new int[] {3}, new int[] {9});
        refusesNotes(new int[] {62}, new int[] {4}, new int[] {9});
        refusesNotes(new int[] {62}, new int[] {3}, new int[] {10});
        refusesNotes(new int[] {-1, 63}, new int[] {-1, 4}, new int[] {-1, 10});
    }

    private static void noteToFullVoice() {
        for (int voice = 0; voice <= 1; voice++) {
            int full = voice;
            Supplier<Music> maker = () -> Made.rests(full == 0 ? 24 : 3, full == 1 ? 24 : 3);
            Supplier<Music> nearly = () -> Made.rests(full == 0 ? 23 : 3, full == 1 ? 23 : 3);
            Check.equal("addNote() to 23", nearly.get().addNote(0, voice, 62, 3, 9, true), 24);
            Check.refusedState("addNote() to 24", maker, music -> music.addNote(0, full, 62, 3, 9, true));
            Check.refusedState("addNote() to 24", maker, music -> music.addNote(0, full, 0, 0, 0, false));
            Check.equal("addNote() to the other voice", maker.get().addNote(0, 1 - voice, 30, 0, 4, false), 4);
            Music again = maker.get();
            again.removeEvent(0, voice, 23);
            Check.equal("addNote() behind a removal", again.addNote(0, voice, 30, 0, 4, false), 24);
        }
    }

    private static void addNoteFirstListed() {
        Supplier<Music> full = () -> Made.rests(24, 24);
        Check.refusedPlace("no measure, pitch 63", full, music -> music.addNote(1, 0, 63, 0, 4, false));
        Check.refusedPlace("no voice, sign 4", full, music -> music.addNote(0, 2, 30, 4, 4, false));
        Check.refusedPlace("no voice, duration 10", full, music -> music.addNote(0, -1, 30, 0, 10, false));
        Check.refusedValue("pitch 63 to a full voice", full, music -> music.addNote(0, 0, 63, 0, 4, false));
        Check.refusedValue("sign -1 to a full voice", full, music -> music.addNote(0, 1, 30, -1, 4, false));
        Check.refusedValue("duration 10 to a full voice", full, music -> music.addNote(0, 0, 30, 0, 10, false));
    }

    private static void undoneAddNote() {
        Consumer<Music> call = music -> music.addNote(0, 1, 31, 1, 4, true);
        Check.undoable("addNote()", Made::young, call);
        Check.undoable("addNote()", Made::rich, call);
        Check.undoable("addNote()", Made::wide, call);
        Check.undoable("the 24th addNote()", () -> Made.rests(23, 23), call);
    }

    // ---- promise 6: addRest

    private static void fullOfRests() {
        Music music = Made.bars(16);
        for (int event = 0; event < 24; event++) {
            music.addRest(15, 0, event % 10);
            music.addRest(15, 1, (event + 3) % 10);
        }
        for (int event = 0; event < 24; event++) {
            isRest(music, 15, 0, event, event % 10);
            isRest(music, 15, 1, event, (event + 3) % 10);
        }
        Check.equal("events of voice 0", music.measure(15, 8), 24);
        Check.equal("events of voice 1", music.measure(15, 9), 24);
    }

    private static void isRest(Music music, int measure, int voice, int event, int duration) {
        Check.equal("duration of rest " + event, music.event(measure, voice, event, 2), duration);
        for (int what : new int[] {0, 1, 3, 6}) {
            Check.equal("value " + what + " of rest " + event, music.event(measure, voice, event, what), Music.NONE);
        }
    }

    private static void restsInOrder() {
        for (int ahead : new int[] {0, 1, 22, 23}) {
            Music music = Made.bars(1);
            for (int event = 0; event < ahead; event++) {
                music.addNote(0, 1, 30, 0, 4, false);
            }
            music.addRest(0, 1, 7);
            Check.equal("events of the voice", music.measure(0, 9), ahead + 1);
            Check.equal("events of the other voice", music.measure(0, 8), 0);
            isRest(music, 0, 1, ahead, 7);
            for (int event = 0; event < ahead; event++) {
                isNote(music, 0, 1, event, 30, 0, 4, false);
            }
        }
    }

    private static void voicesOfRests() {
        for (int voice = 0; voice <= 1; voice++) {
            Music music = Made.bars(2);
            music.addRest(1, voice, 4);
            Check.equal("events of voice " + voice, music.measure(1, 8 + voice), 1);
            Check.equal("events of the other voice", music.measure(1, 9 - voice), 0);
        }
        for (int voice : new int[] {-1, 2, 3, Integer.MIN_VALUE, Integer.MAX_VALUE}) {
            Check.refusedPlace("addRest() to voice " + voice, Made::rich, music -> music.addRest(0, voice, 4));
            Check.refusedPlace("addRest() to voice " + voice, Made::wide, music -> music.addRest(15, voice, 4));
        }
    }

    private static void durationsOfRests() {
        for (int duration = 0; duration <= 9; duration++) {
            Music music = Made.young();
            music.addRest(0, 0, duration);
            isRest(music, 0, 0, 0, duration);
        }
        refusesRests(-1, 10);
    }

    private static void refusesRests(int... durations) {
        for (int duration : durations) {
            Check.refusedValue("addRest(0, 0, " + duration + ")", Made::young, music -> music.addRest(0, 0, duration));
            Check.refusedValue("addRest(0, 1, " + duration + ")", Made::rich, music -> music.addRest(0, 1, duration));
        }
    }

    private static void addRestReturns() {
        Music music = Made.bars(1);
        for (int count = 1; count <= 24; count++) {
            Check.equal("addRest() to voice 1", music.addRest(0, 1, 4), count);
            Check.equal("addRest() to voice 0", music.addRest(0, 0, 4), count);
        }
        music.removeEvent(0, 1, 23);
        Check.equal("addRest() behind a removal", music.addRest(0, 1, 4), 24);
    }

    private static void noVoiceForRests() {
        Check.refusesMeasures("addRest() to voice 0", (music, measure) -> music.addRest(measure, 0, 4));
        Check.refusesMeasures("addRest() to voice 1", (music, measure) -> music.addRest(measure, 1, 4));
        Check.refusedPlace("addRest() to voice -1", Made::young, music -> music.addRest(0, -1, 4));
        Check.refusedPlace("addRest() to voice 2", Made::young, music -> music.addRest(0, 2, 4));
    }

    private static void restOutOfRange() {
        Check.equal("the lowest duration", Made.young().addRest(0, 0, 0), 1);
        Check.equal("the highest duration", Made.young().addRest(0, 0, 9), 1);
        refusesRests(-1, 10, 16, 25, Integer.MIN_VALUE, Integer.MAX_VALUE);
    }

    private static void restToFullVoice() {
        for (int voice = 0; voice <= 1; voice++) {
            int full = voice;
            Supplier<Music> maker = () -> Made.rests(full == 0 ? 24 : 3, full == 1 ? 24 : 3);
            Supplier<Music> nearly = () -> Made.rests(full == 0 ? 23 : 3, full == 1 ? 23 : 3);
            Check.equal("addRest() to 23", nearly.get().addRest(0, voice, 9), 24);
            Check.refusedState("addRest() to 24", maker, music -> music.addRest(0, full, 9));
            Check.equal("addRest() to the other voice", maker.get().addRest(0, 1 - voice, 4), 4);
            Music again = maker.get();
            again.removeEvent(0, voice, 0);
            Check.equal("addRest() behind a removal", again.addRest(0, voice, 4), 24);
        }
    }

    private static void addRestFirstListed() {
        Supplier<Music> full = () -> Made.rests(24, 24);
        Check.refusedPlace("no measure, duration 10", full, music -> music.addRest(1, 0, 10));
        Check.refusedPlace("no voice, duration -1", full, music -> music.addRest(0, 2, -1));
        Check.refusedValue("duration 10 to a full voice", full, music -> music.addRest(0, 0, 10));
        Check.refusedValue("duration -1 to a full voice", full, music -> music.addRest(0, 1, -1));
    }

    private static void undoneAddRest() {
        Consumer<Music> call = music -> music.addRest(0, 1, 3);
        Check.undoable("addRest()", Made::young, call);
        Check.undoable("addRest()", Made::rich, call);
        Check.undoable("addRest()", Made::wide, call);
        Check.undoable("the 24th addRest()", () -> Made.rests(23, 23), call);
    }

    // ---- promise 7: removeEvent

    /** Both voices of the last measure full: notes of the pitches 0 to 23 and 62 to 39. */
    private static Music full() {
        Music music = Made.bars(16);
        for (int event = 0; event < 24; event++) {
            music.addNote(15, 0, event, event % 4, event % 10, event % 2 == 0);
            music.addNote(15, 1, 62 - event, event % 4, event % 10, event % 2 == 1);
        }
        return music;
    }

    private static void removedEvent() {
        for (int removed = 0; removed < 24; removed++) {
            for (int voice = 0; voice <= 1; voice++) {
                Music music = full();
                music.removeEvent(15, voice, removed);
                Check.equal("events of the voice", music.measure(15, 8 + voice), 23);
                Check.equal("events of the other voice", music.measure(15, 9 - voice), 24);
                for (int event = 0; event < 23; event++) {
                    int was = event < removed ? event : event + 1;
                    isNote(music, 15, voice, event, voice == 0 ? was : 62 - was, was % 4, was % 10, was % 2 == voice);
                    Check.equal("the other voice", music.event(15, 1 - voice, event, 0), voice == 1 ? event : 62 - event);
                }
            }
        }
    }

    private static void voicesOfRemovals() {
        for (int voice : new int[] {-1, 2, Integer.MIN_VALUE, Integer.MAX_VALUE}) {
            Check.refusedPlace("removeEvent() of voice " + voice, Made::rich, music -> music.removeEvent(0, voice, 0));
        }
        for (int voice = 0; voice <= 1; voice++) {
            Music music = Made.rests(2, 2);
            Check.equal("removeEvent() of voice " + voice, music.removeEvent(0, voice, 0), 1);
            Check.equal("events of the other voice", music.measure(0, 9 - voice), 2);
        }
    }

    private static void firstAndLastEvent() {
        Check.equal("removeEvent() of the first of 24", full().removeEvent(15, 0, 0), 23);
        Check.equal("removeEvent() of the last of 24", full().removeEvent(15, 1, 23), 23);
        Check.equal("removeEvent() of the only one", Made.rests(1, 0).removeEvent(0, 0, 0), 0);
        Check.refusedPlace("removeEvent() of -1", ChangesEdgeTest::full, music -> music.removeEvent(15, 0, -1));
        Check.refusedPlace("removeEvent() of 24", ChangesEdgeTest::full, music -> music.removeEvent(15, 1, 24));
    }

    private static void removeEventReturns() {
        Music music = full();
        for (int left = 23; left >= 0; left--) {
            Check.equal("removeEvent() of the first", music.removeEvent(15, 0, 0), left);
            Check.equal("removeEvent() of the last", music.removeEvent(15, 1, left), left);
        }
    }

    private static void removeNoEvent() {
        Check.refusedPlace("removeEvent(0, 0, 0) of a new object", Music::new, music -> music.removeEvent(0, 0, 0));
        Check.refusedPlace("removeEvent() of an empty voice", Made::young, music -> music.removeEvent(0, 0, 0));
        Check.refusedPlace("removeEvent() of an empty voice 1", () -> Made.rests(3, 0), music -> music.removeEvent(0, 1, 0));
        for (int event : new int[] {-1, 3, Integer.MIN_VALUE, Integer.MAX_VALUE}) {
            Check.refusedPlace("removeEvent() of " + event, () -> Made.rests(3, 24),
                    music -> music.removeEvent(0, 0, event));
        }
        for (int measure : new int[] {-1, 3, 16, Integer.MIN_VALUE, Integer.MAX_VALUE}) {
            Check.refusedPlace("removeEvent() of measure " + measure, Made::rich, music -> music.removeEvent(measure, 0, 0));
            Check.refusedPlace("removeEvent() of measure " + measure, Made::rich, music -> music.removeEvent(measure, 1, 0));
        }
        Music emptied = Made.rests(1, 1);
        emptied.removeEvent(0, 0, 0);
        Check.noPlace("removeEvent() of an emptied voice", () -> emptied.removeEvent(0, 0, 0));
    }

    private static void undoneRemoveEvent() {
        Check.undoable("removeEvent() of the only one", () -> Made.rests(1, 0), music -> music.removeEvent(0, 0, 0));
        Check.undoable("removeEvent() of the first", Made::rich, music -> music.removeEvent(0, 0, 0));
        Check.undoable("removeEvent() of the last", Made::rich, music -> music.removeEvent(0, 0, 2));
        Check.undoable("removeEvent() of voice 1", Made::rich, music -> music.removeEvent(1, 1, 0));
        Check.undoable("removeEvent() of 24", ChangesEdgeTest::full, music -> music.removeEvent(15, 1, 11));
    }
}

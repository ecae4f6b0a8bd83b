import java.util.ArrayList;
import java.util.List;

/** What notes sound (promise 9), sentence by sentence: what stands just inside and just outside of the boundaries. */
final class SoundsEdgeTest {
    static final List<Edge> EDGES = new ArrayList<>();
    private static final int[] SIGN_SHIFTS = {0, 1, -1, 0};

    static {
        EDGES.add(new Edge(9, "The shift of a note is found like this, by the first of these that holds:",
                SoundsEdgeTest::firstThatHolds));
        EDGES.add(new Edge(9, "(1) it has a sign: 1 for a sharp, -1 for a flat, 0 for a natural;",
                SoundsEdgeTest::ownSigns));
        EDGES.add(new Edge(9, "(2) the event before it in its voice is a note of the same pitch that is tied",
                SoundsEdgeTest::tiedBefore));
        EDGES.add(new Edge(9, "(if it is the first event of its measure, the last event of this voice in the measure with "
                + "the number before, if it has events there)", SoundsEdgeTest::tiedBeforeTheBar));
        EDGES.add(new Edge(9, ": the shift of that note;", SoundsEdgeTest::chainsOfTies));
        EDGES.add(new Edge(9, "(3) a note of the same pitch is ahead of it in its voice in this measure that has a sign",
                SoundsEdgeTest::signsAhead));
        EDGES.add(new Edge(9, "the shift of the latest such note;", SoundsEdgeTest::latestSign));
        EDGES.add(new Edge(9, "(4) by the key: 1 if the key is above 0 and its step is among the first (key) of the steps "
                + "3, 0, 4, 1, 5, 2, 6;", SoundsEdgeTest::sharpKeys));
        EDGES.add(new Edge(9, "-1 if the key is below 0 and its step is among the first (-key) of the steps "
                + "6, 2, 5, 1, 4, 0, 3;", SoundsEdgeTest::flatKeys));
        EDGES.add(new Edge(9, "otherwise 0.", SoundsEdgeTest::plainKey));
        EDGES.add(new Edge(9, "It sounds 12 * octave + (0, 2, 4, 5, 7, 9, 11 for the steps 0 to 6) + shift.",
                SoundsEdgeTest::lowestToHighest));
        EDGES.add(new Edge(9, "the last event of this voice in the measure with the number before",
                SoundsEdgeTest::lastEventChanges));
        EDGES.add(new Edge(9, "A tie holds if the next event of its voice", SoundsEdgeTest::tiesToTheNext));
        EDGES.add(new Edge(9, "(if it is the last one of its measure, the first event of this voice in the measure with "
                + "the next number, if it has events there)", SoundsEdgeTest::tiesOverTheBar));
        EDGES.add(new Edge(9, "is a note of the same pitch, whatever its sign is; otherwise it is broken.",
                SoundsEdgeTest::tiesToSigns));
        EDGES.add(new Edge(9, "The held length of a note is its ticks, plus the held length of the next note if it is tied "
                + "and the tie holds.", SoundsEdgeTest::heldLengths));
    }

    public static void main(String[] args) {
        Check.run(EDGES);
    }

    private static int[] note(int pitch, int sign, boolean tied) {
        return new int[] {pitch, sign, 4, tied ? 1 : 0};
    }

    private static final int[] REST = {4};

    private static Music voice(int key, int[]... events) {
        Music music = Made.bars(1);
        music.set(0, 0, key);
        Made.add(music, 0, 1, events);
        return music;
    }

    private static void lastShift(String what, int due, int key, int[]... events) {
        Music music = voice(key, events);
        Check.equal("shift: " + what, music.event(0, 1, events.length - 1, 6), due);
    }

    /** Each rule with all the later ones against it: f (31) is sharp by the key 1, flat by the key -7. */
    private static void firstThatHolds() {
        lastShift("(1) against (2), (3), (4)", 0, 1, note(31, 2, false), note(31, 1, true), note(31, 3, false));
        lastShift("(1) against (4)", -1, 7, note(31, 2, false));
        lastShift("(2) against (3) and (4)", 0, 1, note(31, 2, false), note(31, 3, true), note(31, 0, false));
        lastShift("(3) against (4)", -1, 1, note(31, 2, false), note(31, 0, false));
        lastShift("(3) of a natural against (4)", 0, -7, note(31, 3, false), note(31, 0, false));
        lastShift("(4) alone", 1, 1, note(31, 0, false));
        Music overBar = Made.bars(2);
        overBar.set(1, 0, 1);
        Made.add(overBar, 0, 0, note(31, 2, true));
        Made.add(overBar, 1, 0, note(31, 0, true), note(31, 0, false), note(31, 0, false));
        int[] due = {-1, -1, 1};
        for (int event = 0; event < 3; event++) {
            Check.equal("(2) over a bar, and (4) behind it", overBar.event(1, 0, event, 6), due[event]);
        }
    }

    private static void ownSigns() {
        for (int key : new int[] {-7, -1, 0, 1, 7}) {
            for (int pitch : new int[] {0, 31, 34, 62}) {
                for (int sign = 1; sign <= 3; sign++) {
                    lastShift("sign " + sign + " of pitch " + pitch + " in key " + key, SIGN_SHIFTS[sign], key,
                            note(pitch, sign, false));
                }
            }
        }
    }

    private static void tiedBefore() {
        lastShift("a tied note just before", -1, 0, note(31, 2, false), note(31, 2, true), note(31, 0, false));
        lastShift("a tied note two before", 0, 0, note(31, 1, true), note(31, 3, false), note(31, 0, false));
        lastShift("a rest between", 1, 1, note(30, 2, true), REST, note(31, 0, false));
        lastShift("another pitch", 0, 0, note(30, 1, true), note(31, 0, false));
        lastShift("the same step an octave lower", 0, 0, note(24, 1, true), note(31, 0, false));
        lastShift("the same step an octave higher", 0, 0, note(38, 1, true), note(31, 0, false));
        // the shift by the key differs from that of the tied note only over a bar
        Music untied = overBar(note(31, 1, false), note(31, 0, false));
        Check.equal("a note before that is not tied", untied.event(1, 0, 0, 6), 0);
        Music tied = overBar(note(31, 1, true), note(31, 0, false));
        Check.equal("a note before that is tied", tied.event(1, 0, 0, 6), 1);
    }

    private static Music overBar(int[] last, int[] first) {
        Music music = Made.bars(2);
        Made.add(music, 0, 0, last);
        Made.add(music, 1, 0, first);
        return music;
    }

    private static void tiedBeforeTheBar() {
        Music chain = Made.bars(16);
        Made.add(chain, 14, 0, note(31, 2, true), note(31, 1, true));
        Made.add(chain, 15, 0, note(31, 0, false), note(31, 0, false));
        Check.equal("the last event before the bar", chain.event(15, 0, 0, 6), 1);
        Check.equal("the second event behind the bar", chain.event(15, 0, 1, 6), 0);
        Music notLast = Made.bars(2);
        Made.add(notLast, 0, 0, note(31, 1, true), REST);
        Made.add(notLast, 1, 0, note(31, 0, false));
        Check.equal("a tied note that is not the last event", notLast.event(1, 0, 0, 6), 0);
        Music noEvents = Made.bars(3);
        Made.add(noEvents, 0, 0, note(31, 1, true));
        Made.add(noEvents, 2, 0, note(31, 0, false));
        Check.equal("no events in the measure before", noEvents.event(2, 0, 0, 6), 0);
        noEvents.removeMeasure(1);
        Check.equal("without the measure that had none", noEvents.event(1, 0, 0, 6), 1);
        Music otherVoice = Made.bars(2);
        Made.add(otherVoice, 0, 1, note(31, 1, true));
        Made.add(otherVoice, 1, 0, note(31, 0, false));
        Check.equal("a tied note of the other voice", otherVoice.event(1, 0, 0, 6), 0);
        Music first = Made.bars(2);
        Made.add(first, 1, 0, note(31, 1, true));
        Made.add(first, 0, 0, note(31, 0, false));
        Check.equal("the first measure has none before it, not the last one either", first.event(0, 0, 0, 6), 0);
        Music notFirst = Made.bars(2);
        Made.add(notFirst, 0, 0, note(31, 1, true));
        Made.add(notFirst, 1, 0, note(30, 0, false), note(31, 0, false));
        Check.equal("the second event, behind another pitch", notFirst.event(1, 0, 1, 6), 0);
    }

    /** Each call that puts another event last, or takes it away, is felt behind the bar at once. */
    private static void lastEventChanges() {
        Music music = overBar(note(31, 1, true), note(31, 0, false));
        overTheBar("at first", music, 1, 0);
        music.addRest(0, 0, 4);
        overTheBar("behind addRest()", music, 0, 1);
        music.removeEvent(0, 0, 1);
        overTheBar("behind removeEvent()", music, 1, 0);
        music.addNote(0, 0, 31, 2, 4, true);
        overTheBar("behind addNote()", music, -1, 0);
        Check.equal("the tie of the note added", music.event(0, 0, 1, 9), 0);
        music.undo();
        overTheBar("behind undo()", music, 1, 0);
        Made.type(music, "bar 1 voice 1 f flat 4 half tied end");
        music.readInto(0);
        overTheBar("behind readInto()", music, -1, 0);
        music.set(0, 0, 1);
        music.set(1, 0, 1);
        overTheBar("behind set()", music, -1, 0);
        music.readInto(0);
        music.removeMeasure(0);
        Check.equal("shift behind removeMeasure()", music.event(0, 0, 0, 6), 1);
        music.undo();
        overTheBar("behind undo() of removeMeasure()", music, -1, 0);
    }

    /** The shift of the first note behind the bar, and whether the tie of the very first note is broken. */
    private static void overTheBar(String when, Music music, int shift, int broken) {
        Check.equal("shift " + when, music.event(1, 0, 0, 6), shift);
        Check.equal("broken tie " + when, music.event(0, 0, 0, 9), broken);
    }

    /** The shift goes through ties of notes without signs, as far as there are notes, and changes with the first one. */
    private static void chainsOfTies() {
        Music full = Made.full();
        Check.equal("the last of 384 tied notes", full.event(15, 0, 23, 6), 0);
        full.set(0, 0, 2);
        Check.equal("the first by its key", full.event(0, 0, 0, 6), 1);
        Check.equal("the last through all ties", full.event(15, 0, 23, 6), 1);
        Check.equal("what is not tied", full.event(15, 1, 23, 6), 0);
        full.undo();
        Check.equal("the last behind undo()", full.event(15, 0, 23, 6), 0);
        Music changing = voice(0, note(31, 1, true), note(31, 0, true), note(31, 2, true), note(31, 0, true),
                note(31, 3, true), note(31, 0, false));
        int[] due = {1, 1, -1, -1, 0, 0};
        for (int event = 0; event < 6; event++) {
            Check.equal("shift of tied note " + event, changing.event(0, 1, event, 6), due[event]);
        }
        Music byKey = overBar(note(31, 0, true), note(31, 0, false));
        byKey.set(0, 0, -7);
        Check.equal("the shift that the key before the bar gave", byKey.event(1, 0, 0, 6), -1);
        byKey.set(1, 0, 7);
        Check.equal("whatever the key behind the bar is", byKey.event(1, 0, 0, 6), -1);
    }

    private static void signsAhead() {
        lastShift("the note just ahead", 1, 0, note(31, 1, false), note(31, 0, false));
        lastShift("a note 23 ahead", 1, 0, farAhead(31));
        lastShift("a note 23 ahead of another pitch", 0, 0, farAhead(24));
        lastShift("no sign ahead", 0, 0, note(31, 0, false), note(31, 0, false));
        lastShift("the step an octave lower", 0, 0, note(24, 1, false), note(31, 0, false));
        lastShift("the pitch next to it", 0, 0, note(32, 1, false), note(31, 0, false));
        Music behind = voice(0, note(31, 0, false), note(31, 1, false));
        Check.equal("a sign behind it", behind.event(0, 1, 0, 6), 0);
        Music otherVoice = voice(0, note(31, 0, false));
        Made.add(otherVoice, 0, 0, note(31, 1, false));
        Check.equal("a sign of the other voice", otherVoice.event(0, 1, 0, 6), 0);
        Music otherMeasure = overBar(note(31, 1, false), note(31, 0, false));
        Check.equal("a sign of the measure before", otherMeasure.event(1, 0, 0, 6), 0);
    }

    private static int[][] farAhead(int lastPitch) {
        int[][] events = new int[24][];
        events[0] = note(31, 1, false);
        for (int event = 1; event < 23; event++) {
            events[event] = event % 2 == 0 ? REST : note(30, 2, false);
        }
        events[23] = note(lastPitch, 0, false);
        return events;
    }

    private static void latestSign() {
        for (int latest = 1; latest <= 3; latest++) {
            for (int earlier = 1; earlier <= 3; earlier++) {
                lastShift("sign " + latest + " behind " + earlier, SIGN_SHIFTS[latest], 7, note(28, earlier, false), REST,
                        note(28, latest, false), note(30, earlier, false), note(28, 0, false));
            }
        }
        lastShift("a tied note without a sign is none", 1, 0,
                note(28, 1, true), note(28, 0, false), note(28, 0, false));
    }

    private static void sharpKeys() {
        int[] steps = {3, 0, 4, 1, 5, 2, 6};
        for (int key = 1; key <= 7; key++) {
            for (int place = 0; place < 7; place++) {
                for (int octave : new int[] {0, 4, 8}) {
                    lastShift("step " + steps[place] + " in key " + key, place < key ? 1 : 0, key,
                            note(7 * octave + steps[place], 0, false));
                }
            }
        }
    }

    private static void flatKeys() {
        int[] steps = {6, 2, 5, 1, 4, 0, 3};
        for (int key = 1; key <= 7; key++) {
            for (int place = 0; place < 7; place++) {
                for (int octave : new int[] {0, 4, 8}) {
                    lastShift("step " + steps[place] + " in key -" + key, place < key ? -1 : 0, -key,
                            note(7 * octave + steps[place], 0, false));
                }
            }
        }
    }

    private static void plainKey() {
        for (int pitch = 0; pitch <= 62; pitch++) {
            lastShift("pitch " + pitch + " in the plain key", 0, 0, note(pitch, 0, false));
        }
        lastShift("the step b in key 6", 0, 6, note(34, 0, false));
        lastShift("the step f in key -6", 0, -6, note(31, 0, false));
    }

    private static void lowestToHighest() {
        int[] heights = {0, 2, 4, 5, 7, 9, 11};
        for (int pitch = 0; pitch <= 62; pitch++) {
            for (int sign = 0; sign <= 3; sign++) {
                Music music = voice(0, note(pitch, sign, false));
                Check.equal("sound of pitch " + pitch + " with sign " + sign, music.event(0, 1, 0, 7),
                        12 * (pitch / 7) + heights[pitch % 7] + SIGN_SHIFTS[sign]);
            }
        }
        Check.equal("the lowest of all", voice(0, note(0, 2, false)).event(0, 1, 0, 7), -1);
        Check.equal("the highest of all", voice(0, note(62, 1, false)).event(0, 1, 0, 7), 108);
        Check.equal("b sharp by the key", voice(7, note(34, 0, false)).event(0, 1, 0, 7), 60);
        Check.equal("c flat by the key", voice(-7, note(28, 0, false)).event(0, 1, 0, 7), 47);
        Check.equal("a tied sharp", voice(0, note(28, 1, true), note(28, 0, false)).event(0, 1, 1, 7), 49);
    }

    private static void broken(String what, int due, Music music, int measure, int voice, int event) {
        Check.equal("broken: " + what, music.event(measure, voice, event, 9), due);
    }

    private static void tiesToTheNext() {
        broken("the next is the same", 0, voice(0, note(31, 0, true), note(31, 0, false)), 0, 1, 0);
        broken("the next is a rest", 1, voice(0, note(31, 0, true), REST, note(31, 0, false)), 0, 1, 0);
        broken("the one behind the next is the same", 1,
                voice(0, note(31, 0, true), note(30, 0, false), note(31, 0, false)), 0, 1, 0);
        broken("the one before is the same", 1, voice(0, note(31, 0, false), note(31, 0, true)), 0, 1, 1);
        broken("there is no next", 1, voice(0, note(31, 0, true)), 0, 1, 0);
        broken("it is not tied, and the next is the same", 0, voice(0, note(31, 0, false), note(31, 0, false)), 0, 1, 0);
        broken("it is not tied, and there is no next", 0, voice(0, note(31, 0, false)), 0, 1, 0);
        Music otherVoice = voice(0, note(31, 0, true));
        Made.add(otherVoice, 0, 0, note(31, 0, false), note(31, 0, false));
        broken("the other voice has the same", 1, otherVoice, 0, 1, 0);
        Music last = Made.full();
        broken("the 23rd of 24", 0, last, 15, 0, 22);
        broken("the 24th of the last measure", 1, last, 15, 0, 23);
        broken("the 24th of a measure before", 0, last, 14, 0, 23);
    }

    private static void tiesOverTheBar() {
        broken("the first of the next measure", 0, overBar(note(31, 0, true), note(31, 0, false)), 0, 0, 0);
        broken("another first one", 1, overBar(note(31, 0, true), note(30, 0, false)), 0, 0, 0);
        broken("a rest first", 1, overBar(note(31, 0, true), REST), 0, 0, 0);
        Music second = overBar(note(31, 0, true), REST);
        Made.add(second, 1, 0, note(31, 0, false));
        broken("the second of the next measure", 1, second, 0, 0, 0);
        Music noEvents = Made.bars(3);
        Made.add(noEvents, 0, 0, note(31, 0, true));
        Made.add(noEvents, 1, 1, note(31, 0, true));
        Made.add(noEvents, 2, 0, note(31, 0, true));
        broken("no events of this voice in the next measure", 1, noEvents, 0, 0, 0);
        broken("no events of voice 1 in the next measure", 1, noEvents, 1, 1, 0);
        broken("the last measure", 1, noEvents, 2, 0, 0);
        noEvents.removeMeasure(1);
        broken("without the measure between", 0, noEvents, 0, 0, 0);
        Music notLast = Made.bars(2);
        Made.add(notLast, 0, 0, note(31, 0, true), note(30, 0, false));
        Made.add(notLast, 1, 0, note(31, 0, false));
        broken("it is not the last one of its measure", 1, notLast, 0, 0, 0);
        Music wide = Made.bars(16);
        Made.add(wide, 14, 1, note(0, 0, true));
        Made.add(wide, 15, 1, note(0, 0, true));
        broken("from measure 14 to 15", 0, wide, 14, 1, 0);
        broken("from measure 15", 1, wide, 15, 1, 0);
        wide.addNote(0, 1, 0, 0, 4, false);
        broken("from measure 15, not to 0", 1, wide, 15, 1, 0);
    }

    private static void tiesToSigns() {
        for (int sign = 0; sign <= 3; sign++) {
            for (int other = 0; other <= 3; other++) {
                broken("sign " + sign + " to " + other, 0, voice(0, note(31, sign, true), note(31, other, false)), 0, 1, 0);
                broken("sign " + sign + " to " + other + " over the bar", 0,
                        overBar(note(31, sign, true), note(31, other, true)), 0, 0, 0);
            }
        }
        broken("the same sound of another pitch", 1, voice(0, note(28, 1, true), note(29, 2, false)), 0, 1, 0);
        broken("an octave higher", 1, voice(0, note(31, 0, true), note(38, 0, false)), 0, 1, 0);
        broken("an octave lower", 1, voice(0, note(31, 0, true), note(24, 0, false)), 0, 1, 0);
        broken("the pitch next to it", 1, voice(0, note(31, 0, true), note(32, 0, false)), 0, 1, 0);
        broken("a rest behind the lowest pitch", 1, voice(0, note(0, 0, true), REST), 0, 1, 0);
    }

    private static void held(String what, int due, Music music, int measure, int voice, int event) {
        Check.equal("held length: " + what, music.event(measure, voice, event, 8), due);
    }

    private static void heldLengths() {
        held("one note", 16, voice(0, note(31, 0, false)), 0, 1, 0);
        held("a broken tie", 16, voice(0, note(31, 0, true), note(30, 0, true), note(30, 0, false)), 0, 1, 0);
        held("two tied notes", 32, voice(0, note(31, 0, true), note(31, 1, false), note(31, 0, false)), 0, 1, 0);
        held("three tied notes, the last one broken", 48, voice(0, note(31, 0, true), note(31, 0, true), note(31, 0, true)),
                0, 1, 0);
        held("not tied to a tied one", 16, voice(0, note(31, 0, false), note(31, 0, true), note(31, 0, false)), 0, 1, 0);
        held("the second of three", 32, voice(0, note(31, 0, true), note(31, 0, true), note(31, 0, false)), 0, 1, 1);
        Music full = Made.full();
        held("384 halves", 384 * 32, full, 0, 0, 0);
        held("383 halves", 383 * 32, full, 0, 0, 1);
        held("from the last measure on", 24 * 32, full, 15, 0, 0);
        held("the last one", 32, full, 15, 0, 23);
        held("halves that are not tied", 32, full, 0, 1, 0);
        full.removeEvent(8, 0, 0);
        held("383 halves, one is removed", 383 * 32, full, 0, 0, 0);
        full.removeMeasure(8);
        held("15 measures of halves", 360 * 32, full, 0, 0, 0);
        Music longest = Made.bars(2);
        for (int event = 0; event < 24; event++) {
            longest.addNote(0, 0, 62, event % 4, 1, true);
            longest.addNote(1, 0, 62, (event + 1) % 4, 1, true);
        }
        held("48 dotted wholes of all signs", 48 * 96, longest, 0, 0, 0);
    }
}

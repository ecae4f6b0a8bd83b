import java.util.ArrayList;
import java.util.List;
import java.util.function.Consumer;
import java.util.function.Supplier;

/** Undo, exceptions and promise 30, sentence by sentence: what stands just inside and just outside of the boundaries. */
final class UndoEdgeTest {
    static final List<Edge> EDGES = new ArrayList<>();

    static {
        EDGES.add(new Edge(30, "Every method that is marked \"undoable\" saves", UndoEdgeTest::undoableMethods));
        EDGES.add(new Edge(30, "the whole state but the text on an undo stack", UndoEdgeTest::allButTheText));
        EDGES.add(new Edge(30, "when it ends normally, also if it changes nothing.", UndoEdgeTest::changesOfNothing));
        EDGES.add(new Edge(30, "The saved state is the one from before the call.", UndoEdgeTest::statesFromBefore));
        EDGES.add(new Edge(30, "The stack keeps the latest 4 saved states and drops older ones.", UndoEdgeTest::latestFour));
        EDGES.add(new Edge(30, "Restores the latest saved state and removes it from the undo stack.",
                UndoEdgeTest::latestFirst));
        EDGES.add(new Edge(30, "Returns the number of states that are left on the stack.", UndoEdgeTest::undoReturns));
        EDGES.add(new Edge(30, "Throws IllegalStateException if the stack is empty", UndoEdgeTest::emptyStack));
        EDGES.add(new Edge(30, Edge.CHANGES_NOTHING, UndoEdgeTest::refusedCallsInARow));
        EDGES.add(new Edge(1, "with an empty text and an empty undo stack.", UndoEdgeTest::emptyStackOfANewObject));
        EDGES.add(new Edge(9, "NONE = -1000: Returned where there is no such value.", UndoEdgeTest::none));
    }

    public static void main(String[] args) {
        Check.run(EDGES);
    }

    private static final List<Consumer<Music>> UNDOABLE = List.of(Music::addMeasure, music -> music.removeMeasure(0),
            music -> music.set(0, 0, 7), music -> music.addNote(0, 0, 30, 1, 4, true), music -> music.addRest(0, 1, 3),
            music -> music.removeEvent(0, 0, 0), music -> music.readInto(0));

    private static final List<Consumer<Music>> OTHERS = List.of(music -> music.measure(0, 7),
            music -> music.event(0, 0, 0, 8), music -> music.eventAt(0, 0, 5), music -> music.crossings(0),
            music -> music.whole(7), music -> music.order(1), music -> music.timesPlayed(0), music -> music.seconds(2),
            music -> music.placeAt(1), music -> music.sentenceLength(0), music -> music.sentenceByte(0, 1),
            music -> music.words(0), music -> music.copySentence(0), music -> music.type(' '), music -> music.cut(1),
            Music::clearText, Music::fault, music -> music.tells(0), music -> music.changedBy(0, 3),
            music -> music.nearestKey(0), music -> music.needlessSigns(0), Music::digest);

    /** One measure with a rest, three saved states, a text. */
    private static Music small() {
        Music music = Made.rests(2, 0);
        Made.type(music, "bar 1 voice 2 c 4 half end");
        return music;
    }

    private static void undoableMethods() {
        for (int index = 0; index < UNDOABLE.size(); index++) {
            Check.undoable("undoable method " + index + " on 3 states", UndoEdgeTest::small, UNDOABLE.get(index));
            Check.undoable("undoable method " + index + " on 4 states", Made::rich, UNDOABLE.get(index));
            Consumer<Music> first = UNDOABLE.get(index);
            for (int other = 0; other < UNDOABLE.size(); other++) {
                Consumer<Music> second = UNDOABLE.get(other);
                Check.undoable("method " + other + " behind " + index, () -> behind(Made.rich(), first), second);
            }
        }
        for (int index = 0; index < OTHERS.size(); index++) {
            Check.savesNothing("other method " + index + " on 3 states", UndoEdgeTest::small, OTHERS.get(index));
            Check.savesNothing("other method " + index + " on 4 states", Made::rich, OTHERS.get(index));
        }
    }

    private static Music behind(Music music, Consumer<Music> call) {
        call.accept(music);
        return music;
    }

    private static void allButTheText() {
        Music music = Made.rich();
        music.addMeasure();
        music.clearText();
        Made.type(music, "bar 1 en");
        music.undo();
        Check.equal("measures behind undo()", music.whole(0), 3);
        Check.equal("length of the text behind undo()", music.whole(8), 8);
        Check.equal("fault() of the text behind undo()", music.fault(), 6);
        music.type('d');
        for (int left = 2; left >= 0; left--) {
            Check.equal("undo()", music.undo(), left);
            Check.equal("fault() of the text", music.fault(), Music.NONE);
            Check.equal("length of the text", music.whole(8), 9);
        }
        Music wide = Made.wide();
        wide.removeMeasure(0);
        wide.undo();
        for (int measure = 0; measure < 16; measure++) {
            Check.equal("tempo of " + measure, wide.measure(measure, 3), 100 + measure);
            Check.equal("pitch in " + measure, wide.event(measure, measure % 2, 0, 0), 30 + measure);
            Check.equal("events of the other voice", wide.measure(measure, 9 - measure % 2), 0);
        }
        Music full = Made.full();
        full.removeEvent(15, 0, 23);
        full.undo();
        Check.equal("events behind undo()", full.whole(1), 768);
        Check.equal("held length behind undo()", full.event(0, 0, 0, 8), 384 * 32);
    }

    private static void changesOfNothing() {
        for (int what = 0; what <= 6; what++) {
            int asked = what;
            int same = Made.rich().measure(1, what);
            Check.undoable("set() of the same value " + what, Made::rich, music -> music.set(1, asked, same));
            int young = Made.young().measure(0, what);
            Check.undoable("set() of the same value " + what, Made::young, music -> music.set(0, asked, young));
        }
        Check.undoable("readInto() of the same", () -> Made.longText(600), music -> music.readInto(0));
        Music music = Made.young();
        for (int count = 0; count < 4; count++) {
            music.set(0, 0, 0);
        }
        for (int left = 3; left >= 0; left--) {
            Check.equal("undo() of what changed nothing", music.undo(), left);
            Check.equal("measures", music.whole(0), 1);
        }
        Check.badState("undo() of the adding, which was dropped", music::undo);
    }

    private static void statesFromBefore() {
        Music music = Made.young();
        music.set(0, 3, 100);
        music.addNote(0, 0, 30, 1, 4, true);
        music.addRest(0, 0, 3);
        music.set(0, 3, 200);
        Check.equal("undo()", music.undo(), 3);
        Check.equal("tempo before the last call", music.measure(0, 3), 100);
        Check.equal("events before the last call", music.measure(0, 8), 2);
        music.undo();
        Check.equal("events before the rest", music.measure(0, 8), 1);
        Check.equal("the note", music.event(0, 0, 0, 0), 30);
        music.undo();
        Check.equal("events before the note", music.measure(0, 8), 0);
        Check.equal("tempo before the note", music.measure(0, 3), 100);
        music.undo();
        Check.equal("tempo before all", music.measure(0, 3), 120);
        Music first = Made.young();
        first.undo();
        Check.equal("measures before the first", first.whole(0), 0);
    }

    private static void latestFour() {
        for (int calls = 0; calls <= 9; calls++) {
            Music music = new Music();
            for (int call = 0; call < calls; call++) {
                music.addMeasure();
            }
            int states = Math.min(calls, 4);
            for (int undone = 1; undone <= states; undone++) {
                Check.equal("undo() " + undone + " of " + calls + " calls", music.undo(), states - undone);
                Check.equal("measures behind it", music.whole(0), calls - undone);
            }
            Check.badState("undo() of one more, behind " + calls + " calls", music::undo);
            Check.equal("measures behind that", music.whole(0), calls - states);
        }
        Music again = Made.bars(6);
        again.undo();
        again.undo();
        again.addMeasure();
        again.addMeasure();
        again.addMeasure();
        int[] due = {6, 5, 4, 3};
        for (int undone = 0; undone < 4; undone++) {
            Check.equal("undo() behind undo()", again.undo(), 3 - undone);
            Check.equal("measures", again.whole(0), due[undone]);
        }
        Check.badState("the fifth undo()", again::undo);
    }

    private static void latestFirst() {
        Music music = Made.bars(2);
        music.set(0, 3, 101);
        music.set(0, 3, 102);
        music.undo();
        Check.equal("tempo behind undo()", music.measure(0, 3), 101);
        music.set(0, 3, 103);
        music.undo();
        Check.equal("tempo behind a call and undo()", music.measure(0, 3), 101);
        music.undo();
        Check.equal("tempo behind the next undo()", music.measure(0, 3), 120);
        music.undo();
        Check.equal("measures behind the next undo()", music.whole(0), 1);
        music.undo();
        Check.equal("measures behind the last undo()", music.whole(0), 0);
        Check.badState("no state is left", music::undo);
        Music derived = Made.repeats("- 2 -");
        Made.add(derived, 0, 0, new int[] {31, 1, 0, 1});
        Made.add(derived, 1, 0, new int[] {31, 0, 0, 0});
        derived.removeMeasure(0);
        Check.equal("order", Check.order(derived), "0 0 1");
        Check.equal("shift", derived.event(0, 0, 0, 6), 0);
        derived.undo();
        Check.equal("order behind undo()", Check.order(derived), "0 1 0 1 2");
        Check.equal("shift behind undo()", derived.event(1, 0, 0, 6), 1);
        Check.equal("held length behind undo()", derived.event(0, 0, 0, 8), 128);
        derived.undo();
        Check.equal("tie behind undo()", derived.event(0, 0, 0, 9), 1);
    }

    private static void undoReturns() {
        Check.equal("undo() of one state", Made.bars(1).undo(), 0);
        Check.equal("undo() of two states", Made.bars(2).undo(), 1);
        Check.equal("undo() of three states", Made.bars(3).undo(), 2);
        Check.equal("undo() of four states", Made.bars(4).undo(), 3);
        Check.equal("undo() of four states and a dropped one", Made.bars(5).undo(), 3);
        Check.equal("undo() of four states and twelve dropped ones", Made.bars(16).undo(), 3);
    }

    private static void emptyStack() {
        Check.refusedState("undo() of a new object", Music::new, Music::undo);
        Check.refusedState("undo() of a text", () -> Made.text("bar 1 end"), Music::undo);
        for (int states = 1; states <= 4; states++) {
            int calls = states;
            Supplier<Music> emptied = () -> {
                Music music = Made.bars(calls + (calls == 4 ? 2 : 0));
                for (int count = 0; count < calls; count++) {
                    music.undo();
                }
                return music;
            };
            Check.refusedState("undo() behind " + states + " undo()", emptied, Music::undo);
            Music again = emptied.get();
            again.addMeasure();
            Check.equal("undo() of a call behind that", again.undo(), 0);
        }
    }

    private static void emptyStackOfANewObject() {
        Check.refusedState("undo()", Music::new, Music::undo);
        Music music = new Music();
        Check.badState("undo()", music::undo);
        music.addMeasure();
        Check.equal("undo() behind the first addMeasure()", music.undo(), 0);
        Check.badState("undo() again", music::undo);
    }

    private static void refusedCallsInARow() {
        List<Consumer<Music>> wrong = List.of(music -> music.removeMeasure(3), music -> music.set(3, 0, 0),
                music -> music.set(0, 7, 0), music -> music.set(0, 0, 8), music -> music.addNote(3, 0, 0, 0, 0, false),
                music -> music.addNote(0, 2, 0, 0, 0, false), music -> music.addNote(0, 0, 63, 0, 0, false),
                music -> music.addRest(0, 2, 0), music -> music.addRest(0, 0, 10), music -> music.removeEvent(0, 0, 3),
                music -> music.measure(3, 0), music -> music.measure(0, 12), music -> music.event(0, 0, 3, 0),
                music -> music.event(0, 0, 0, 10), music -> music.eventAt(3, 0, 0), music -> music.eventAt(0, 0, -1),
                music -> music.crossings(3), music -> music.whole(9), music -> music.order(-1),
                music -> music.timesPlayed(3), music -> music.seconds(-1), music -> music.placeAt(-1),
                music -> music.sentenceLength(3), music -> music.sentenceByte(3, 0), music -> music.sentenceByte(0, -1),
                music -> music.words(3), music -> music.copySentence(3), music -> music.type(128), music -> music.cut(0),
                music -> music.cut(600), music -> music.readInto(3), music -> music.tells(3), music -> music.changedBy(3, 0),
                music -> music.changedBy(0, 8), music -> music.nearestKey(3), music -> music.needlessSigns(3));
        Music states = Made.rich();
        Music text = Made.rich();
        for (Consumer<Music> call : wrong) {
            for (Music music : List.of(states, text)) {
                try {
                    call.accept(music);
                    Check.fail("wrong call " + wrong.indexOf(call) + " threw nothing");
                } catch (IndexOutOfBoundsException | IllegalArgumentException | IllegalStateException due) {
                    // it is refused: which exception is due is tested with each promise
                }
            }
        }
        Check.sameStates("behind all wrong calls", states, Made.rich());
        Check.sameText("behind all wrong calls", text, Made.rich());
    }

    private static void none() {
        Check.equal("NONE", SpokenBars.NONE, -1000);
        Check.equal("order(0) of nothing", new Music().order(0), -1000);
        Check.equal("placeAt(0) of nothing", new Music().placeAt(0), -1000);
        Check.equal("eventAt() of no events", Made.young().eventAt(0, 0, 0), -1000);
        Check.equal("sentenceByte() behind the last one", Made.young().sentenceByte(0, 28), -1000);
        Check.equal("fault() without a fault", Made.text("bar 1 end").fault(), -1000);
        Check.equal("the pitch of a rest", Made.rests(1, 0).event(0, 0, 0, 0), -1000);
    }
}

import java.util.List;

/** Promises 1 to 3, sentence by sentence: what stands just inside and just outside of the boundaries that each one names. */
final class MeasuresEdgeTest {
    static final List<Edge> EDGES = List.of(
            new Edge(1, "An object is used for at most 512 calls after it has been made", MeasuresEdgeTest::lastCall),
            new Edge(1, "Creates music without measures, with an empty text and an empty undo stack.",
                    MeasuresEdgeTest::newObject),
            new Edge(2, "There are at most 16 measures, numbered from 0.", MeasuresEdgeTest::sixteenMeasures),
            new Edge(2, "Adds a measure behind all others.", MeasuresEdgeTest::addedBehindAll),
            new Edge(2, "Returns its number.", MeasuresEdgeTest::addMeasureReturns),
            new Edge(2, "Throws IllegalStateException if there are 16 measures", MeasuresEdgeTest::seventeenthMeasure),
            new Edge(2, "A new measure has the key, the time and the tempo of the measure before it",
                    MeasuresEdgeTest::newMeasureTakesOver),
            new Edge(2, "(the first one 0, 4 over 4, 120)", MeasuresEdgeTest::firstMeasure),
            new Edge(2, "opens and closes nothing, is of no ending, and has no events.",
                    MeasuresEdgeTest::newMeasureIsEmpty),
            new Edge(2, Edge.UNDOABLE, MeasuresEdgeTest::undoneAddMeasure),
            new Edge(3, "Removes a measure; the numbers of those behind it decrease by 1.",
                    MeasuresEdgeTest::removedMeasure),
            new Edge(3, "Returns the number of measures that are left.", MeasuresEdgeTest::removeMeasureReturns),
            new Edge(3, Edge.NO_MEASURE, MeasuresEdgeTest::removeNoMeasure),
            new Edge(3, Edge.UNDOABLE, MeasuresEdgeTest::undoneRemoveMeasure));

    public static void main(String[] args) {
        Check.run(EDGES);
    }

    // ---- promise 1

    private static void lastCall() {
        Check.equal("the 512th call, measure(0, 3)", called511Times().measure(0, 3), tempoOfCall(511));
        Check.equal("the 512th call, set(0, 3, 20)", called511Times().set(0, 3, 20), tempoOfCall(511));
        Check.equal("the 512th call, addMeasure()", called511Times().addMeasure(), 1);
        Check.equal("the 512th call, addRest(0, 0, 0)", called511Times().addRest(0, 0, 0), 1);
        Check.equal("the 512th call, undo()", called511Times().undo(), 3);
        Check.noPlace("the 512th call, measure(1, 0)", () -> called511Times().measure(1, 0));
        Music few = Made.bars(1);
        for (int call = 507; call <= 511; call++) {
            few.set(0, 3, tempoOfCall(call));
        }
        Check.equal("the 512th call, digest()", called511Times().digest(), few.digest());
        Music typed = new Music();
        for (int call = 1; call <= 511; call++) {
            Check.equal("type(" + call % 128 + ")", typed.type(call % 128), call);
        }
        Check.equal("the 512th call, type(0)", typed.type(0), 512);
    }

    private static Music called511Times() {
        Music music = Made.bars(1);
        for (int call = 2; call <= 511; call++) {
            music.set(0, 3, tempoOfCall(call));
        }
        Check.equal("the calls ahead of the 512th", music.calls(), 511);
        return music;
    }

    private static int tempoOfCall(int call) {
        return 20 + call % 281;
    }

    private static void newObject() {
        Made.rich();
        Music music = new Music();
        for (int what = 0; what <= 8; what++) {
            Check.equal("whole(" + what + ")", music.whole(what), 0);
        }
        Check.equal("fault() of the empty text", music.fault(), 0);
        Check.equal("clearText() of the empty text", music.clearText(), 0);
        Check.equal("order(0)", music.order(0), Music.NONE);
        Check.equal("seconds(1)", music.seconds(1), 0.0f);
        Check.equal("placeAt(0)", music.placeAt(0), Music.NONE);
        Check.refusedPlace("measure(0, 0)", Music::new, fresh -> fresh.measure(0, 0));
        Check.refusedState("cut(1) of the empty text", Music::new, fresh -> fresh.cut(1));
        Check.refusedState("undo() of the empty stack", Music::new, Music::undo);
    }

    // ---- promise 2: addMeasure

    private static void sixteenMeasures() {
        Music music = Made.bars(16);
        Check.equal("whole(0)", music.whole(0), 16);
        for (int measure = 0; measure < 16; measure++) {
            Check.equal("set(" + measure + ", 3, ..)", music.set(measure, 3, 100 + measure), 120);
        }
        for (int measure = 0; measure < 16; measure++) {
            Check.equal("measure(" + measure + ", 3)", music.measure(measure, 3), 100 + measure);
        }
        Check.refusedPlace("measure(16, 0) of 16", Made::wide, wide -> wide.measure(16, 0));
        Check.refusedPlace("measure(-1, 0) of 16", Made::wide, wide -> wide.measure(-1, 0));
        Check.refusedPlace("measure(15, 0) of 15", () -> Made.bars(15), fewer -> fewer.measure(15, 0));
    }

    private static void addedBehindAll() {
        Music music = Made.bars(14);
        for (int measure = 0; measure < 14; measure++) {
            music.set(measure, 3, 100 + measure);
            music.addRest(measure, measure % 2, measure % 10);
        }
        for (int added = 14; added <= 15; added++) {
            music.addMeasure();
            Check.equal("whole(0)", music.whole(0), added + 1);
            Check.equal("tempo of the added one", music.measure(added, 3), 113);
            for (int measure = 0; measure < 14; measure++) {
                Check.equal("tempo of " + measure, music.measure(measure, 3), 100 + measure);
                Check.equal("events of " + measure, music.measure(measure, 8 + measure % 2), 1);
                Check.equal("rest of " + measure, music.event(measure, measure % 2, 0, 2), measure % 10);
            }
        }
    }

    private static void addMeasureReturns() {
        Music music = new Music();
        for (int number = 0; number < 16; number++) {
            Check.equal("addMeasure()", music.addMeasure(), number);
        }
        music.removeMeasure(0);
        Check.equal("addMeasure() behind a removal", music.addMeasure(), 15);
        for (int left = 15; left >= 0; left--) {
            music.removeMeasure(left);
        }
        Check.equal("addMeasure() behind the removal of all", music.addMeasure(), 0);
    }

    private static void seventeenthMeasure() {
        Check.equal("addMeasure() of 15", Made.bars(15).addMeasure(), 15);
        Check.refusedState("addMeasure() of 16", Made::wide, Music::addMeasure);
        Check.refusedState("addMeasure() of 16 that were just added", () -> Made.bars(16), Music::addMeasure);
        Music removed = Made.wide();
        removed.removeMeasure(15);
        Check.equal("addMeasure() behind a removal", removed.addMeasure(), 15);
        Check.badState("addMeasure() of 16 again", removed::addMeasure);
        Music undone = Made.wide();
        undone.removeMeasure(0);
        undone.undo();
        Check.badState("addMeasure() behind an undone removal", undone::addMeasure);
    }

    private static void newMeasureTakesOver() {
        int[][] sets = {{-7, 1, 2, 20}, {7, 12, 16, 300}, {-1, 3, 8, 119}, {1, 4, 4, 121}};
        for (int[] values : sets) {
            Music music = Made.bars(15);
            for (int what = 0; what < 4; what++) {
                music.set(14, what, values[what]);
            }
            music.addMeasure();
            for (int what = 0; what < 4; what++) {
                Check.equal("value " + what + " of the new one", music.measure(15, what), values[what]);
            }
            Music removed = Made.bars(3);
            for (int what = 0; what < 4; what++) {
                removed.set(0, what, values[what]);
            }
            removed.removeMeasure(2);
            removed.removeMeasure(1);
            removed.addMeasure();
            for (int what = 0; what < 4; what++) {
                Check.equal("value " + what + " behind a removal", removed.measure(1, what), values[what]);
            }
        }
        Music later = Made.bars(2);
        later.set(0, 0, 5);
        Check.equal("a later change of the one before", later.measure(1, 0), 0);
    }

    private static void firstMeasure() {
        int[] due = {0, 4, 4, 120};
        Music removed = Made.rich();
        for (int left = 2; left >= 0; left--) {
            removed.set(left, 0, 7);
            removed.set(left, 1, 12);
            removed.set(left, 2, 16);
            removed.set(left, 3, 300);
            removed.removeMeasure(left);
        }
        removed.addMeasure();
        Music fresh = Made.bars(1);
        Music undone = Made.bars(1);
        undone.set(0, 3, 20);
        undone.undo();
        undone.undo();
        undone.addMeasure();
        for (int what = 0; what < 4; what++) {
            Check.equal("value " + what + " of the very first", fresh.measure(0, what), due[what]);
            Check.equal("value " + what + " of the first behind the removal of all", removed.measure(0, what), due[what]);
            Check.equal("value " + what + " of the first behind undo()", undone.measure(0, what), due[what]);
        }
    }

    /** The new measure follows one that has all that it must not take over, and takes the place of another such one. */
    private static void newMeasureIsEmpty() {
        Music music = Made.longest();
        music.removeMeasure(14);
        Check.equal("the measure before opens", music.measure(14, 4), 1);
        music.addMeasure();
        isEmpty("behind a full measure", music, 15);
        Music inPlace = Made.longest();
        inPlace.removeMeasure(15);
        inPlace.addMeasure();
        isEmpty("in the place of a removed one", inPlace, 15);
        Music undone = Made.bars(1);
        undone.addMeasure();
        undone.addNote(1, 0, 30, 1, 4, true);
        undone.set(1, 6, 4);
        undone.undo();
        undone.undo();
        undone.undo();
        undone.addMeasure();
        isEmpty("in the place of an undone one", undone, 1);
        isEmpty("as the very first", Made.bars(1), 0);
    }

    private static void isEmpty(String where, Music music, int measure) {
        for (int what : new int[] {4, 5, 6, 8, 9, 10, 11}) {
            Check.equal("value " + what + " of the new measure " + where, music.measure(measure, what), 0);
        }
        for (int voice = 0; voice < 2; voice++) {
            int asked = voice;
            Check.equal("eventAt(.., 0) of the new measure " + where, music.eventAt(measure, voice, 0), Music.NONE);
            Check.noPlace("event 0 of the new measure " + where, () -> music.event(measure, asked, 0, 2));
        }
    }

    private static void undoneAddMeasure() {
        Check.undoable("addMeasure() of none", Music::new, Music::addMeasure);
        Check.undoable("addMeasure() of 1", Made::young, Music::addMeasure);
        Check.undoable("addMeasure() of 3", Made::rich, Music::addMeasure);
        Check.undoable("addMeasure() of 15", () -> Made.bars(15), Music::addMeasure);
    }

    // ---- promise 3: removeMeasure

    private static void removedMeasure() {
        for (int removed = 0; removed < 16; removed++) {
            Music music = Made.wide();
            music.removeMeasure(removed);
            Check.equal("whole(0)", music.whole(0), 15);
            for (int measure = 0; measure < 15; measure++) {
                int before = measure < removed ? measure : measure + 1;
                Check.equal("tempo of " + measure + " without " + removed, music.measure(measure, 3), 100 + before);
                Check.equal("events of " + measure, music.measure(measure, 8 + before % 2), 1);
                Check.equal("events of the other voice", music.measure(measure, 9 - before % 2), 0);
                Check.equal("pitch in " + measure, music.event(measure, before % 2, 0, 0), 30 + before);
            }
            Check.noPlace("measure(15, 0) behind it", () -> music.measure(15, 0));
        }
        Music one = Made.young();
        one.removeMeasure(0);
        Check.equal("whole(0) without the only one", one.whole(0), 0);
    }

    private static void removeMeasureReturns() {
        Music fromFront = Made.bars(16);
        Music fromEnd = Made.bars(16);
        for (int left = 15; left >= 0; left--) {
            Check.equal("removeMeasure(0)", fromFront.removeMeasure(0), left);
            Check.equal("removeMeasure(" + left + ")", fromEnd.removeMeasure(left), left);
        }
    }

    private static void removeNoMeasure() {
        Check.refusesMeasures("removeMeasure()", Music::removeMeasure);
    }

    private static void undoneRemoveMeasure() {
        Check.undoable("removeMeasure(0) of 1", Made::young, music -> music.removeMeasure(0));
        for (int measure = 0; measure < 3; measure++) {
            int removed = measure;
            Check.undoable("removeMeasure(" + measure + ") of 3", Made::rich, music -> music.removeMeasure(removed));
        }
        for (int measure : new int[] {0, 7, 14, 15}) {
            Check.undoable("removeMeasure(" + measure + ") of 16", Made::wide, music -> music.removeMeasure(measure));
        }
    }
}

/** Promises 27 to 31: what-if questions, undo and the digest. */
final class WhatIfTest {
    public static void main(String[] args) {
        changedBy();
        changedByTies();
        nearestKey();
        needlessSigns();
        undo();
        undoCounts();
        undoOfNothing();
        digest();
        Check.end();
    }

    private static void changedBy() {
        Music bars = Made.bars(1);
        for (int step = 0; step < 7; step++) {
            bars.addNote(0, 0, 28 + step, 0, 4, false);
        }
        bars.addRest(0, 0, 4);
        for (int key = -7; key <= 7; key++) {
            Check.equal("changedBy(0, " + key + ")", bars.changedBy(0, key), Math.abs(key));
        }
        bars.set(0, 0, 3);
        Check.equal("changedBy() from 3 to 3", bars.changedBy(0, 3), 0);
        Check.equal("changedBy() from 3 to -2", bars.changedBy(0, -2), 5);
        Check.equal("changedBy() from 3 to -7", bars.changedBy(0, -7), 7);
        Check.equal("changedBy() from 3 to 5", bars.changedBy(0, 5), 2);
        Check.equal("the key behind it", bars.measure(0, 0), 3);
        Check.noPlace("changedBy(1, 8)", () -> bars.changedBy(1, 8));
        Check.noPlace("changedBy(-1, 0)", () -> bars.changedBy(-1, 0));
        Check.badValue("changedBy(0, 8)", () -> bars.changedBy(0, 8));
        Check.badValue("changedBy(0, -8)", () -> bars.changedBy(0, -8));
    }

    /** f4 (31) in both voices: signs, notes behind them and notes tied to them do not change; ties take a change on. */
    private static void changedByTies() {
        Music bars = Made.bars(3);
        bars.addNote(0, 0, 31, 0, 0, true);
        bars.addNote(1, 0, 31, 0, 2, true);
        bars.addNote(1, 0, 31, 0, 2, false);
        bars.addNote(1, 0, 31, 0, 2, true);
        bars.addNote(1, 0, 31, 0, 2, false);
        bars.addNote(1, 0, 38, 1, 2, false);
        bars.addNote(1, 0, 38, 0, 2, true);
        bars.addNote(2, 0, 38, 0, 2, false);
        bars.addNote(1, 1, 31, 0, 2, true);
        bars.addNote(2, 1, 31, 0, 2, false);
        Check.equal("changedBy(0, 1)", bars.changedBy(0, 1), 1);
        Check.equal("changedBy(1, 1)", bars.changedBy(1, 1), 3);
        Check.equal("changedBy(2, 1)", bars.changedBy(2, 1), 0);
        bars.set(0, 0, 1);
        Check.equal("changedBy(1, 1) with a tie from another key", bars.changedBy(1, 1), 3);
        Check.equal("nearestKey(1)", bars.nearestKey(1), -6);
        bars.set(1, 0, 1);
        Check.equal("changedBy(1, 0) from 1", bars.changedBy(1, 0), 3);
        Music tied = Made.bars(2);
        tied.addNote(0, 0, 31, 2, 0, true);
        tied.addNote(1, 0, 31, 0, 2, true);
        tied.addNote(1, 0, 31, 0, 2, false);
        tied.addNote(1, 0, 31, 0, 2, false);
        Check.equal("changedBy(1, 1) behind ties from a flat", tied.changedBy(1, 1), 1);
        Check.equal("changedBy(1, 0) behind ties from a flat", tied.changedBy(1, 0), 0);
    }

    private static void nearestKey() {
        Music bars = Made.bars(1);
        Check.equal("nearestKey() without notes", bars.nearestKey(0), -7);
        bars.set(0, 0, -7);
        Check.equal("nearestKey() from -7 without notes", bars.nearestKey(0), -6);
        bars.set(0, 0, 0);
        for (int step = 0; step < 7; step++) {
            bars.addNote(0, 1, 28 + step, 0, 4, false);
        }
        for (int key = -7; key <= 7; key++) {
            bars.set(0, 0, key);
            Check.equal("nearestKey() from " + key, bars.nearestKey(0), key == -7 ? -6 : key - 1);
        }
        bars.set(0, 0, 0);
        bars.removeEvent(0, 1, 6);
        bars.removeEvent(0, 1, 3);
        Check.equal("nearestKey() without f and b", bars.nearestKey(0), -1);
        bars.addNote(0, 1, 34, 0, 4, false);
        Check.equal("nearestKey() without f", bars.nearestKey(0), 1);
        Music sharps = Made.bars(1);
        sharps.set(0, 0, 6);
        sharps.addNote(0, 0, 30, 0, 4, false);
        Check.equal("nearestKey() from 6 with e alone", sharps.nearestKey(0), 7);
        Check.noPlace("nearestKey(1)", () -> bars.nearestKey(1));
        Check.noPlace("nearestKey(-1)", () -> bars.nearestKey(-1));
    }

    private static void needlessSigns() {
        Music bars = Made.bars(2);
        bars.set(0, 0, 1);
        bars.addNote(0, 0, 31, 1, 4, false);
        Check.equal("a sharp of the key", bars.needlessSigns(0), 1);
        bars.addNote(0, 0, 31, 3, 4, false);
        Check.equal("a natural behind a sharp", bars.needlessSigns(0), 1);
        bars.addNote(0, 0, 31, 3, 4, false);
        Check.equal("a natural behind a natural", bars.needlessSigns(0), 2);
        bars.addNote(0, 0, 31, 1, 4, true);
        Check.equal("a sharp behind a natural", bars.needlessSigns(0), 2);
        bars.addNote(0, 0, 31, 1, 4, true);
        Check.equal("a sharp tied to a sharp", bars.needlessSigns(0), 3);
        bars.addNote(0, 0, 31, 2, 4, true);
        Check.equal("a flat tied to a sharp", bars.needlessSigns(0), 3);
        bars.addNote(1, 0, 31, 2, 4, false);
        Check.equal("a flat tied to a flat over the bar", bars.needlessSigns(1), 1);
        bars.addNote(1, 0, 28, 3, 4, false);
        bars.addNote(1, 1, 28, 3, 4, false);
        bars.addNote(1, 1, 28, 1, 4, false);
        bars.addNote(1, 1, 29, 0, 4, false);
        bars.addRest(1, 1, 4);
        Check.equal("naturals in two voices", bars.needlessSigns(1), 3);
        Music first = Made.bars(1);
        first.addNote(0, 0, 30, 2, 4, true);
        first.addNote(0, 0, 30, 2, 4, false);
        Check.equal("a flat tied to the first flat", first.needlessSigns(0), 1);
        Check.noPlace("needlessSigns(2)", () -> bars.needlessSigns(2));
        Check.noPlace("needlessSigns(-1)", () -> bars.needlessSigns(-1));
    }

    /** Each undoable call is taken back, also one that changes nothing. */
    private static void undo() {
        Music bars = Made.bars(3);
        bars.addRest(1, 0, 4);
        Check.typeText(bars, "bar 1 key 2 sharp voice 1 c 4 half end");
        Runnable[] calls = {bars::addMeasure, () -> bars.removeMeasure(0), () -> bars.set(2, 0, 5), () -> bars.set(2, 0, 0),
            () -> bars.addNote(0, 1, 30, 1, 3, true), () -> bars.addRest(1, 0, 4), () -> bars.removeEvent(1, 0, 0),
            () -> bars.readInto(2), () -> bars.readInto(1)};
        for (int call = 0; call < calls.length; call++) {
            bars.set(0, 3, 100);
            bars.set(0, 3, 100);
            bars.set(0, 3, 100);
            Check.equal("states left", bars.undo(), 3);
            long digest = bars.digest();
            calls[call].run();
            Check.equal("states left behind call " + call, bars.undo(), 3);
            Check.equal("digest behind the undo of call " + call, bars.digest(), digest);
        }
    }

    private static void undoCounts() {
        Music bars = Made.bars(1);
        for (int tempo = 101; tempo <= 110; tempo++) {
            bars.set(0, 3, tempo);
        }
        for (int left = 3; left >= 0; left--) {
            Check.equal("undo()", bars.undo(), left);
            Check.equal("tempo behind undo()", bars.measure(0, 3), 106 + left);
        }
        Check.badState("undo() of the fifth", bars::undo);
        Check.equal("tempo behind it", bars.measure(0, 3), 106);
        bars.set(0, 3, 20);
        bars.removeMeasure(0);
        Check.equal("undo() of a removal", bars.undo(), 1);
        Check.equal("tempo of the measure that is back", bars.measure(0, 3), 20);
        Check.equal("undo() of a value", bars.undo(), 0);
        Check.equal("tempo that is back", bars.measure(0, 3), 106);
        Music fresh = new Music();
        fresh.addMeasure();
        Check.equal("undo() of the first measure", fresh.undo(), 0);
        Check.equal("measures behind it", fresh.whole(0), 0);
    }

    /** What throws, what reads a fault, what asks and what changes the text saves nothing. */
    private static void undoOfNothing() {
        Music bars = Made.bars(1);
        bars.undo();
        Check.noPlace("set(0, 0, 0)", () -> bars.set(0, 0, 0));
        Check.badState("undo() behind what threw", bars::undo);
        bars.addMeasure();
        Check.badValue("set(0, 0, 8)", () -> bars.set(0, 0, 8));
        Check.noPlace("removeMeasure(1)", () -> bars.removeMeasure(1));
        Check.noPlace("removeEvent(0, 0, 0)", () -> bars.removeEvent(0, 0, 0));
        Check.badValue("addRest(0, 0, 10)", () -> bars.addRest(0, 0, 10));
        Check.equal("readInto() of no text", bars.readInto(0), -2000);
        Check.typeText(bars, "bar 1 end");
        bars.tells(0);
        bars.copySentence(0);
        bars.cut(1);
        bars.digest();
        bars.nearestKey(0);
        bars.changedBy(0, 3);
        Check.equal("undo() behind them", bars.undo(), 0);
        Check.equal("measures behind it", bars.whole(0), 0);
        Check.equal("the text stays", bars.whole(8), 27);
    }

    private static void digest() {
        long fresh = 43179L;
        for (int value = 0; value < 11; value++) {
            fresh *= 31;
        }
        Check.equal("digest() of a new object", new Music().digest(), fresh);
        Check.equal("digest()", digested().digest(), Check.digestOf(WhatIfTest::digested, 4));
        Check.equal("digest() behind undo()", undone(digested()).digest(), Check.digestOf(() -> undone(digested()), 3));
        Check.equal("digest() without a fault", copied(digested()).digest(), Check.digestOf(() -> copied(digested()), 4));
        Music twice = digested();
        Check.equal("digest() again", twice.digest(), twice.digest());
    }

    private static Music digested() {
        Music bars = Made.bars(3);
        bars.set(0, 4, 1);
        bars.set(1, 5, 2);
        bars.addNote(0, 0, 28, 0, 4, true);
        bars.addNote(0, 1, 29, 1, 4, true);
        bars.addRest(1, 1, 4);
        bars.addNote(1, 1, 3, 0, 4, false);
        bars.type(98);
        return bars;
    }

    private static Music undone(Music bars) {
        bars.undo();
        return bars;
    }

    private static Music copied(Music bars) {
        bars.copySentence(0);
        return bars;
    }
}

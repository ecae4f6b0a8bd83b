import java.util.ArrayList;
import java.util.List;
import java.util.function.Supplier;

/** Promises 27 to 29 and 31, sentence by sentence: what stands just inside and just outside of the boundaries. */
final class WhatIfEdgeTest {
    static final List<Edge> EDGES = new ArrayList<>();

    static {
        ofChangedBy();
        ofNearestKey();
        ofNeedlessSigns();
        ofDigest();
    }

    private static void ofChangedBy() {
        EDGES.add(new Edge(27, "Counts the notes of a measure", WhatIfEdgeTest::fewestAndMostChanged));
        EDGES.add(new Edge(27, "(of this one alone)", WhatIfEdgeTest::changedInThisOneAlone));
        EDGES.add(new Edge(27, "that would sound something else if it had another key.", WhatIfEdgeTest::changedSounds));
        EDGES.add(new Edge(27, "key: -7 to 7", WhatIfEdgeTest::keysOfChangedBy));
        EDGES.add(new Edge(27, Edge.RETURNS_NUMBER, WhatIfEdgeTest::changedByChangesNothing));
        EDGES.add(new Edge(27, Edge.NO_MEASURE,
                () -> Check.refusesMeasures("changedBy()", (music, measure) -> music.changedBy(measure, 1))));
        EDGES.add(new Edge(27, "Throws IllegalArgumentException if key is out of range",
                WhatIfEdgeTest::changedByOutOfRange));
        EDGES.add(new Edge(27, Edge.FIRST_LISTED, WhatIfEdgeTest::changedByFirstListed));
    }

    private static void ofNearestKey() {
        EDGES.add(new Edge(28, "Returns the key, other than that of a measure, with which the fewest of its notes would "
                + "sound something else (see changedBy()).", WhatIfEdgeTest::nearestKeys));
        EDGES.add(new Edge(28, "Returns the key, of several the one with the lowest number.",
                WhatIfEdgeTest::lowestOfSeveral));
        EDGES.add(new Edge(28, Edge.NO_MEASURE, () -> Check.refusesMeasures("nearestKey()", Music::nearestKey)));
    }

    private static void ofNeedlessSigns() {
        EDGES.add(new Edge(29, "Counts the signs of a measure without which its note would sound the same.",
                WhatIfEdgeTest::needlessSigns));
        EDGES.add(new Edge(29, "Returns the number (each sign is looked at alone, with its own note alone).",
                WhatIfEdgeTest::signsAlone));
        EDGES.add(new Edge(29, Edge.NO_MEASURE, () -> Check.refusesMeasures("needlessSigns()", Music::needlessSigns)));
    }

    private static void ofDigest() {
        EDGES.add(new Edge(31, "Returns a hash of the state. It starts with h = 43179.", WhatIfEdgeTest::digestOfNothing));
        EDGES.add(new Edge(31, "For each of the following values v, in this order, h becomes 31 * h + v (long arithmetic, "
                + "overflow wraps).", WhatIfEdgeTest::digestsThatWrap));
        EDGES.add(new Edge(31, "the number of states on the undo stack;", WhatIfEdgeTest::digestsOfStates));
        EDGES.add(new Edge(31, "whole() of 0 to 8; for each measure measure() of 0 to 11, for each of its events, those of "
                + "voice 0 first, event() of 0 to 9, then crossings(), timesPlayed(), and the bytes of its sentence; for "
                + "each place of the order its measure;", WhatIfEdgeTest::digestsOfMusic));
        EDGES.add(new Edge(31, "fault().", WhatIfEdgeTest::digestsOfFaults));
        EDGES.add(new Edge(31, "Returns the hash.", WhatIfEdgeTest::digestChangesNothing));
    }

    public static void main(String[] args) {
        Check.run(EDGES);
    }

    private static int[] note(int pitch, int sign, boolean tied) {
        return new int[] {pitch, sign, 4, tied ? 1 : 0};
    }

    private static final int[] REST = {4};

    private static Music measure(int key, int[]... events) {
        Music music = Made.bars(1);
        music.set(0, 0, key);
        Made.add(music, 0, 0, events);
        return music;
    }

    /** One measure with a note of each step. */
    private static Music allSteps(int key) {
        Music music = measure(key);
        for (int step = 0; step < 7; step++) {
            music.addNote(0, step % 2, 28 + step, 0, 4, false);
        }
        return music;
    }

    /** One measure with as many notes as there can be, all of one pitch. */
    private static Music alike(int key, int pitch) {
        Music music = measure(key);
        for (int count = 0; count < 48; count++) {
            music.addNote(0, count % 2, pitch, 0, 4, false);
        }
        return music;
    }

    // ---- promise 27: changedBy

    private static void fewestAndMostChanged() {
        Check.equal("changedBy() of no events", Made.young().changedBy(0, 7), 0);
        Check.equal("changedBy() of rests", Made.rests(24, 24).changedBy(0, 7), 0);
        Music full = Made.bars(16);
        for (int event = 0; event < 24; event++) {
            full.addNote(15, 0, 31, 0, 4, false);
            full.addNote(15, 1, 24, 0, 4, false);
        }
        Check.equal("changedBy() of 48 notes", full.changedBy(15, 1), 48);
        Check.equal("changedBy() of 48 notes that stay", full.changedBy(15, -6), 0);
        Check.equal("changedBy() of 48 notes down", full.changedBy(15, -7), 48);
        full.removeEvent(15, 0, 23);
        full.addRest(15, 0, 4);
        Check.equal("changedBy() of 47 notes and a rest", full.changedBy(15, 7), 47);
        Music tied = Made.full();
        Check.equal("changedBy() of tied notes and others", tied.changedBy(0, 2), 48);
        Check.equal("changedBy() of notes tied to the measure before", tied.changedBy(15, 2), 24);
    }

    private static void changedInThisOneAlone() {
        Music music = Made.bars(3);
        for (int measure = 0; measure < 3; measure++) {
            Made.add(music, measure, 0, note(31, 0, true));
            Made.add(music, measure, 1, note(31, 0, false), note(31, 0, false));
        }
        Check.equal("changedBy() of the first", music.changedBy(0, 1), 3);
        Check.equal("changedBy() of one tied to the one before", music.changedBy(1, 1), 2);
        Check.equal("changedBy() of the last", music.changedBy(2, -7), 2);
        music.set(0, 0, 1);
        Check.equal("changedBy() of the first, back", music.changedBy(0, 0), 3);
        Check.equal("changedBy() of the next to the same key as the first", music.changedBy(1, 1), 2);
        Music open = Made.bars(2);
        Made.add(open, 0, 0, note(31, 1, false));
        Made.add(open, 1, 0, note(31, 0, false));
        Check.equal("a sign before the bar does not hold", open.changedBy(1, 1), 1);
    }

    private static void changedSounds() {
        Check.equal("no sign", measure(0, note(31, 0, false)).changedBy(0, 1), 1);
        Check.equal("another step", measure(0, note(30, 0, false)).changedBy(0, 1), 0);
        for (int sign = 1; sign <= 3; sign++) {
            Check.equal("sign " + sign, measure(0, note(31, sign, false)).changedBy(0, 1), 0);
            Check.equal("behind sign " + sign, measure(0, note(31, sign, false), REST, note(31, 0, false)).changedBy(0, 1),
                    0);
            Check.equal("tied to sign " + sign, measure(0, note(31, sign, true), note(31, 0, false)).changedBy(0, -7), 0);
            Check.equal("ahead of sign " + sign, measure(0, note(31, 0, false), note(31, sign, false)).changedBy(0, 1), 1);
        }
        Check.equal("tied to one that changes", measure(0, note(31, 0, true), note(31, 0, true),
                note(31, 0, false)).changedBy(0, 1), 3);
        Check.equal("another octave behind a sign", measure(0, note(31, 1, false), note(38, 0, false)).changedBy(0, 1), 1);
        Check.equal("from sharp to flat", measure(7, note(31, 0, false)).changedBy(0, -7), 1);
        Check.equal("from sharp to sharp", measure(7, note(31, 0, false)).changedBy(0, 1), 0);
        Check.equal("its own key", measure(7, note(31, 0, false)).changedBy(0, 7), 0);
        Music byTie = Made.bars(2);
        byTie.set(0, 0, 1);
        Made.add(byTie, 0, 0, note(31, 0, true));
        Made.add(byTie, 1, 0, note(31, 0, true), note(31, 0, false), note(31, 0, false));
        Check.equal("the third, behind two that are tied over the bar", byTie.changedBy(1, 1), 1);
    }

    private static void keysOfChangedBy() {
        for (int own = -7; own <= 7; own++) {
            for (int key = -7; key <= 7; key++) {
                Check.equal("changedBy(0, " + key + ") of all steps in " + own, allSteps(own).changedBy(0, key),
                        due(own, key));
            }
        }
        Check.refusedValue("changedBy(0, 8)", Made::rich, music -> music.changedBy(0, 8));
        Check.refusedValue("changedBy(0, -8)", Made::rich, music -> music.changedBy(0, -8));
    }

    /** How many of the seven steps have another shift. */
    private static int due(int own, int key) {
        int number = 0;
        for (int place = 0; place < 7; place++) {
            number += shift(own, place) != shift(key, place) ? 1 : 0;
        }
        return number;
    }

    /** The shift of the step at a place of 3, 0, 4, 1, 5, 2, 6, which backwards is the order of the flats. */
    private static int shift(int key, int place) {
        return key > place ? 1 : -key > 6 - place ? -1 : 0;
    }

    private static void changedByChangesNothing() {
        Check.equal("changedBy(2, 7) of a rest", Made.rich().changedBy(2, 7), 0);
        Check.equal("changedBy(0, -7) of signs and ties", Made.rich().changedBy(0, -7), 0);
        for (int key : new int[] {-7, 0, 7}) {
            Check.savesNothing("changedBy()", Made::rich, music -> music.changedBy(1, key));
            Music asked = Made.rich();
            asked.changedBy(1, key);
            Check.equal("the key behind it", asked.measure(1, 0), 0);
        }
    }

    private static void changedByOutOfRange() {
        for (int key : new int[] {-8, 8, Integer.MIN_VALUE, Integer.MAX_VALUE}) {
            Check.refusedValue("changedBy(0, " + key + ")", Made::young, music -> music.changedBy(0, key));
            Check.refusedValue("changedBy(2, " + key + ")", Made::rich, music -> music.changedBy(2, key));
        }
    }

    private static void changedByFirstListed() {
        Check.refusedPlace("changedBy(0, 8) without measures", Music::new, music -> music.changedBy(0, 8));
        Check.refusedPlace("changedBy(3, -8)", Made::rich, music -> music.changedBy(3, -8));
        Check.refusedPlace("changedBy(-1, 8)", Made::rich, music -> music.changedBy(-1, 8));
    }

    // ---- promise 28: nearestKey

    private static void nearestKeys() {
        for (int key = -7; key <= 7; key++) {
            Check.equal("nearestKey() of all steps in " + key, allSteps(key).nearestKey(0), key == -7 ? -6 : key - 1);
        }
        Check.equal("the highest key of all", measure(6, note(30, 0, false)).nearestKey(0), 7);
        Check.equal("the lowest key of all", measure(-6, note(28, 0, false)).nearestKey(0), -7);
        Check.equal("b stays in the sharp keys to 6", measure(0, note(34, 0, false)).nearestKey(0), 1);
        Check.equal("f stays in the flat keys to -6", measure(0, note(31, 0, false)).nearestKey(0), -6);
        Check.equal("f and b change in all keys", measure(0, note(31, 0, false), note(34, 0, false)).nearestKey(0), -6);
        Check.equal("f sharp by the key, and c", measure(1, note(31, 0, false), note(28, 0, false)).nearestKey(0), -5);
        Check.equal("f sharp by the key, twice, and c",
                measure(1, note(31, 0, false), note(31, 0, false), note(28, 0, false)).nearestKey(0), 2);
        Check.equal("48 notes b, all of which change in any other key", alike(7, 34).nearestKey(0), -7);
        Check.equal("48 notes f, all of which change in any other key", alike(-7, 31).nearestKey(0), -6);
        Music otherMeasure = Made.bars(2);
        Made.add(otherMeasure, 0, 0, note(34, 0, false));
        Check.equal("the notes of another measure", otherMeasure.nearestKey(1), -7);
    }

    private static void lowestOfSeveral() {
        Check.equal("no notes, in the key 0", Made.young().nearestKey(0), -7);
        Check.equal("no notes, in the key 7", measure(7).nearestKey(0), -7);
        Check.equal("no notes, in the key -6", measure(-6).nearestKey(0), -7);
        Check.equal("no notes, in the key -7", measure(-7).nearestKey(0), -6);
        Check.equal("rests, in the key -7", measure(-7, REST, REST).nearestKey(0), -6);
        Check.equal("signs, in the key -7", measure(-7, note(31, 1, false), note(31, 0, false)).nearestKey(0), -6);
        Check.equal("-1 and 1 change one of seven each", allSteps(0).nearestKey(0), -1);
        Check.equal("b and e, of several from 1 to 5", measure(0, note(34, 0, false), note(30, 0, false)).nearestKey(0), 1);
        Check.savesNothing("nearestKey()", Made::rich, music -> music.nearestKey(0));
        Music asked = measure(3, note(31, 0, false));
        Check.equal("nearestKey()", asked.nearestKey(0), 1);
        Check.equal("nearestKey() again", asked.nearestKey(0), 1);
        Check.equal("the key behind it", asked.measure(0, 0), 3);
    }

    // ---- promise 29: needlessSigns

    private static void needless(String what, int due, Music music, int measure) {
        Check.equal("needlessSigns(): " + what, music.needlessSigns(measure), due);
    }

    private static void needlessSigns() {
        needless("no events", 0, Made.young(), 0);
        needless("rests", 0, Made.rests(24, 24), 0);
        needless("no signs", 0, measure(7, note(31, 0, false), note(28, 0, true)), 0);
        for (int key = -7; key <= 7; key++) {
            for (int sign = 1; sign <= 3; sign++) {
                int shift = shift(key, 0);
                boolean same = shift == new int[] {0, 1, -1, 0}[sign];
                needless("sign " + sign + " of f in key " + key, same ? 1 : 0, measure(key, note(31, sign, false)), 0);
            }
        }
        for (int sign = 1; sign <= 3; sign++) {
            int natural = sign == 3 ? 1 : 0;
            needless("sign " + sign + " behind the same", 1 + natural, measure(0, note(30, sign, false),
                    note(30, sign, false)), 0);
            needless("sign " + sign + " tied to the same", 1 + natural, measure(0, note(30, sign, true),
                    note(30, sign, false)), 0);
            needless("sign " + sign + " behind a natural", 1 + natural, measure(0, note(30, 3, false),
                    note(30, sign, false)), 0);
            Music overBar = Made.bars(2);
            Made.add(overBar, 0, 0, note(30, sign, true));
            Made.add(overBar, 1, 0, note(30, sign, false));
            needless("sign " + sign + " tied to the same over the bar", 1, overBar, 1);
            needless("sign " + sign + " before the bar", natural, overBar, 0);
        }
        needless("a sharp of another octave ahead", 0, measure(0, note(30, 1, false), note(37, 1, false)), 0);
        needless("a natural behind a sharp", 0, measure(0, note(30, 1, false), note(30, 3, false)), 0);
        needless("a natural tied to a natural by the key", 1, measure(0, note(30, 0, true), note(30, 3, false)), 0);
        needless("a natural behind a sharp by the key", 0, measure(1, note(31, 0, true), note(31, 3, false)), 0);
    }

    private static void signsAlone() {
        needless("two sharps of the key", 2, measure(1, note(31, 1, false), note(31, 1, false)), 0);
        needless("two sharps against the key", 1, measure(0, note(31, 1, false), note(31, 1, false)), 0);
        needless("three sharps against the key", 2, measure(0, note(31, 1, false), note(31, 1, false), note(31, 1, false)),
                0);
        Music later = Made.bars(2);
        Made.add(later, 0, 0, note(31, 1, true));
        Made.add(later, 1, 0, note(31, 1, false), note(31, 0, false));
        needless("a sign without which a later note would change", 1, later, 1);
        Music most = Made.bars(16);
        for (int event = 0; event < 24; event++) {
            most.addNote(15, 0, 30, 3, 4, false);
            most.addNote(15, 1, 30, 1, 4, true);
        }
        needless("47 of 48 signs", 47, most, 15);
        needless("none of the measure before", 0, most, 14);
        most.removeEvent(15, 0, 0);
        needless("46 of 47 signs", 46, most, 15);
        Check.savesNothing("needlessSigns()", Made::rich, music -> music.needlessSigns(0));
        Check.equal("needlessSigns() of rich music", Made.rich().needlessSigns(0), 0);
    }

    // ---- promise 31: digest

    private static void digestOfNothing() {
        long due = 43179L;
        for (int value = 0; value < 11; value++) {
            due = 31 * due;
        }
        Check.equal("digest() of a new object", new Music().digest(), due);
        Check.equal("digest() by its parts", Check.digestOf(Music::new, 0), due);
    }

    private static void digestsThatWrap() {
        for (Supplier<Music> maker : Made.ALL) {
            int states = maker.get().whole(0) == 0 ? 0 : maker.get().whole(0) == 1 ? 1 : 4;
            Check.equal("digest()", maker.get().digest(), Check.digestOf(maker, states));
        }
    }

    private static void digestsOfStates() {
        for (int states = 0; states <= 5; states++) {
            int calls = states;
            Supplier<Music> maker = () -> Made.bars(calls);
            Check.equal("digest() of " + states + " saved states", maker.get().digest(),
                    Check.digestOf(maker, Math.min(states, 4)));
        }
        Supplier<Music> undone = () -> {
            Music music = Made.wide();
            music.undo();
            return music;
        };
        Check.equal("digest() of 3 states", undone.get().digest(), Check.digestOf(undone, 3));
        Check.isTrue("the states are a part of the digest", undone.get().digest() != Check.digestOf(undone, 4));
    }

    private static void digestsOfMusic() {
        Check.equal("digest() of the longest sentence", Made.longest().digest(), Check.digestOf(Made::longest, 4));
        Check.equal("digest() of full measures", Made.full().digest(), Check.digestOf(Made::full, 4));
        Supplier<Music> most = () -> Made.repeats("4 4 4 4 4 4 4 4 4 4 4 4 4 4 4 4");
        Check.equal("digest() of the longest order", most.get().digest(), Check.digestOf(most, 4));
        Supplier<Music> crossed = () -> {
            Music music = Made.bars(2);
            Made.add(music, 1, 0, note(28, 2, true), REST, note(62, 1, false));
            Made.add(music, 1, 1, note(29, 0, false), note(0, 2, true));
            return music;
        };
        Check.equal("digest() of crossed voices", crossed.get().digest(), Check.digestOf(crossed, 4));
        Supplier<Music> none = () -> Made.repeats("b c");
        Check.equal("digest() of no places", none.get().digest(), Check.digestOf(none, 4));
    }

    private static void digestsOfFaults() {
        for (String text : new String[] {"", " ", "bar 1 end", "bar 1 en", "bar 1 end x"}) {
            Supplier<Music> maker = () -> Made.text(text);
            Check.equal("digest() with the text \"" + text + "\"", maker.get().digest(), Check.digestOf(maker, 0));
        }
        Supplier<Music> full = () -> Made.longText(600);
        Check.equal("digest() with a full text", full.get().digest(), Check.digestOf(full, 4));
    }

    private static void digestChangesNothing() {
        Music music = Made.rich();
        long digest = music.digest();
        Check.equal("digest() again", music.digest(), digest);
        Check.savesNothing("digest()", Made::rich, Music::digest);
        Check.isTrue("another state has another hash", Made.wide().digest() != digest);
    }
}

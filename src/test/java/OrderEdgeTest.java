import java.util.ArrayList;
import java.util.List;
import java.util.function.Supplier;

/** Repeats and promises 13 to 16, sentence by sentence: what stands just inside and just outside of the boundaries. */
final class OrderEdgeTest {
    static final List<Edge> EDGES = new ArrayList<>();
    private static final int NONE = Music.NONE;

    static {
        ofRepeats();
        ofOrder();
        ofSeconds();
        ofPlaceAt();
    }

    private static void ofRepeats() {
        EDGES.add(new Edge(13, "The order of playing is found like this, with a start (0 at first) and a pass (1 at first), "
                + "from measure 0 on.", OrderEdgeTest::startAndPassAtFirst));
        EDGES.add(new Edge(13, "When a measure is come to from the one before it (not by a jump back):",
                OrderEdgeTest::notByJumpsBack));
        EDGES.add(new Edge(13, "if it opens a repeat,", OrderEdgeTest::openings));
        EDGES.add(new Edge(13, "or it is of no ending and the one with the number before it is of one (played or left out),",
                OrderEdgeTest::behindEndings));
        EDGES.add(new Edge(13, "the start becomes this measure, and the pass becomes 1", OrderEdgeTest::startAndPassAnew));
        EDGES.add(new Edge(13, "(also if it is left out then).", OrderEdgeTest::leftOutOpenings));
        EDGES.add(new Edge(13, "If it is of an ending with another number than the pass, it is left out, and the next "
                + "measure follows.", OrderEdgeTest::leftOutEndings));
        EDGES.add(new Edge(13, "Otherwise it is played.", OrderEdgeTest::played));
        EDGES.add(new Edge(13, "If it closes a repeat then: if the pass is less than its times, the pass increases by 1, "
                + "and the start follows (by a jump back);", OrderEdgeTest::fewerPassesThanTimes));
        EDGES.add(new Edge(13, "otherwise the pass becomes 1, the start becomes the next measure, and that follows.",
                OrderEdgeTest::asManyPassesAsTimes));
        EDGES.add(new Edge(13, "If it closes none, the next measure follows.", OrderEdgeTest::closesNone));
        EDGES.add(new Edge(13, "The order ends behind the last measure.", OrderEdgeTest::endOfTheOrder));
        EDGES.add(new Edge(13, "It has at most 200 places; what would come then is left out.", OrderEdgeTest::mostPlaces));
    }

    private static void ofOrder() {
        EDGES.add(new Edge(13, "Returns the measure at a place of the order.", OrderEdgeTest::firstAndLastPlace));
        EDGES.add(new Edge(13, "place: 0 or more", OrderEdgeTest::nearAndFarPlaces));
        EDGES.add(new Edge(13, "Returns the measure; NONE if the order has not so many places.",
                OrderEdgeTest::behindTheLastPlace));
        EDGES.add(new Edge(13, "Throws IllegalArgumentException if place is negative", OrderEdgeTest::negativePlaces));
        EDGES.add(new Edge(13, Edge.NONE_LAST, () -> Check.refusedValue("order(-1) of no places", Music::new,
                music -> music.order(-1))));
        EDGES.add(new Edge(14, "Returns how often a measure is played.", OrderEdgeTest::playedNeverToFourTimes));
        EDGES.add(new Edge(14, "Returns the number of its places in the order.", OrderEdgeTest::placesOfMeasures));
        EDGES.add(new Edge(14, Edge.NO_MEASURE, () -> Check.refusesMeasures("timesPlayed()", Music::timesPlayed)));
    }

    private static void ofSeconds() {
        EDGES.add(new Edge(15, "Returns how long the order lasts up to a place: a float that is 0.0f at first, and to "
                + "which for each place before this one, in order, (float) (ticks of its measure) * (60.0f / (16.0f * "
                + "(float) (its tempo))) is added.", OrderEdgeTest::secondsOfEachPlace));
        EDGES.add(new Edge(15, "a float that is 0.0f at first", OrderEdgeTest::secondsAtFirst));
        EDGES.add(new Edge(15, "place: 0 or more; places behind the end of the order add nothing",
                OrderEdgeTest::secondsBehindTheEnd));
        EDGES.add(new Edge(15, "Returns the seconds.", OrderEdgeTest::shortestAndLongest));
        EDGES.add(new Edge(15, "Throws IllegalArgumentException if place is negative",
                OrderEdgeTest::secondsOfNegativePlaces));
    }

    private static void ofPlaceAt() {
        EDGES.add(new Edge(16, "Returns the place of the order that is played at a time.", OrderEdgeTest::placesAtTimes));
        EDGES.add(new Edge(16, "seconds: a whole number of seconds, 0 or more", OrderEdgeTest::nearAndFarTimes));
        EDGES.add(new Edge(16, "Returns the last place p for which seconds(p) is at most (float) seconds, below the number "
                + "of places;", OrderEdgeTest::lastPlaceAtMost));
        EDGES.add(new Edge(16, "NONE if the order has no places, or seconds(number of places) is at most (float) seconds.",
                OrderEdgeTest::noPlaceAtTimes));
        EDGES.add(new Edge(16, "Throws IllegalArgumentException if seconds is negative", OrderEdgeTest::negativeTimes));
        EDGES.add(new Edge(16, Edge.NONE_LAST,
                () -> Check.refusedValue("placeAt(-1) of no places", Music::new, music -> music.placeAt(-1))));
    }

    public static void main(String[] args) {
        Check.run(EDGES);
    }

    /** The plan as Made.repeats() reads it. */
    private static void due(String plan, String order) {
        Check.equal("order of \"" + plan + "\"", Check.order(Made.repeats(plan)), order);
    }

    // ---- repeats

    private static void startAndPassAtFirst() {
        due("2", "0 0");
        due("- 2", "0 1 0 1");
        due("- - - - - - - - - - - - - - - 2", "0 1 2 3 4 5 6 7 8 9 10 11 12 13 14 15 0 1 2 3 4 5 6 7 8 9 10 11 12 13 14 "
                + "15");
        due("a", "0");
        due("b", "");
        due("c", "");
        due("d", "");
        due("a2 b", "0 1");
        Check.equal("order of nothing", Check.order(new Music()), "");
    }

    private static void notByJumpsBack() {
        due("o2", "0 0");
        due("o4 -", "0 0 0 0 1");
        due("o- 3 -", "0 1 0 1 0 1 2");
        due("- o- 4", "0 1 2 1 2 1 2 1 2");
        // come to by a jump back, measure 1 is of no ending behind one: the pass stays
        due("a 3", "0 1 1 1");
        due("a - 3 -", "0 1 2 1 2 1 2 3");
        // the same measure, come to from the one before it
        due("o2 o2", "0 0 1 1");
    }

    private static void openings() {
        due("- o2", "0 1 1");
        due("- -2", "0 1 0 1");
        due("- o- - 2", "0 1 2 3 1 2 3");
        due("o- o- 2", "0 1 2 1 2");
        due("- - - - - - - - - - - - - - - o2", "0 1 2 3 4 5 6 7 8 9 10 11 12 13 14 15 15");
        due("o- 2 o- 2", "0 1 0 1 2 3 2 3");
        // an opening ahead of a measure of an ending that is in the way
        due("o- a2 ob a", "0 1 0 3");
    }

    private static void behindEndings() {
        due("a - 2", "0 1 2 1 2");
        due("b - 2", "1 2 1 2");
        due("- d - 2", "0 2 3 2 3");
        due("- a - 2", "0 1 2 3 2 3");
        // of no ending behind one of no ending
        due("- - 2", "0 1 2 0 1 2");
        // of an ending behind one of an ending, and behind one of none
        due("- a a2 b", "0 1 2 0 3");
        due("- a2 b b -", "0 1 0 2 3 4");
        due("- - a2 b", "0 1 2 0 1 3");
        // the one two before is of an ending
        due("a - - 2", "0 1 2 3 1 2 3");
        // the first measure has none before it, not the last one either
        due("- 2 a", "0 1 0 1 2");
        due("2 a", "0 0 1");
    }

    private static void startAndPassAnew() {
        due("o- a2 b - a", "0 1 0 2 3 4");
        due("o- a2 b - b", "0 1 0 2 3");
        due("o- a2 ob b a", "0 1 0 4");
        due("o- a3 b o- a", "0 1 0 2 3 4");
        due("o- a2 b - 3", "0 1 0 2 3 4 3 4 3 4");
        due("o- a2 b o2", "0 1 0 2 3 3");
    }

    private static void leftOutOpenings() {
        due("ob a2 -", "1 0 2");
        due("- ob 2", "0 2 2");
        due("- ob a", "0 2");
        due("- ob a2 b", "0 2 1 3");
        due("o- a2 oc a - 2", "0 1 0 3 4 5 4 5");
    }

    private static void leftOutEndings() {
        due("- a", "0 1");
        due("- b", "0");
        due("- c", "0");
        due("- d", "0");
        due("- a2 b", "0 1 0 2");
        due("- a2 c", "0 1 0");
        due("- a2 d", "0 1 0");
        due("- a3 b3 c", "0 1 0 2 0 3");
        due("- a3 b3 d", "0 1 0 2 0");
        due("- a4 b4 c4 d", "0 1 0 2 0 3 0 4");
        due("- a4 b4 c4 d4", "0 1 0 2 0 3 0 4");
        due("a b c d a b c d a b c d a b c d", "0 4 8 12");
        due("d d d d d d d d d d d d d d d d", "");
        // what is left out closes nothing
        due("- b4 - -", "0 2 3");
        due("- a2 a2", "0 1 0");
    }

    private static void played() {
        due("-", "0");
        due("a", "0");
        due("- a", "0 1");
        due("-2 b", "0 0");
        due("o- 2 a", "0 1 0 1 2");
        due("o- b3 a3 b", "0 2 0 1 0");
        due("- - - - - - - - - - - - - - - -", "0 1 2 3 4 5 6 7 8 9 10 11 12 13 14 15");
    }

    private static void fewerPassesThanTimes() {
        due("2", "0 0");
        due("3", "0 0 0");
        due("4", "0 0 0 0");
        due("- 4", "0 1 0 1 0 1 0 1");
        // the pass is 2 at the second closing: less than 3, not less than 2
        due("- a2 b3 c", "0 1 0 2 0 3");
        due("- a2 b2 c", "0 1 0 2");
        due("- a2 b4 c d", "0 1 0 2 0 3");
        due("- a3 b4 c4 d", "0 1 0 2 0 3 0 4");
    }

    private static void asManyPassesAsTimes() {
        due("2 2", "0 0 1 1");
        due("2 3", "0 0 1 1 1");
        due("4 2 -", "0 0 0 0 1 1 2");
        due("- 2 - 2", "0 1 0 1 2 3 2 3");
        due("- 2 - - 3", "0 1 0 1 2 3 4 2 3 4 2 3 4");
        due("2 a", "0 0 1");
        due("2 b", "0 0");
        due("- a3 b2 c 2", "0 1 0 2 4 4");
        due("- 2 - - - - - - - - - - - - - 2", "0 1 0 1 2 3 4 5 6 7 8 9 10 11 12 13 14 15 2 3 4 5 6 7 8 9 10 11 12 13 14 "
                + "15");
    }

    private static void closesNone() {
        due("o- - -", "0 1 2");
        due("o- o- o-", "0 1 2");
        Music music = Made.repeats("- 2 -");
        music.set(1, 5, 0);
        Check.equal("order without the closing", Check.order(music), "0 1 2");
    }

    private static void endOfTheOrder() {
        due("- 2", "0 1 0 1");
        due("- o-", "0 1");
        due("- b", "0");
        due("- b2", "0");
        Music music = Made.repeats("- 2 -");
        music.removeMeasure(2);
        Check.equal("order without the last measure", Check.order(music), "0 1 0 1");
        music.removeMeasure(0);
        music.removeMeasure(0);
        Check.equal("order without measures", Check.order(music), "");
        music.addMeasure();
        Check.equal("order of a new measure", Check.order(music), "0");
    }

    /** No plan of 16 measures comes near to 200 places: no start is come back to more than three times. */
    private static void mostPlaces() {
        Check.equal("each one four times", Made.repeats("4 4 4 4 4 4 4 4 4 4 4 4 4 4 4 4").whole(6), 64);
        Check.equal("all four times", Made.repeats("- - - - - - - - - - - - - - - 4").whole(6), 64);
        Check.equal("the 64th place", Made.repeats("- - - - - - - - - - - - - - - 4").order(63), 15);
        Check.equal("behind the 64th place", Made.repeats("- - - - - - - - - - - - - - - 4").order(64), NONE);
        Check.equal("behind the 200th place", Made.repeats("4 4 4 4 4 4 4 4 4 4 4 4 4 4 4 4").order(200), NONE);
        long seed = 5;
        String[] letters = {"-", "o", "2", "3", "4", "a", "b", "c", "d", "a2", "b3", "c4", "o4", "oa4", "4", "4"};
        for (int run = 0; run < 300; run++) {
            StringBuilder plan = new StringBuilder();
            for (int measure = 0; measure < 16; measure++) {
                seed = seed * 6364136223846793005L + 1442695040888963407L;
                plan.append(measure > 0 ? " " : "").append(letters[(int) (seed >>> 60)]);
            }
            Check.isTrue("at most 64 places of \"" + plan + "\"", Made.repeats(plan.toString()).whole(6) <= 64);
        }
    }

    // ---- promises 13 and 14: order, timesPlayed

    private static void firstAndLastPlace() {
        Music music = Made.repeats("- - a2 b 2");
        int[] due = {0, 1, 2, 0, 1, 3, 4, 4};
        for (int place = 0; place < due.length; place++) {
            Check.equal("order(" + place + ")", music.order(place), due[place]);
        }
        Check.equal("order(8)", music.order(8), NONE);
        Check.equal("order(15) of 16", Made.wide().order(15), 15);
        Check.equal("order(16) of 16", Made.wide().order(16), NONE);
    }

    private static void nearAndFarPlaces() {
        Check.equal("order(0)", Made.young().order(0), 0);
        Check.equal("order(1)", Made.young().order(1), NONE);
        for (int place : new int[] {199, 200, 201, 1000, Integer.MAX_VALUE}) {
            Check.equal("order(" + place + ")", Made.wide().order(place), NONE);
        }
        Check.refusedValue("order(-1)", Made::wide, music -> music.order(-1));
    }

    private static void behindTheLastPlace() {
        Check.equal("order(0) without measures", new Music().order(0), NONE);
        Check.equal("order(0) if all is left out", Made.repeats("b").order(0), NONE);
        Check.equal("the last place", Made.rich().order(3), 2);
        Check.equal("behind the last place", Made.rich().order(4), NONE);
        Music removed = Made.wide();
        removed.removeMeasure(15);
        Check.equal("the last place behind a removal", removed.order(14), 14);
        Check.equal("the place that is gone", removed.order(15), NONE);
    }

    private static void negativePlaces() {
        for (int place : new int[] {-1, -16, Integer.MIN_VALUE}) {
            Check.refusedValue("order(" + place + ")", Made::rich, music -> music.order(place));
            Check.refusedValue("order(" + place + ")", Made::young, music -> music.order(place));
        }
    }

    private static void playedNeverToFourTimes() {
        Music music = Made.repeats("b 4 3 2 - d a");
        int[] due = {0, 4, 3, 2, 1, 0, 1};
        for (int measure = 0; measure < due.length; measure++) {
            Check.equal("timesPlayed(" + measure + ")", music.timesPlayed(measure), due[measure]);
        }
        music.set(1, 5, 0);
        Check.equal("timesPlayed(1) without the closing", music.timesPlayed(1), 3);
        music.undo();
        Check.equal("timesPlayed(1) behind undo()", music.timesPlayed(1), 4);
    }

    private static void placesOfMeasures() {
        Music music = Made.repeats("- a4 b4 c4 d - 2 - - - - - - - - 4");
        int[] due = {4, 1, 1, 1, 1, 2, 2, 4, 4, 4, 4, 4, 4, 4, 4, 4};
        int places = 0;
        for (int measure = 0; measure < 16; measure++) {
            Check.equal("timesPlayed(" + measure + ")", music.timesPlayed(measure), due[measure]);
            places += due[measure];
        }
        Check.equal("places of the order", music.whole(6), places);
    }

    // ---- promise 15: seconds

    private static float secondsOf(int ticks, int tempo) {
        return (float) ticks * (60.0f / (16.0f * (float) tempo));
    }

    private static void secondsOfEachPlace() {
        for (int tempo = 20; tempo <= 300; tempo++) {
            Music music = Made.repeats("3 - 2");
            music.set(0, 3, tempo);
            music.set(1, 3, 320 - tempo);
            music.set(1, 1, 1 + tempo % 12);
            music.set(2, 3, 20 + tempo * 7 % 281);
            music.set(2, 2, 16);
            music.set(2, 1, 1 + tempo * 5 % 12);
            float[] each = {secondsOf(64, tempo), secondsOf(16 * (1 + tempo % 12), 320 - tempo),
                secondsOf(4 * (1 + tempo * 5 % 12), 20 + tempo * 7 % 281)};
            float due = 0.0f;
            for (int place = 0; place < 7; place++) {
                Check.equal("seconds(" + place + ")", music.seconds(place), due);
                due += each[place < 3 ? 0 : 1 + (place - 3) % 2];
            }
            Check.equal("seconds(7)", music.seconds(7), due);
        }
    }

    private static void secondsAtFirst() {
        Check.equal("seconds(0)", Made.wide().seconds(0), 0.0f);
        Check.equal("seconds(0) without measures", new Music().seconds(0), 0.0f);
        Check.equal("seconds(1) of 4 over 4 at 120", Made.young().seconds(1), 2.0f);
    }

    private static void secondsBehindTheEnd() {
        Check.equal("seconds(1) without measures", new Music().seconds(1), 0.0f);
        Check.equal("seconds() far behind without measures", new Music().seconds(Integer.MAX_VALUE), 0.0f);
        Check.equal("seconds(1) if all is left out", Made.repeats("b").seconds(1), 0.0f);
        Music music = Made.bars(16);
        Check.equal("seconds(15) of 16", music.seconds(15), 30.0f);
        Check.equal("seconds(16) of 16", music.seconds(16), 32.0f);
        for (int place : new int[] {17, 199, 200, 201, Integer.MAX_VALUE}) {
            Check.equal("seconds(" + place + ") of 16", music.seconds(place), 32.0f);
        }
        Music most = Made.repeats("4 4 4 4 4 4 4 4 4 4 4 4 4 4 4 4");
        Check.equal("seconds(63) of 64", most.seconds(63), 126.0f);
        Check.equal("seconds(64) of 64", most.seconds(64), 128.0f);
        Check.equal("seconds(65) of 64", most.seconds(65), 128.0f);
    }

    private static void shortestAndLongest() {
        Music shortest = Made.bars(1);
        shortest.set(0, 1, 1);
        shortest.set(0, 2, 16);
        shortest.set(0, 3, 300);
        Check.equal("seconds of 1 over 16 at 300", shortest.seconds(1), secondsOf(4, 300));
        Music longest = Made.bars(1);
        longest.set(0, 1, 12);
        longest.set(0, 2, 2);
        longest.set(0, 3, 20);
        Check.equal("seconds of 12 over 2 at 20", longest.seconds(1), 72.0f);
    }

    private static void secondsOfNegativePlaces() {
        for (int place : new int[] {-1, -16, Integer.MIN_VALUE}) {
            Check.refusedValue("seconds(" + place + ")", Made::rich, music -> music.seconds(place));
            Check.refusedValue("seconds(" + place + ")", Music::new, music -> music.seconds(place));
        }
    }

    // ---- promise 16: placeAt

    private static void placesAtTimes() {
        Music music = Made.repeats("- 2 -");
        music.set(2, 3, 60);
        // the places last 2, 2, 2, 2 and 4 seconds
        int[] due = {0, 0, 1, 1, 2, 2, 3, 3, 4, 4, 4, 4, NONE, NONE};
        for (int seconds = 0; seconds < due.length; seconds++) {
            Check.equal("placeAt(" + seconds + ")", music.placeAt(seconds), due[seconds]);
        }
    }

    private static void nearAndFarTimes() {
        Check.equal("placeAt(0)", Made.wide().placeAt(0), 0);
        Check.refusedValue("placeAt(-1)", Made::wide, music -> music.placeAt(-1));
        for (int seconds : new int[] {1 << 24, (1 << 24) + 1, Integer.MAX_VALUE}) {
            Check.equal("placeAt(" + seconds + ")", Made.wide().placeAt(seconds), NONE);
        }
    }

    /** Sevenths of five seconds: as floats, seven of them are a little more than 5. */
    private static void lastPlaceAtMost() {
        Music over = sixteenths(16, 21);
        Check.isTrue("seconds(7) is above 5", over.seconds(7) > 5.0f);
        Check.equal("placeAt(5), just below its seventh place", over.placeAt(5), 6);
        Music under = sixteenths(16, 25);
        Check.isTrue("seconds(10) is below 6", under.seconds(10) < 6.0f);
        Check.equal("placeAt(6), just above its tenth place", under.placeAt(6), 10);
        Music exact = Made.bars(16);
        for (int seconds = 0; seconds < 32; seconds++) {
            Check.equal("placeAt(" + seconds + ") of places of 2 seconds", exact.placeAt(seconds), seconds / 2);
        }
        Music quick = sixteenths(16, 300);
        Check.equal("placeAt(0) of places of 0.05 seconds", quick.placeAt(0), 0);
        Check.equal("placeAt(1) of 0.8 seconds", quick.placeAt(1), NONE);
        Music slow = Made.bars(2);
        slow.set(0, 1, 12);
        slow.set(0, 2, 2);
        slow.set(0, 3, 20);
        Check.equal("placeAt(71) of a place of 72 seconds", slow.placeAt(71), 0);
        Check.equal("placeAt(72) of a place of 72 seconds", slow.placeAt(72), 1);
    }

    private static Music sixteenths(int measures, int tempo) {
        Music music = Made.bars(1);
        music.set(0, 1, 1);
        music.set(0, 2, 16);
        music.set(0, 3, tempo);
        for (int measure = 1; measure < measures; measure++) {
            music.addMeasure();
        }
        return music;
    }

    private static void noPlaceAtTimes() {
        for (int seconds : new int[] {0, 1, Integer.MAX_VALUE}) {
            Check.equal("placeAt(" + seconds + ") without measures", new Music().placeAt(seconds), NONE);
            Check.equal("placeAt(" + seconds + ") if all is left out", Made.repeats("b c").placeAt(seconds), NONE);
        }
        Check.equal("placeAt(0) of one place", Made.young().placeAt(0), 0);
        Check.equal("placeAt(1) of one place of 2 seconds", Made.young().placeAt(1), 0);
        Check.equal("placeAt(2) of one place of 2 seconds", Made.young().placeAt(2), NONE);
        Supplier<Music> two = () -> Made.bars(2);
        Check.equal("placeAt(3) of 4 seconds", two.get().placeAt(3), 1);
        Check.equal("placeAt(4) of 4 seconds", two.get().placeAt(4), NONE);
        Check.equal("placeAt(5) of 4 seconds", two.get().placeAt(5), NONE);
        Check.equal("placeAt(5) of a little more than 5", sixteenths(7, 21).placeAt(5), 6);
        Check.equal("placeAt(6) of a little less than 6", sixteenths(10, 25).placeAt(6), NONE);
        Check.equal("placeAt(5) of a little less than 6", sixteenths(10, 25).placeAt(5), 8);
        Music most = Made.repeats("4 4 4 4 4 4 4 4 4 4 4 4 4 4 4 4");
        Check.equal("placeAt(127) of 128 seconds", most.placeAt(127), 63);
        Check.equal("placeAt(128) of 128 seconds", most.placeAt(128), NONE);
    }

    private static void negativeTimes() {
        for (int seconds : new int[] {-1, -2, Integer.MIN_VALUE}) {
            Check.refusedValue("placeAt(" + seconds + ")", Made::rich, music -> music.placeAt(seconds));
        }
        Check.equal("placeAt(0)", Made.rich().placeAt(0), 0);
    }
}

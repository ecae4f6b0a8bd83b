/**
 * SpokenBars as the tests use it: each call is passed on and counted. The document says nothing about an object after
 * its 512th call, so that a test that goes further would ask for what is not promised: it fails.
 */
final class Music {
    static final int NONE = SpokenBars.NONE;
    static final int MOST_CALLS = 512;

    private final SpokenBars bars = new SpokenBars();
    private int calls;

    int calls() {
        return calls;
    }

    private SpokenBars call() {
        calls++;
        if (calls == MOST_CALLS + 1) {
            Check.fail("the test itself calls an object more than 512 times");
        }
        return bars;
    }

    int addMeasure() {
        return call().addMeasure();
    }

    int removeMeasure(int measure) {
        return call().removeMeasure(measure);
    }

    int set(int measure, int what, int value) {
        return call().set(measure, what, value);
    }

    int addNote(int measure, int voice, int pitch, int sign, int duration, boolean tied) {
        return call().addNote(measure, voice, pitch, sign, duration, tied);
    }

    int addRest(int measure, int voice, int duration) {
        return call().addRest(measure, voice, duration);
    }

    int removeEvent(int measure, int voice, int event) {
        return call().removeEvent(measure, voice, event);
    }

    int measure(int measure, int what) {
        return call().measure(measure, what);
    }

    int event(int measure, int voice, int event, int what) {
        return call().event(measure, voice, event, what);
    }

    int eventAt(int measure, int voice, int tick) {
        return call().eventAt(measure, voice, tick);
    }

    int crossings(int measure) {
        return call().crossings(measure);
    }

    int whole(int what) {
        return call().whole(what);
    }

    int order(int place) {
        return call().order(place);
    }

    int timesPlayed(int measure) {
        return call().timesPlayed(measure);
    }

    float seconds(int place) {
        return call().seconds(place);
    }

    int placeAt(int seconds) {
        return call().placeAt(seconds);
    }

    int sentenceLength(int measure) {
        return call().sentenceLength(measure);
    }

    int sentenceByte(int measure, int index) {
        return call().sentenceByte(measure, index);
    }

    int words(int measure) {
        return call().words(measure);
    }

    int copySentence(int measure) {
        return call().copySentence(measure);
    }

    int type(int value) {
        return call().type(value);
    }

    int cut(int many) {
        return call().cut(many);
    }

    int clearText() {
        return call().clearText();
    }

    int fault() {
        return call().fault();
    }

    int readInto(int measure) {
        return call().readInto(measure);
    }

    boolean tells(int measure) {
        return call().tells(measure);
    }

    int changedBy(int measure, int key) {
        return call().changedBy(measure, key);
    }

    int nearestKey(int measure) {
        return call().nearestKey(measure);
    }

    int needlessSigns(int measure) {
        return call().needlessSigns(measure);
    }

    int undo() {
        return call().undo();
    }

    long digest() {
        return call().digest();
    }
}

import java.util.Arrays;

public final class SpokenBars {
    public static final int NONE = -1000;

    private static final int FAULT_BASE = -2000;
    private static final int MEASURE_VALUES = 12;
    private static final int EVENT_VALUES = 10;
    private static final int WHOLE_VALUES = 9;
    private static final long HASH_START = 43179L;

    private final Score score;
    private final History history;
    private final Text text;
    private final Sentence sentence;
    private final Reader reader;
    private final Sounds sounds;
    private final Playing playing;

    public SpokenBars() {
        score = new Score();
        history = new History();
        text = new Text();
        sentence = new Sentence();
        reader = new Reader(text);
        sounds = new Sounds(score);
        playing = new Playing();
    }

    // ---- measures

    public int addMeasure() throws IllegalStateException {
        if (score.isFull()) {
            throw new IllegalStateException("there are 16 measures");
        }
        history.push(score);
        score.appendMeasure();
        settle();
        return score.size() - 1;
    }

    public int removeMeasure(int measure) throws IndexOutOfBoundsException {
        requireMeasure(measure);
        history.push(score);
        score.dropMeasure(measure);
        settle();
        return score.size();
    }

    public int set(int measure, int what, int value) throws IndexOutOfBoundsException, IllegalArgumentException {
        requireMeasure(measure);
        if (!Score.canHold(what, value)) {
            throw new IllegalArgumentException("what or value is out of range");
        }
        history.push(score);
        int previous = score.value(measure, what);
        score.putValue(measure, what, value);
        settle();
        return previous;
    }

    public int addNote(int measure, int voice, int pitch, int sign, int duration, boolean tied)
            throws IndexOutOfBoundsException, IllegalArgumentException, IllegalStateException {
        requireVoice(measure, voice);
        requireRange(pitch, 0, Code.HIGHEST_PITCH);
        requireRange(sign, 0, Code.HIGHEST_SIGN);
        requireRange(duration, 0, Code.HIGHEST_DURATION);
        requireRoom(measure, voice);
        history.push(score);
        score.appendEvent(measure, voice, Code.ofNote(pitch, sign, duration, tied));
        settle();
        return score.count(measure, voice);
    }

    public int addRest(int measure, int voice, int duration)
            throws IndexOutOfBoundsException, IllegalArgumentException, IllegalStateException {
        requireVoice(measure, voice);
        requireRange(duration, 0, Code.HIGHEST_DURATION);
        requireRoom(measure, voice);
        history.push(score);
        score.appendEvent(measure, voice, Code.ofRest(duration));
        settle();
        return score.count(measure, voice);
    }

    public int removeEvent(int measure, int voice, int event) throws IndexOutOfBoundsException {
        requireEvent(measure, voice, event);
        history.push(score);
        score.dropEvent(measure, voice, event);
        settle();
        return score.count(measure, voice);
    }

    // ---- values

    public int measure(int measure, int what) throws IndexOutOfBoundsException, IllegalArgumentException {
        requireMeasure(measure);
        requireRange(what, 0, MEASURE_VALUES - 1);
        switch (what) {
            case 7:
                return score.ticks(measure);
            case 8:
                return score.count(measure, 0);
            case 9:
                return score.count(measure, 1);
            case 10:
                return score.voiceTicks(measure, 0);
            case 11:
                return score.voiceTicks(measure, 1);
            default:
                return score.value(measure, what);
        }
    }

    public int event(int measure, int voice, int event, int what)
            throws IndexOutOfBoundsException, IllegalArgumentException {
        requireEvent(measure, voice, event);
        requireRange(what, 0, EVENT_VALUES - 1);
        int code = score.code(measure, voice, event);
        switch (what) {
            case 2:
                return Code.durationOf(code);
            case 4:
                return Code.ticksOf(code);
            case 5:
                return score.begin(measure, voice, event);
            default:
                return Code.isNote(code) ? noteValue(measure, voice, event, what) : NONE;
        }
    }

    public int eventAt(int measure, int voice, int tick) throws IndexOutOfBoundsException, IllegalArgumentException {
        requireVoice(measure, voice);
        requireNotNegative(tick);
        int end = 0;
        for (int event = 0; event < score.count(measure, voice); event++) {
            end += Code.ticksOf(score.code(measure, voice, event));
            if (tick < end) {
                return event;
            }
        }
        return NONE;
    }

    public int crossings(int measure) throws IndexOutOfBoundsException {
        requireMeasure(measure);
        return sounds.crossedTicks(measure);
    }

    public int whole(int what) throws IllegalArgumentException {
        requireRange(what, 0, WHOLE_VALUES - 1);
        switch (what) {
            case 0:
                return score.size();
            case 5:
                return score.unevenVoices();
            case 6:
                return playing.size();
            case 7:
                return playing.ticks(score);
            case 8:
                return text.length();
            default:
                return eventsOfKind(what);
        }
    }

    // ---- order and length

    public int order(int place) throws IllegalArgumentException {
        requireNotNegative(place);
        return place < playing.size() ? playing.at(place) : NONE;
    }

    public int timesPlayed(int measure) throws IndexOutOfBoundsException {
        requireMeasure(measure);
        return playing.timesOf(measure);
    }

    public float seconds(int place) throws IllegalArgumentException {
        requireNotNegative(place);
        return playing.secondsUpTo(score, place);
    }

    public int placeAt(int seconds) throws IllegalArgumentException {
        requireNotNegative(seconds);
        int place = playing.placesBegunBy(score, (float) seconds) - 1;
        return place >= 0 && place < playing.size() ? place : NONE;
    }

    // ---- sentences

    public int sentenceLength(int measure) throws IndexOutOfBoundsException {
        requireMeasure(measure);
        sentence.tellMeasure(score, measure);
        return sentence.length();
    }

    public int sentenceByte(int measure, int index) throws IndexOutOfBoundsException, IllegalArgumentException {
        requireMeasure(measure);
        requireNotNegative(index);
        sentence.tellMeasure(score, measure);
        return index < sentence.length() ? sentence.at(index) : NONE;
    }

    public int words(int measure) throws IndexOutOfBoundsException {
        requireMeasure(measure);
        sentence.tellMeasure(score, measure);
        return sentence.wordCount();
    }

    public int copySentence(int measure) throws IndexOutOfBoundsException, IllegalStateException {
        requireMeasure(measure);
        sentence.tellMeasure(score, measure);
        if (sentence.length() > Text.MOST) {
            throw new IllegalStateException("the sentence has more than 600 bytes");
        }
        text.shorten(text.length());
        for (int index = 0; index < sentence.length(); index++) {
            text.append(sentence.at(index));
        }
        return text.length();
    }

    public int type(int value) throws IllegalArgumentException, IllegalStateException {
        requireRange(value, 0, 127);
        if (text.length() >= Text.MOST) {
            throw new IllegalStateException("the text has 600 bytes");
        }
        text.append(value);
        return text.length();
    }

    public int cut(int many) throws IllegalArgumentException, IllegalStateException {
        requireRange(many, 1, Text.MOST);
        if (text.length() < many) {
            throw new IllegalStateException("the text has fewer bytes");
        }
        text.shorten(many);
        return text.length();
    }

    public int clearText() {
        int length = text.length();
        text.shorten(length);
        return length;
    }

    public int fault() {
        return reader.findFault();
    }

    public int readInto(int measure) throws IndexOutOfBoundsException {
        requireMeasure(measure);
        int found = reader.findFault();
        if (found != NONE) {
            return FAULT_BASE - found;
        }
        history.push(score);
        score.takeDraft(measure, reader.draft());
        settle();
        return score.count(measure, 0) + score.count(measure, 1);
    }

    public boolean tells(int measure) throws IndexOutOfBoundsException {
        requireMeasure(measure);
        return reader.findFault() == NONE && score.agreesWith(measure, reader.draft());
    }

    // ---- what if, undo and checksum

    public int changedBy(int measure, int key) throws IndexOutOfBoundsException, IllegalArgumentException {
        requireMeasure(measure);
        requireRange(key, -Score.MOST_SIGNS, Score.MOST_SIGNS);
        return sounds.changedWith(measure, key);
    }

    public int nearestKey(int measure) throws IndexOutOfBoundsException {
        requireMeasure(measure);
        int nearest = NONE;
        // One more than there can be notes, as all of them may change in every other key.
        int fewest = Score.VOICES * Score.MOST_EVENTS + 1;
        for (int key = -Score.MOST_SIGNS; key <= Score.MOST_SIGNS; key++) {
            if (key != score.value(measure, Score.KEY)) {
                int changed = sounds.changedWith(measure, key);
                if (changed < fewest) {
                    fewest = changed;
                    nearest = key;
                }
            }
        }
        return nearest;
    }

    public int needlessSigns(int measure) throws IndexOutOfBoundsException {
        requireMeasure(measure);
        return sounds.signsWithoutEffect(measure);
    }

    public int undo() throws IllegalStateException {
        if (history.size() == 0) {
            throw new IllegalStateException("the undo stack is empty");
        }
        history.popInto(score);
        settle();
        return history.size();
    }

    public long digest() {
        long hash = mix(HASH_START, history.size());
        for (int what = 0; what < WHOLE_VALUES; what++) {
            hash = mix(hash, whole(what));
        }
        for (int measure = 0; measure < score.size(); measure++) {
            hash = mixValues(hash, measure);
            hash = mixVoice(hash, measure, 0);
            hash = mixVoice(hash, measure, 1);
            hash = mix(hash, crossings(measure));
            hash = mix(hash, timesPlayed(measure));
            hash = mixSentence(hash, measure);
        }
        for (int place = 0; place < playing.size(); place++) {
            hash = mix(hash, playing.at(place));
        }
        return mix(hash, reader.findFault());
    }

    private static long mix(long hash, long value) {
        return 31L * hash + value;
    }

    private long mixValues(long before, int measure) {
        long hash = before;
        for (int what = 0; what < MEASURE_VALUES; what++) {
            hash = mix(hash, measure(measure, what));
        }
        return hash;
    }

    private long mixVoice(long before, int measure, int voice) {
        long hash = before;
        for (int event = 0; event < score.count(measure, voice); event++) {
            for (int what = 0; what < EVENT_VALUES; what++) {
                hash = mix(hash, event(measure, voice, event, what));
            }
        }
        return hash;
    }

    private long mixSentence(long before, int measure) {
        long hash = before;
        sentence.tellMeasure(score, measure);
        for (int index = 0; index < sentence.length(); index++) {
            hash = mix(hash, sentence.at(index));
        }
        return hash;
    }

    private int noteValue(int measure, int voice, int event, int what) {
        int code = score.code(measure, voice, event);
        switch (what) {
            case 0:
                return Code.pitchOf(code);
            case 1:
                return Code.signOf(code);
            case 3:
                return Code.isTied(code) ? 1 : 0;
            case 6:
                return sounds.shift(measure, voice, event);
            case 7:
                return sounds.sounding(measure, voice, event);
            case 8:
                return sounds.held(measure, voice, event);
            default:
                return sounds.isBrokenTie(measure, voice, event) ? 1 : 0;
        }
    }

    private int eventsOfKind(int what) {
        int number = 0;
        for (int measure = 0; measure < score.size(); measure++) {
            for (int voice = 0; voice < Score.VOICES; voice++) {
                for (int event = 0; event < score.count(measure, voice); event++) {
                    number += isOfKind(measure, voice, event, what) ? 1 : 0;
                }
            }
        }
        return number;
    }

    private boolean isOfKind(int measure, int voice, int event, int what) {
        int code = score.code(measure, voice, event);
        switch (what) {
            case 1:
                return true;
            case 2:
                return Code.isNote(code);
            case 3:
                return Code.isTied(code);
            default:
                return sounds.isBrokenTie(measure, voice, event);
        }
    }

    // What notes sound and the order depend on measures far apart: they are found once behind each change,
    // as a digest asks for them thousands of times.
    private void settle() {
        sounds.findShifts();
        sounds.findHeldTicks();
        playing.unroll(score);
    }

    private void requireMeasure(int measure) {
        if (!score.hasMeasure(measure)) {
            throw new IndexOutOfBoundsException("no such measure");
        }
    }

    private void requireVoice(int measure, int voice) {
        if (!score.hasVoice(measure, voice)) {
            throw new IndexOutOfBoundsException("no such measure or voice");
        }
    }

    private void requireEvent(int measure, int voice, int event) {
        if (!score.hasEvent(measure, voice, event)) {
            throw new IndexOutOfBoundsException("no such measure, voice or event");
        }
    }

    private void requireRoom(int measure, int voice) {
        if (score.count(measure, voice) >= Score.MOST_EVENTS) {
            throw new IllegalStateException("the voice has 24 events");
        }
    }

    private static void requireRange(int value, int lowest, int highest) {
        if (value < lowest || value > highest) {
            throw new IllegalArgumentException("a value is out of range");
        }
    }

    private static void requireNotNegative(int value) {
        if (value < 0) {
            throw new IllegalArgumentException("a value is negative");
        }
    }

    /** An event packed into one number, so that equal events are equal numbers. */
    private static final class Code {
        static final int NOTHING = 0;
        static final int HIGHEST_PITCH = 62;
        static final int HIGHEST_SIGN = 3;
        static final int HIGHEST_DURATION = 9;
        static final int STEPS = 7;
        static final int WHOLE_TICKS = 64;
        private static final int TIED = 1 << 4;
        private static final int SIGN_SHIFT = 5;
        private static final int PITCH_SHIFT = 7;
        private static final int NOTE = 1 << 13;
        private static final int REST = 1 << 14;

        static int ofNote(int pitch, int sign, int duration, boolean tied) {
            return NOTE | pitch << PITCH_SHIFT | sign << SIGN_SHIFT | (tied ? TIED : 0) | duration;
        }

        static int ofRest(int duration) {
            return REST | duration;
        }

        static boolean isNote(int code) {
            return (code & NOTE) != 0;
        }

        static boolean isTied(int code) {
            return (code & TIED) != 0;
        }

        static int pitchOf(int code) {
            return code >> PITCH_SHIFT & 63;
        }

        static int octaveOf(int code) {
            return pitchOf(code) / STEPS;
        }

        static int stepOf(int code) {
            return pitchOf(code) % STEPS;
        }

        static int signOf(int code) {
            return code >> SIGN_SHIFT & 3;
        }

        static int durationOf(int code) {
            return code & 15;
        }

        static boolean isDotted(int code) {
            return durationOf(code) % 2 == 1;
        }

        static int lengthOf(int code) {
            return durationOf(code) / 2;
        }

        static int ticksOf(int code) {
            int duration = durationOf(code);
            int plain = WHOLE_TICKS >> duration / 2;
            return duration % 2 == 1 ? plain + plain / 2 : plain;
        }

        static boolean samePitch(int code, int other) {
            return isNote(code) && isNote(other) && pitchOf(code) == pitchOf(other);
        }
    }

    /**
     * The measures, a row of numbers each: its values, and for each voice the number of its events and their codes.
     * A place outside answers 0, so that the neighbours of the first and the last measure need no care.
     */
    private static final class Score {
        static final int KEY = 0;
        static final int UPPER = 1;
        static final int LOWER = 2;
        static final int TEMPO = 3;
        static final int OPENS = 4;
        static final int TIMES = 5;
        static final int ENDING = 6;
        static final int VALUES = 7;
        static final int VOICES = 2;
        static final int MOST_MEASURES = 16;
        static final int MOST_EVENTS = 24;
        static final int MOST_SIGNS = 7;
        static final int UNTOLD = -100;
        private static final int VOICE_SPAN = 1 + MOST_EVENTS;
        private static final int SPAN = VALUES + VOICES * VOICE_SPAN;

        private final int[] cells = new int[MOST_MEASURES * SPAN];
        private int size;

        static boolean canHold(int what, int value) {
            switch (what) {
                case KEY:
                    return value >= -MOST_SIGNS && value <= MOST_SIGNS;
                case UPPER:
                    return value >= 1 && value <= 12;
                case LOWER:
                    return value == 2 || value == 4 || value == 8 || value == 16;
                case TEMPO:
                    return value >= 20 && value <= 300;
                case OPENS:
                    return value == 0 || value == 1;
                case TIMES:
                    return value == 0 || value >= 2 && value <= 4;
                case ENDING:
                    return value >= 0 && value <= 4;
                default:
                    return false;
            }
        }

        int size() {
            return size;
        }

        boolean isFull() {
            return size >= MOST_MEASURES;
        }

        boolean hasMeasure(int measure) {
            return measure >= 0 && measure < size;
        }

        boolean hasVoice(int measure, int voice) {
            return voiceCell(measure, voice) >= 0;
        }

        boolean hasEvent(int measure, int voice, int event) {
            return event >= 0 && event < count(measure, voice);
        }

        int value(int measure, int what) {
            return hasMeasure(measure) && what >= 0 && what < VALUES ? cells[measure * SPAN + what] : 0;
        }

        void putValue(int measure, int what, int value) {
            if (hasMeasure(measure) && what >= 0 && what < VALUES) {
                cells[measure * SPAN + what] = value;
            }
        }

        int count(int measure, int voice) {
            int cell = voiceCell(measure, voice);
            return cell >= 0 ? cells[cell] : 0;
        }

        int code(int measure, int voice, int event) {
            int cell = voiceCell(measure, voice);
            return cell >= 0 && event >= 0 && event < cells[cell] ? cells[cell + 1 + event] : Code.NOTHING;
        }

        /** Where the number of events of a voice stands, with their codes behind it; -1 if there is no such voice. */
        private int voiceCell(int measure, int voice) {
            boolean stands = measure >= 0 && measure < size && voice >= 0 && voice < VOICES;
            return stands ? measure * SPAN + VALUES + voice * VOICE_SPAN : -1;
        }

        void appendMeasure() {
            if (isFull()) {
                return;
            }
            int last = size - 1;
            Arrays.fill(cells, size * SPAN, (size + 1) * SPAN, 0);
            size++;
            boolean first = last < 0;
            putValue(size - 1, KEY, first ? 0 : value(last, KEY));
            putValue(size - 1, UPPER, first ? 4 : value(last, UPPER));
            putValue(size - 1, LOWER, first ? 4 : value(last, LOWER));
            putValue(size - 1, TEMPO, first ? 120 : value(last, TEMPO));
        }

        void dropMeasure(int measure) {
            if (hasMeasure(measure)) {
                int behind = size - measure - 1;
                System.arraycopy(cells, (measure + 1) * SPAN, cells, measure * SPAN, behind * SPAN);
                size--;
            }
        }

        void appendEvent(int measure, int voice, int code) {
            int cell = voiceCell(measure, voice);
            if (cell >= 0 && cells[cell] < MOST_EVENTS) {
                cells[cell]++;
                cells[cell + cells[cell]] = code;
            }
        }

        void dropEvent(int measure, int voice, int event) {
            int cell = voiceCell(measure, voice);
            if (cell >= 0 && event >= 0 && event < cells[cell]) {
                int from = cell + 1 + event;
                System.arraycopy(cells, from + 1, cells, from, cells[cell] - event - 1);
                cells[cell]--;
            }
        }

        void copyFrom(Score other) {
            System.arraycopy(other.cells, 0, cells, 0, other.size * SPAN);
            size = other.size;
        }

        int ticks(int measure) {
            int lower = value(measure, LOWER);
            return lower == 0 ? 0 : Code.WHOLE_TICKS * value(measure, UPPER) / lower;
        }

        int voiceTicks(int measure, int voice) {
            return begin(measure, voice, count(measure, voice));
        }

        int begin(int measure, int voice, int event) {
            int begin = 0;
            for (int ahead = 0; ahead < event; ahead++) {
                begin += Code.ticksOf(code(measure, voice, ahead));
            }
            return begin;
        }

        int unevenVoices() {
            int number = 0;
            for (int measure = 0; measure < size; measure++) {
                for (int voice = 0; voice < VOICES; voice++) {
                    boolean uneven = count(measure, voice) > 0 && voiceTicks(measure, voice) != ticks(measure);
                    number += uneven ? 1 : 0;
                }
            }
            return number;
        }

        int codeBefore(int measure, int voice, int event) {
            return event > 0 ? code(measure, voice, event - 1)
                    : code(measure - 1, voice, count(measure - 1, voice) - 1);
        }

        int codeAfter(int measure, int voice, int event) {
            return event + 1 < count(measure, voice) ? code(measure, voice, event + 1) : code(measure + 1, voice, 0);
        }

        boolean isHeldTie(int measure, int voice, int event) {
            int code = code(measure, voice, event);
            return Code.isTied(code) && Code.samePitch(code, codeAfter(measure, voice, event));
        }

        void becomeDraft() {
            size = 0;
            appendMeasure();
            for (int what = KEY; what <= TEMPO; what++) {
                putValue(0, what, UNTOLD);
            }
        }

        void takeDraft(int measure, Score draft) {
            int cell = voiceCell(measure, 0);
            if (cell < 0) {
                return;
            }
            for (int what = 0; what < VALUES; what++) {
                int told = draft.value(0, what);
                if (told != UNTOLD) {
                    putValue(measure, what, told);
                }
            }
            System.arraycopy(draft.cells, VALUES, cells, cell, VOICES * VOICE_SPAN);
        }

        boolean agreesWith(int measure, Score draft) {
            for (int what = 0; what < VALUES; what++) {
                int told = draft.value(0, what);
                if (told != UNTOLD && told != value(measure, what)) {
                    return false;
                }
            }
            return hasVoiceOf(measure, draft, 0) && hasVoiceOf(measure, draft, 1);
        }

        private boolean hasVoiceOf(int measure, Score draft, int voice) {
            if (count(measure, voice) != draft.count(0, voice)) {
                return false;
            }
            for (int event = 0; event < count(measure, voice); event++) {
                if (code(measure, voice, event) != draft.code(0, voice, event)) {
                    return false;
                }
            }
            return true;
        }
    }

    /** The saved states in a ring of scores that are made once: pushing onto a full one writes over the oldest. */
    private static final class History {
        private static final int MOST = 4;

        private final Score[] saved = new Score[MOST];
        private int size;
        private int next;

        History() {
            for (int index = 0; index < MOST; index++) {
                saved[index] = new Score();
            }
        }

        int size() {
            return size;
        }

        void push(Score score) {
            Score place = place(next);
            if (place != null) {
                place.copyFrom(score);
                next = (next + 1) % MOST;
                size = Math.min(size + 1, MOST);
            }
        }

        void popInto(Score score) {
            int latest = (next + MOST - 1) % MOST;
            Score place = place(latest);
            if (size > 0 && place != null) {
                score.copyFrom(place);
                next = latest;
                size--;
            }
        }

        private Score place(int index) {
            return index >= 0 && index < MOST ? saved[index] : null;
        }
    }

    /** The shifts and the held lengths of all events of a score, and what follows from them. */
    private static final class Sounds {
        private static final int[] STEP_HEIGHTS = {0, 2, 4, 5, 7, 9, 11};
        private static final int[] SHARP_STEPS = {3, 0, 4, 1, 5, 2, 6};
        private static final int[] FLAT_STEPS = {6, 2, 5, 1, 4, 0, 3};
        private static final int SLOTS = Score.MOST_MEASURES * Score.VOICES * Score.MOST_EVENTS;

        private final Score score;
        private final int[] shifts = new int[SLOTS];
        private final int[] heldTicks = new int[SLOTS];

        Sounds(Score score) {
            this.score = score;
        }

        private static int slot(int measure, int voice, int event) {
            boolean stands = measure >= 0 && measure < Score.MOST_MEASURES && voice >= 0 && voice < Score.VOICES
                    && event >= 0 && event < Score.MOST_EVENTS;
            return stands ? (measure * Score.VOICES + voice) * Score.MOST_EVENTS + event : -1;
        }

        int shift(int measure, int voice, int event) {
            int slot = slot(measure, voice, event);
            return slot >= 0 ? shifts[slot] : 0;
        }

        int held(int measure, int voice, int event) {
            int slot = slot(measure, voice, event);
            return slot >= 0 ? heldTicks[slot] : 0;
        }

        // A tie that holds makes the held length longer than the ticks, as there is no event without ticks.
        boolean isBrokenTie(int measure, int voice, int event) {
            int code = score.code(measure, voice, event);
            return Code.isTied(code) && held(measure, voice, event) == Code.ticksOf(code);
        }

        int sounding(int measure, int voice, int event) {
            int code = score.code(measure, voice, event);
            int step = Code.stepOf(code);
            int height = step >= 0 && step < STEP_HEIGHTS.length ? STEP_HEIGHTS[step] : 0;
            return 12 * Code.octaveOf(code) + height + shift(measure, voice, event);
        }

        void findShifts() {
            for (int measure = 0; measure < score.size(); measure++) {
                int key = score.value(measure, Score.KEY);
                for (int voice = 0; voice < Score.VOICES; voice++) {
                    int before = shiftBefore(measure, voice, 0);
                    for (int event = 0; event < score.count(measure, voice); event++) {
                        before = shiftWith(measure, voice, event, key, before);
                        put(shifts, slot(measure, voice, event), before);
                    }
                }
            }
        }

        // From the end to the beginning, as a held length goes on in the events behind.
        void findHeldTicks() {
            for (int measure = score.size() - 1; measure >= 0; measure--) {
                for (int voice = 0; voice < Score.VOICES; voice++) {
                    int behind = held(measure + 1, voice, 0);
                    for (int event = score.count(measure, voice) - 1; event >= 0; event--) {
                        int ticks = Code.ticksOf(score.code(measure, voice, event));
                        behind = score.isHeldTie(measure, voice, event) ? ticks + behind : ticks;
                        put(heldTicks, slot(measure, voice, event), behind);
                    }
                }
            }
        }

        private static void put(int[] row, int slot, int value) {
            if (slot >= 0 && slot < row.length) {
                row[slot] = value;
            }
        }

        private int shiftBefore(int measure, int voice, int event) {
            return event > 0 ? shift(measure, voice, event - 1)
                    : shift(measure - 1, voice, score.count(measure - 1, voice) - 1);
        }

        private int shiftWith(int measure, int voice, int event, int key, int before) {
            int sign = Code.signOf(score.code(measure, voice, event));
            return sign != 0 ? signShift(sign) : shiftWithoutSign(measure, voice, event, key, before);
        }

        private int shiftWithoutSign(int measure, int voice, int event, int key, int before) {
            int code = score.code(measure, voice, event);
            int tied = score.codeBefore(measure, voice, event);
            if (Code.isTied(tied) && Code.samePitch(tied, code)) {
                return before;
            }
            for (int ahead = event - 1; ahead >= 0; ahead--) {
                int other = score.code(measure, voice, ahead);
                if (Code.samePitch(other, code) && Code.signOf(other) != 0) {
                    return signShift(Code.signOf(other));
                }
            }
            return keyShift(key, Code.stepOf(code));
        }

        private static int signShift(int sign) {
            return sign == 1 ? 1 : sign == 2 ? -1 : 0;
        }

        private static int keyShift(int key, int step) {
            for (int index = 0; index < SHARP_STEPS.length && index < key; index++) {
                if (SHARP_STEPS[index] == step) {
                    return 1;
                }
            }
            for (int index = 0; index < FLAT_STEPS.length && index < -key; index++) {
                if (FLAT_STEPS[index] == step) {
                    return -1;
                }
            }
            return 0;
        }

        int changedWith(int measure, int key) {
            int number = 0;
            for (int voice = 0; voice < Score.VOICES; voice++) {
                int before = shiftBefore(measure, voice, 0);
                for (int event = 0; event < score.count(measure, voice); event++) {
                    before = shiftWith(measure, voice, event, key, before);
                    boolean changed = before != shift(measure, voice, event);
                    number += changed && Code.isNote(score.code(measure, voice, event)) ? 1 : 0;
                }
            }
            return number;
        }

        int signsWithoutEffect(int measure) {
            int key = score.value(measure, Score.KEY);
            int number = 0;
            for (int voice = 0; voice < Score.VOICES; voice++) {
                for (int event = 0; event < score.count(measure, voice); event++) {
                    if (Code.signOf(score.code(measure, voice, event)) != 0) {
                        int before = shiftBefore(measure, voice, event);
                        int without = shiftWithoutSign(measure, voice, event, key, before);
                        number += without == shift(measure, voice, event) ? 1 : 0;
                    }
                }
            }
            return number;
        }

        int crossedTicks(int measure) {
            int limit = score.ticks(measure);
            int number = 0;
            int begin = 0;
            for (int event = 0; event < score.count(measure, 0); event++) {
                int code = score.code(measure, 0, event);
                int end = begin + Code.ticksOf(code);
                if (Code.isNote(code)) {
                    number += ticksAbove(measure, sounding(measure, 0, event), begin, Math.min(end, limit));
                }
                begin = end;
            }
            return number;
        }

        private int ticksAbove(int measure, int height, int from, int to) {
            int number = 0;
            int begin = 0;
            for (int event = 0; event < score.count(measure, 1); event++) {
                int code = score.code(measure, 1, event);
                int end = begin + Code.ticksOf(code);
                if (Code.isNote(code) && sounding(measure, 1, event) > height) {
                    number += Math.max(Math.min(end, to) - Math.max(begin, from), 0);
                }
                begin = end;
            }
            return number;
        }
    }

    /** The order of playing. */
    private static final class Playing {
        private static final int MOST = 200;
        // Every jump back stands behind a place, and from jump to jump there are at most as many steps as measures.
        private static final int MOST_STEPS = (MOST + 1) * (Score.MOST_MEASURES + 1);

        private final int[] places = new int[MOST];
        private int size;

        int size() {
            return size;
        }

        int at(int place) {
            return place >= 0 && place < size && place < MOST ? places[place] : 0;
        }

        void unroll(Score score) {
            size = 0;
            int start = 0;
            int pass = 1;
            int measure = 0;
            boolean jumped = false;
            for (int step = 0; step < MOST_STEPS && measure < score.size() && size < MOST; step++) {
                if (!jumped && beginsAnew(score, measure)) {
                    start = measure;
                    pass = 1;
                }
                int ending = score.value(measure, Score.ENDING);
                boolean leftOut = ending != 0 && ending != pass;
                int times = leftOut ? 0 : score.value(measure, Score.TIMES);
                if (!leftOut) {
                    places[size] = measure;
                    size++;
                }
                jumped = times != 0 && pass < times;
                if (jumped) {
                    pass++;
                    measure = start;
                } else {
                    measure++;
                    if (times != 0) {
                        pass = 1;
                        start = measure;
                    }
                }
            }
        }

        private static boolean beginsAnew(Score score, int measure) {
            return score.value(measure, Score.OPENS) == 1
                    || score.value(measure, Score.ENDING) == 0 && score.value(measure - 1, Score.ENDING) != 0;
        }

        int ticks(Score score) {
            int ticks = 0;
            for (int place = 0; place < size; place++) {
                ticks += score.ticks(at(place));
            }
            return ticks;
        }

        int timesOf(int measure) {
            int number = 0;
            for (int place = 0; place < size; place++) {
                number += at(place) == measure ? 1 : 0;
            }
            return number;
        }

        float secondsUpTo(Score score, int end) {
            float seconds = 0.0f;
            for (int place = 0; place < end && place < size; place++) {
                seconds += secondsOf(score, place);
            }
            return seconds;
        }

        // Counts the end of the order as one place more, so that a time behind it can be told from the last place.
        int placesBegunBy(Score score, float time) {
            int number = 0;
            float begin = 0.0f;
            for (int place = 0; place <= size && begin <= time; place++) {
                number++;
                begin += place < size ? secondsOf(score, place) : 0.0f;
            }
            return number;
        }

        private float secondsOf(Score score, int place) {
            int measure = at(place);
            float tempo = (float) score.value(measure, Score.TEMPO);
            return tempo > 0.0f ? (float) score.ticks(measure) * (60.0f / (16.0f * tempo)) : 0.0f;
        }
    }

    /** The words that sentences are told with and read back by. */
    private static final class Words {
        static final char SPACE = ' ';
        static final int SIGNS = 3;
        static final int LENGTHS = 5;
        static final String LETTERS = "cdefgab";
        static final String BAR = "bar";
        static final String OPEN = "open";
        static final String ENDING = "ending";
        static final String KEY = "key";
        static final String PLAIN = "plain";
        static final String SHARP = "sharp";
        static final String FLAT = "flat";
        static final String NATURAL = "natural";
        static final String TIME = "time";
        static final String VOICE = "voice";
        static final String REST = "rest";
        static final String DOTTED = "dotted";
        static final String TIED = "tied";
        static final String BACK = "back";
        static final String END = "end";

        static String ofSign(int sign) {
            switch (sign) {
                case 1:
                    return SHARP;
                case 2:
                    return FLAT;
                default:
                    return NATURAL;
            }
        }

        static String ofLength(int length) {
            switch (length) {
                case 0:
                    return "whole";
                case 1:
                    return "half";
                case 2:
                    return "quarter";
                case 3:
                    return "eighth";
                default:
                    return "sixteenth";
            }
        }

        static char letterOf(int step) {
            return step >= 0 && step < LETTERS.length() ? LETTERS.charAt(step) : SPACE;
        }
    }

    /** The sentence that was told last. */
    private static final class Sentence {
        // 43 bytes to the time, 8 and 24 times 34 for each voice, 11 for "back" and "end".
        private static final int LONGEST = 43 + 2 * (8 + 24 * 34) + 11;

        private final byte[] bytes = new byte[LONGEST];
        private int length;
        private int wordCount;

        int length() {
            return length;
        }

        int wordCount() {
            return wordCount;
        }

        int at(int index) {
            return index >= 0 && index < length && index < LONGEST ? bytes[index] : 0;
        }

        void tellMeasure(Score score, int measure) {
            length = 0;
            wordCount = 0;
            tellNumbered(Words.BAR, measure + 1);
            if (score.value(measure, Score.OPENS) == 1) {
                tellWord(Words.OPEN);
            }
            if (score.value(measure, Score.ENDING) != 0) {
                tellNumbered(Words.ENDING, score.value(measure, Score.ENDING));
            }
            if (measure == 0 || differsFromBefore(score, measure, Score.KEY)) {
                tellKey(score.value(measure, Score.KEY));
            }
            if (measure == 0 || differsFromBefore(score, measure, Score.UPPER)
                    || differsFromBefore(score, measure, Score.LOWER)) {
                tellNumbered(Words.TIME, score.value(measure, Score.UPPER));
                tellNumber(score.value(measure, Score.LOWER));
            }
            for (int voice = 0; voice < Score.VOICES; voice++) {
                tellVoice(score, measure, voice);
            }
            if (score.value(measure, Score.TIMES) != 0) {
                tellNumbered(Words.BACK, score.value(measure, Score.TIMES));
            }
            tellWord(Words.END);
        }

        private static boolean differsFromBefore(Score score, int measure, int what) {
            return score.value(measure, what) != score.value(measure - 1, what);
        }

        private void tellKey(int key) {
            tellWord(Words.KEY);
            if (key == 0) {
                tellWord(Words.PLAIN);
            } else {
                tellNumber(Math.abs(key));
                tellWord(key > 0 ? Words.SHARP : Words.FLAT);
            }
        }

        private void tellVoice(Score score, int measure, int voice) {
            if (score.count(measure, voice) > 0) {
                tellNumbered(Words.VOICE, voice + 1);
            }
            for (int event = 0; event < score.count(measure, voice); event++) {
                tellEvent(score.code(measure, voice, event));
            }
        }

        private void tellEvent(int code) {
            if (Code.isNote(code)) {
                beginWord();
                put(Words.letterOf(Code.stepOf(code)));
                if (Code.signOf(code) != 0) {
                    tellWord(Words.ofSign(Code.signOf(code)));
                }
                tellNumber(Code.octaveOf(code));
            } else {
                tellWord(Words.REST);
            }
            if (Code.isDotted(code)) {
                tellWord(Words.DOTTED);
            }
            tellWord(Words.ofLength(Code.lengthOf(code)));
            if (Code.isTied(code)) {
                tellWord(Words.TIED);
            }
        }

        private void tellNumbered(String word, int number) {
            tellWord(word);
            tellNumber(number);
        }

        private void tellWord(String word) {
            beginWord();
            for (int index = 0; index < word.length(); index++) {
                put(word.charAt(index));
            }
        }

        // No number of a sentence is above 16.
        private void tellNumber(int number) {
            beginWord();
            if (number >= 10) {
                put('0' + number / 10);
            }
            put('0' + number % 10);
        }

        private void beginWord() {
            if (wordCount > 0) {
                put(Words.SPACE);
            }
            wordCount++;
        }

        private void put(int value) {
            if (length < LONGEST) {
                bytes[length] = (byte) value;
                length++;
            }
        }
    }

    /** The text that is typed and read back. */
    private static final class Text {
        static final int MOST = 600;

        private final byte[] bytes = new byte[MOST];
        private int length;

        int length() {
            return length;
        }

        int at(int index) {
            return index >= 0 && index < length && index < MOST ? bytes[index] : 0;
        }

        void append(int value) {
            if (length < MOST) {
                bytes[length] = (byte) value;
                length++;
            }
        }

        void shorten(int many) {
            length = Math.max(length - many, 0);
        }
    }

    /**
     * Reads the text word by word into a draft. The first word that cannot stand fails the reader:
     * from then on it takes no word any more, so that no step has to ask whether the one before it failed.
     */
    private static final class Reader {
        private final Text text;
        private final Score draft = new Score();
        private int from;
        private int to;
        private int failedAt;

        Reader(Text text) {
            this.text = text;
        }

        Score draft() {
            return draft;
        }

        int findFault() {
            draft.becomeDraft();
            failedAt = NONE;
            to = 0;
            advance();
            readHead();
            if (takeWord(Words.VOICE)) {
                int first = takeNumber(1, 2);
                readEvents(first - 1);
                if (first == 1 && takeWord(Words.VOICE)) {
                    readEvents(takeNumber(2, 2) - 1);
                }
            }
            if (takeWord(Words.BACK)) {
                draft.putValue(0, Score.TIMES, takeNumber(2, 4));
            }
            needWord(Words.END);
            if (from < to) {
                fail();
            }
            return failedAt;
        }

        private void readHead() {
            needWord(Words.BAR);
            takeNumber(0, 999);
            draft.putValue(0, Score.OPENS, takeWord(Words.OPEN) ? 1 : 0);
            if (takeWord(Words.ENDING)) {
                draft.putValue(0, Score.ENDING, takeNumber(1, 4));
            }
            if (takeWord(Words.KEY)) {
                draft.putValue(0, Score.KEY, readKey());
            }
            if (takeWord(Words.TIME)) {
                draft.putValue(0, Score.UPPER, takeNumber(1, 12));
                draft.putValue(0, Score.LOWER, readLower());
            }
        }

        private int readKey() {
            if (takeWord(Words.PLAIN)) {
                return 0;
            }
            int signs = takeNumber(1, Score.MOST_SIGNS);
            if (takeWord(Words.SHARP)) {
                return signs;
            }
            needWord(Words.FLAT);
            return -signs;
        }

        private int readLower() {
            if (!Score.canHold(Score.LOWER, number())) {
                fail();
            }
            return takeNumber(2, 16);
        }

        // Behind the 24th event no event is looked for: its first word is found at fault by what is looked for then.
        private void readEvents(int voice) {
            readEvent(voice);
            for (int count = 1; count < Score.MOST_EVENTS && beginsEvent(); count++) {
                readEvent(voice);
            }
        }

        private boolean beginsEvent() {
            return failedAt == NONE && (step() >= 0 || isWord(Words.REST));
        }

        private void readEvent(int voice) {
            if (!beginsEvent()) {
                fail();
                return;
            }
            int step = step();
            advance();
            if (step < 0) {
                draft.appendEvent(0, voice, Code.ofRest(readDuration()));
                return;
            }
            int sign = readSign();
            int pitch = Code.STEPS * takeNumber(0, 8) + step;
            int duration = readDuration();
            draft.appendEvent(0, voice, Code.ofNote(pitch, sign, duration, takeWord(Words.TIED)));
        }

        private int readSign() {
            for (int sign = 1; sign <= Words.SIGNS; sign++) {
                if (takeWord(Words.ofSign(sign))) {
                    return sign;
                }
            }
            return 0;
        }

        private int readDuration() {
            int dot = takeWord(Words.DOTTED) ? 1 : 0;
            for (int length = 0; length < Words.LENGTHS; length++) {
                if (takeWord(Words.ofLength(length))) {
                    return 2 * length + dot;
                }
            }
            fail();
            return 0;
        }

        private void fail() {
            if (failedAt == NONE) {
                failedAt = from;
            }
        }

        private boolean takeWord(String word) {
            boolean taken = failedAt == NONE && isWord(word);
            if (taken) {
                advance();
            }
            return taken;
        }

        private void needWord(String word) {
            if (!takeWord(word)) {
                fail();
            }
        }

        private int takeNumber(int lowest, int highest) {
            int number = number();
            if (failedAt != NONE || number < lowest || number > highest) {
                fail();
                return 0;
            }
            advance();
            return number;
        }

        // Behind the last word, from and to are both the length of the text: spaces at its end are passed over.
        private void advance() {
            from = to;
            while (from < text.length() && text.at(from) == Words.SPACE) {
                from++;
            }
            to = from;
            while (to < text.length() && text.at(to) != Words.SPACE) {
                to++;
            }
        }

        private boolean isWord(String word) {
            if (to - from != word.length()) {
                return false;
            }
            for (int index = 0; index < word.length(); index++) {
                if (text.at(from + index) != word.charAt(index)) {
                    return false;
                }
            }
            return true;
        }

        private int step() {
            return to - from == 1 ? Words.LETTERS.indexOf((char) text.at(from)) : -1;
        }

        private int number() {
            if (to == from || to - from > 3) {
                return -1;
            }
            int number = 0;
            for (int index = from; index < to; index++) {
                int digit = text.at(index) - '0';
                if (digit < 0 || digit > 9) {
                    return -1;
                }
                number = 10 * number + digit;
            }
            return number;
        }
    }
}

import java.util.ArrayDeque;
import java.util.ArrayList;
import java.util.Deque;
import java.util.List;

/**
 * The document once more, word by word and without regard to cost, so that the program can be compared with it.
 * It shares nothing with the program: lists of objects, recursion for ties, tick by tick for crossings, real what-if copies.
 */
final class Model {
    static final int NONE = -1000;
    private static final String LETTERS = "cdefgab";
    private static final String[] SIGNS = {"", "sharp", "flat", "natural"};
    private static final String[] LENGTHS = {"whole", "half", "quarter", "eighth", "sixteenth"};

    private record Event(boolean note, int pitch, int sign, int duration, boolean tied) {
        int ticks() {
            int plain = new int[] {64, 32, 16, 8, 4}[duration / 2];
            return duration % 2 == 0 ? plain : plain * 3 / 2;
        }

        boolean follows(Event tie) {
            return tie != null && note && tie.note && tie.tied && tie.pitch == pitch;
        }
    }

    private static final class Bar {
        int[] values = {0, 4, 4, 120, 0, 0, 0};
        List<List<Event>> voices = List.of(new ArrayList<>(), new ArrayList<>());

        Bar copy() {
            Bar copy = new Bar();
            copy.values = values.clone();
            copy.voices.get(0).addAll(voices.get(0));
            copy.voices.get(1).addAll(voices.get(1));
            return copy;
        }

        int ticks() {
            return 64 * values[1] / values[2];
        }

        int ticks(int voice) {
            return voices.get(voice).stream().mapToInt(Event::ticks).sum();
        }
    }

    private static final class Fault extends RuntimeException {
        private static final long serialVersionUID = 1L;
        final int index;

        Fault(int index) {
            this.index = index;
        }
    }

    private List<Bar> bars = new ArrayList<>();
    private final Deque<List<Bar>> saved = new ArrayDeque<>();
    private String text = "";

    // ---- measures

    private static List<Bar> copy(List<Bar> bars) {
        List<Bar> copy = new ArrayList<>();
        for (Bar bar : bars) {
            copy.add(bar.copy());
        }
        return copy;
    }

    private void save() {
        saved.addLast(copy(bars));
        if (saved.size() > 4) {
            saved.removeFirst();
        }
    }

    private Bar bar(int measure) {
        if (measure < 0 || measure >= bars.size()) {
            throw new IndexOutOfBoundsException();
        }
        return bars.get(measure);
    }

    private List<Event> voice(int measure, int voice) {
        Bar bar = bar(measure);
        if (voice < 0 || voice > 1) {
            throw new IndexOutOfBoundsException();
        }
        return bar.voices.get(voice);
    }

    private static void range(int value, int low, int high) {
        if (value < low || value > high) {
            throw new IllegalArgumentException();
        }
    }

    private static void state(boolean good) {
        if (!good) {
            throw new IllegalStateException();
        }
    }

    int addMeasure() {
        state(bars.size() < 16);
        save();
        Bar added = new Bar();
        if (!bars.isEmpty()) {
            System.arraycopy(bars.get(bars.size() - 1).values, 0, added.values, 0, 4);
        }
        bars.add(added);
        return bars.size() - 1;
    }

    int removeMeasure(int measure) {
        bar(measure);
        save();
        bars.remove(measure);
        return bars.size();
    }

    int set(int measure, int what, int value) {
        bar(measure);
        range(what, 0, 6);
        int[][] lowHigh = {{-7, 7}, {1, 12}, {2, 16}, {20, 300}, {0, 1}, {0, 4}, {0, 4}};
        range(value, lowHigh[what][0], lowHigh[what][1]);
        if (what == 2 && Integer.bitCount(value) != 1 || what == 5 && value == 1) {
            throw new IllegalArgumentException();
        }
        save();
        int previous = bars.get(measure).values[what];
        bars.get(measure).values[what] = value;
        return previous;
    }

    int addNote(int measure, int voice, int pitch, int sign, int duration, boolean tied) {
        List<Event> events = voice(measure, voice);
        range(pitch, 0, 62);
        range(sign, 0, 3);
        range(duration, 0, 9);
        state(events.size() < 24);
        save();
        events.add(new Event(true, pitch, sign, duration, tied));
        return events.size();
    }

    int addRest(int measure, int voice, int duration) {
        List<Event> events = voice(measure, voice);
        range(duration, 0, 9);
        state(events.size() < 24);
        save();
        events.add(new Event(false, 0, 0, duration, false));
        return events.size();
    }

    int removeEvent(int measure, int voice, int event) {
        List<Event> events = voice(measure, voice);
        if (event < 0 || event >= events.size()) {
            throw new IndexOutOfBoundsException();
        }
        save();
        events.remove(event);
        return events.size();
    }

    // ---- values

    int measure(int measure, int what) {
        Bar bar = bar(measure);
        range(what, 0, 11);
        int[] more = {bar.ticks(), bar.voices.get(0).size(), bar.voices.get(1).size(), bar.ticks(0), bar.ticks(1)};
        return what < 7 ? bar.values[what] : more[what - 7];
    }

    /** The event at a place, which may be one ahead of the first or one behind the last of its measure; null if none. */
    private static int[] neighbour(List<Bar> bars, int measure, int voice, int event) {
        if (event < 0) {
            int size = measure == 0 ? 0 : bars.get(measure - 1).voices.get(voice).size();
            return size == 0 ? null : new int[] {measure - 1, size - 1};
        }
        if (event < bars.get(measure).voices.get(voice).size()) {
            return new int[] {measure, event};
        }
        boolean last = measure + 1 == bars.size() || bars.get(measure + 1).voices.get(voice).isEmpty();
        return last ? null : new int[] {measure + 1, 0};
    }

    private static int shift(List<Bar> bars, int measure, int voice, int event) {
        List<Event> events = bars.get(measure).voices.get(voice);
        Event note = events.get(event);
        int[] signs = {0, 1, -1, 0};
        if (note.sign > 0) {
            return signs[note.sign];
        }
        int[] before = neighbour(bars, measure, voice, event - 1);
        if (before != null && note.follows(bars.get(before[0]).voices.get(voice).get(before[1]))) {
            return shift(bars, before[0], voice, before[1]);
        }
        for (int ahead = event - 1; ahead >= 0; ahead--) {
            Event other = events.get(ahead);
            if (other.note && other.pitch == note.pitch && other.sign > 0) {
                return signs[other.sign];
            }
        }
        int key = bars.get(measure).values[0];
        String step = "" + note.pitch % 7;
        if (key > 0 && "3041526".substring(0, key).contains(step)) {
            return 1;
        }
        return key < 0 && "6251403".substring(0, -key).contains(step) ? -1 : 0;
    }

    private static int sound(List<Bar> bars, int measure, int voice, int event) {
        int pitch = bars.get(measure).voices.get(voice).get(event).pitch;
        return 12 * (pitch / 7) + new int[] {0, 2, 4, 5, 7, 9, 11}[pitch % 7] + shift(bars, measure, voice, event);
    }

    private boolean holds(int measure, int voice, int event) {
        Event tie = bars.get(measure).voices.get(voice).get(event);
        int[] next = neighbour(bars, measure, voice, event + 1);
        return next != null && bars.get(next[0]).voices.get(voice).get(next[1]).follows(tie);
    }

    private int held(int measure, int voice, int event) {
        int ticks = bars.get(measure).voices.get(voice).get(event).ticks();
        if (!holds(measure, voice, event)) {
            return ticks;
        }
        int[] next = neighbour(bars, measure, voice, event + 1);
        return ticks + held(next[0], voice, next[1]);
    }

    int event(int measure, int voice, int event, int what) {
        List<Event> events = voice(measure, voice);
        if (event < 0 || event >= events.size()) {
            throw new IndexOutOfBoundsException();
        }
        range(what, 0, 9);
        Event found = events.get(event);
        if (what == 2) {
            return found.duration;
        }
        if (what == 4) {
            return found.ticks();
        }
        if (what == 5) {
            return events.subList(0, event).stream().mapToInt(Event::ticks).sum();
        }
        if (!found.note) {
            return NONE;
        }
        return switch (what) {
            case 0 -> found.pitch;
            case 1 -> found.sign;
            case 3 -> found.tied ? 1 : 0;
            case 6 -> shift(bars, measure, voice, event);
            case 7 -> sound(bars, measure, voice, event);
            case 8 -> held(measure, voice, event);
            default -> found.tied && !holds(measure, voice, event) ? 1 : 0;
        };
    }

    int eventAt(int measure, int voice, int tick) {
        List<Event> events = voice(measure, voice);
        range(tick, 0, Integer.MAX_VALUE);
        for (int event = 0; event < events.size(); event++) {
            int begin = event(measure, voice, event, 5);
            if (tick >= begin && tick - begin < events.get(event).ticks()) {
                return event;
            }
        }
        return NONE;
    }

    int crossings(int measure) {
        Bar bar = bar(measure);
        int number = 0;
        for (int tick = 0; tick < bar.ticks(); tick++) {
            int lower = eventAt(measure, 0, tick);
            int upper = eventAt(measure, 1, tick);
            if (lower != NONE && upper != NONE && bar.voices.get(0).get(lower).note && bar.voices.get(1).get(upper).note
                    && sound(bars, measure, 1, upper) > sound(bars, measure, 0, lower)) {
                number++;
            }
        }
        return number;
    }

    int whole(int what) {
        range(what, 0, 8);
        int[] due = new int[9];
        due[0] = bars.size();
        for (int measure = 0; measure < bars.size(); measure++) {
            for (int voice = 0; voice < 2; voice++) {
                List<Event> events = bars.get(measure).voices.get(voice);
                for (int event = 0; event < events.size(); event++) {
                    due[1]++;
                    due[2] += events.get(event).note ? 1 : 0;
                    due[3] += events.get(event).tied ? 1 : 0;
                    due[4] += event(measure, voice, event, 9) == 1 ? 1 : 0;
                }
                due[5] += !events.isEmpty() && bars.get(measure).ticks(voice) != bars.get(measure).ticks() ? 1 : 0;
            }
        }
        due[6] = playing().size();
        due[7] = playing().stream().mapToInt(measure -> bars.get(measure).ticks()).sum();
        due[8] = text.length();
        return due[what];
    }

    // ---- order and length

    private List<Integer> playing() {
        List<Integer> order = new ArrayList<>();
        int start = 0;
        int pass = 1;
        int measure = 0;
        boolean fromBefore = false;
        while (measure < bars.size()) {
            int[] values = bars.get(measure).values;
            boolean behindEnding = measure > 0 && values[6] == 0 && bars.get(measure - 1).values[6] != 0;
            if (fromBefore && (values[4] == 1 || behindEnding)) {
                start = measure;
                pass = 1;
            }
            fromBefore = true;
            if (values[6] != 0 && values[6] != pass) {
                measure++;
                continue;
            }
            order.add(measure);
            if (values[5] == 0) {
                measure++;
            } else if (pass < values[5]) {
                pass++;
                measure = start;
                fromBefore = false;
            } else {
                pass = 1;
                measure++;
                start = measure;
            }
        }
        return order.size() > 200 ? order.subList(0, 200) : order;
    }

    int order(int place) {
        range(place, 0, Integer.MAX_VALUE);
        List<Integer> order = playing();
        return place < order.size() ? order.get(place) : NONE;
    }

    int timesPlayed(int measure) {
        bar(measure);
        return (int) playing().stream().filter(played -> played == measure).count();
    }

    float seconds(int place) {
        range(place, 0, Integer.MAX_VALUE);
        float seconds = 0.0f;
        List<Integer> order = playing();
        for (int measure : order.subList(0, Math.min(place, order.size()))) {
            Bar bar = bars.get(measure);
            seconds += (float) bar.ticks() * (60.0f / (16.0f * (float) bar.values[3]));
        }
        return seconds;
    }

    int placeAt(int seconds) {
        range(seconds, 0, Integer.MAX_VALUE);
        int size = playing().size();
        if (size == 0 || seconds(size) <= (float) seconds) {
            return NONE;
        }
        int place = size - 1;
        while (seconds(place) > (float) seconds) {
            place--;
        }
        return place;
    }

    // ---- sentences

    private String sentence(int measure) {
        Bar bar = bar(measure);
        int[] values = bar.values;
        int[] before = measure > 0 ? bars.get(measure - 1).values : new int[] {99, 99, 99};
        List<String> words = new ArrayList<>(List.of("bar", "" + (measure + 1)));
        if (values[4] == 1) {
            words.add("open");
        }
        if (values[6] > 0) {
            words.add("ending " + values[6]);
        }
        if (values[0] != before[0]) {
            words.add(values[0] == 0 ? "key plain" : "key " + Math.abs(values[0]) + (values[0] > 0 ? " sharp" : " flat"));
        }
        if (values[1] != before[1] || values[2] != before[2]) {
            words.add("time " + values[1] + " " + values[2]);
        }
        for (int voice = 0; voice < 2; voice++) {
            if (!bar.voices.get(voice).isEmpty()) {
                words.add("voice " + (voice + 1));
            }
            for (Event event : bar.voices.get(voice)) {
                words.add(event.note ? "" + LETTERS.charAt(event.pitch % 7) : "rest");
                words.add(SIGNS[event.sign]);
                words.add(event.note ? "" + event.pitch / 7 : "");
                words.add(event.duration % 2 == 1 ? "dotted" : "");
                words.add(LENGTHS[event.duration / 2]);
                words.add(event.tied ? "tied" : "");
            }
        }
        if (values[5] > 0) {
            words.add("back " + values[5]);
        }
        words.add("end");
        words.removeIf(String::isEmpty);
        return String.join(" ", words);
    }

    int sentenceLength(int measure) {
        return sentence(measure).length();
    }

    int sentenceByte(int measure, int index) {
        String sentence = sentence(measure);
        range(index, 0, Integer.MAX_VALUE);
        return index < sentence.length() ? sentence.charAt(index) : NONE;
    }

    int words(int measure) {
        return sentence(measure).split(" ").length;
    }

    int copySentence(int measure) {
        String sentence = sentence(measure);
        state(sentence.length() <= 600);
        text = sentence;
        return text.length();
    }

    int type(int value) {
        range(value, 0, 127);
        state(text.length() < 600);
        text += (char) value;
        return text.length();
    }

    int cut(int many) {
        range(many, 1, 600);
        state(text.length() >= many);
        text = text.substring(0, text.length() - many);
        return text.length();
    }

    int clearText() {
        int length = text.length();
        text = "";
        return length;
    }

    // ---- reading back: a cursor over the words, each with its index in front

    private List<String> words;
    private List<Integer> indexes;
    private int at;

    private void split() {
        words = new ArrayList<>();
        indexes = new ArrayList<>();
        at = 0;
        String rest = text + " ";
        int begin = -1;
        for (int index = 0; index < rest.length(); index++) {
            if (rest.charAt(index) == ' ') {
                if (begin >= 0) {
                    words.add(rest.substring(begin, index));
                    indexes.add(begin);
                }
                begin = -1;
            } else if (begin < 0) {
                begin = index;
            }
        }
    }

    private String peek() {
        return at < words.size() ? words.get(at) : "";
    }

    private Fault wrong() {
        return new Fault(at < words.size() ? indexes.get(at) : text.length());
    }

    private boolean skip(String word) {
        boolean found = peek().equals(word);
        at += found ? 1 : 0;
        return found;
    }

    private int read(String... allowed) {
        int found = List.of(allowed).indexOf(peek());
        if (found < 0) {
            throw wrong();
        }
        at++;
        return found;
    }

    private int readNumber(int... allowed) {
        if (peek().matches("[0-9]{1,3}")) {
            int number = Integer.parseInt(peek());
            for (int value : allowed) {
                if (value == number || allowed.length == 1) {
                    at++;
                    return number;
                }
            }
        }
        throw wrong();
    }

    private Event readEvent() {
        boolean note = !skip("rest");
        int step = note ? read("c", "d", "e", "f", "g", "a", "b") : 0;
        int sign = 0;
        if (note && List.of("sharp", "flat", "natural").contains(peek())) {
            sign = 1 + read("sharp", "flat", "natural");
        }
        int octave = note ? readNumber(0, 1, 2, 3, 4, 5, 6, 7, 8) : 0;
        int dot = skip("dotted") ? 1 : 0;
        int duration = 2 * read(LENGTHS) + dot;
        return new Event(note, 7 * octave + step, sign, duration, note && skip("tied"));
    }

    private void readVoice(List<Event> events) {
        do {
            if (events.size() == 24) {
                throw wrong();
            }
            events.add(readEvent());
        } while (!List.of("voice", "back", "end", "").contains(peek()));
    }

    /** The bar that the text tells; what it does not tell of key, time and tempo is as in the bar given. */
    private Bar readBar(Bar given) {
        Bar told = new Bar();
        System.arraycopy(given.values, 0, told.values, 0, 4);
        split();
        read("bar");
        readNumber(0);
        told.values[4] = skip("open") ? 1 : 0;
        told.values[6] = skip("ending") ? readNumber(1, 2, 3, 4) : 0;
        if (skip("key")) {
            told.values[0] = skip("plain") ? 0 : readNumber(1, 2, 3, 4, 5, 6, 7) * (read("flat", "sharp") * 2 - 1);
        }
        if (skip("time")) {
            told.values[1] = readNumber(1, 2, 3, 4, 5, 6, 7, 8, 9, 10, 11, 12);
            told.values[2] = readNumber(2, 4, 8, 16);
        }
        if (skip("voice")) {
            int first = readNumber(1, 2);
            readVoice(told.voices.get(first - 1));
            if (first == 1 && skip("voice")) {
                readNumber(2, 2);
                readVoice(told.voices.get(1));
            }
        }
        told.values[5] = skip("back") ? readNumber(2, 3, 4) : 0;
        read("end");
        if (at < words.size()) {
            throw wrong();
        }
        return told;
    }

    int fault() {
        try {
            readBar(new Bar());
        } catch (Fault fault) {
            return fault.index;
        }
        return NONE;
    }

    int readInto(int measure) {
        Bar bar = bar(measure);
        if (fault() != NONE) {
            return -2000 - fault();
        }
        save();
        Bar told = readBar(bar);
        bars.set(measure, told);
        return told.voices.get(0).size() + told.voices.get(1).size();
    }

    boolean tells(int measure) {
        Bar bar = bar(measure);
        if (fault() != NONE) {
            return false;
        }
        Bar told = readBar(bar);
        return java.util.Arrays.equals(told.values, bar.values) && told.voices.equals(bar.voices);
    }

    // ---- what if, undo and checksum

    int changedBy(int measure, int key) {
        bar(measure);
        range(key, -7, 7);
        List<Bar> other = copy(bars);
        other.get(measure).values[0] = key;
        int number = 0;
        for (int voice = 0; voice < 2; voice++) {
            for (int event = 0; event < voice(measure, voice).size(); event++) {
                boolean note = voice(measure, voice).get(event).note;
                number += note && sound(bars, measure, voice, event) != sound(other, measure, voice, event) ? 1 : 0;
            }
        }
        return number;
    }

    int nearestKey(int measure) {
        int own = bar(measure).values[0];
        int nearest = NONE;
        for (int key = 7; key >= -7; key--) {
            if (key != own && (nearest == NONE || changedBy(measure, key) <= changedBy(measure, nearest))) {
                nearest = key;
            }
        }
        return nearest;
    }

    int needlessSigns(int measure) {
        bar(measure);
        int number = 0;
        for (int voice = 0; voice < 2; voice++) {
            for (int event = 0; event < voice(measure, voice).size(); event++) {
                Event note = voice(measure, voice).get(event);
                if (note.sign > 0) {
                    List<Bar> other = copy(bars);
                    other.get(measure).voices.get(voice).set(event, new Event(true, note.pitch, 0, note.duration, note.tied));
                    number += sound(bars, measure, voice, event) == sound(other, measure, voice, event) ? 1 : 0;
                }
            }
        }
        return number;
    }

    int undo() {
        state(!saved.isEmpty());
        bars = saved.removeLast();
        return saved.size();
    }

    long digest() {
        List<Long> values = new ArrayList<>();
        values.add((long) saved.size());
        for (int what = 0; what <= 8; what++) {
            values.add((long) whole(what));
        }
        for (int measure = 0; measure < bars.size(); measure++) {
            for (int what = 0; what <= 11; what++) {
                values.add((long) measure(measure, what));
            }
            for (int voice = 0; voice < 2; voice++) {
                for (int event = 0; event < voice(measure, voice).size(); event++) {
                    for (int what = 0; what <= 9; what++) {
                        values.add((long) event(measure, voice, event, what));
                    }
                }
            }
            values.add((long) crossings(measure));
            values.add((long) timesPlayed(measure));
            sentence(measure).chars().forEach(value -> values.add((long) value));
        }
        playing().forEach(measure -> values.add((long) measure));
        values.add((long) fault());
        long hash = 43179L;
        for (long value : values) {
            hash = 31 * hash + value;
        }
        return hash;
    }
}

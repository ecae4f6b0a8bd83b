import java.util.List;
import java.util.function.Supplier;

/** Music that the tests begin with: each method makes the same music whenever it is called. */
final class Made {
    static final String RICH_TEXT = "bar 1 key 3 flat time 6 8 voice 1 c 4 half tied e flat 4 quarter voice 2 rest half end";
    static final List<Supplier<Music>> ALL = List.of(Music::new, Made::young, Made::rich, Made::wide);

    private Made() {
    }

    static Music bars(int measures) {
        Music music = new Music();
        for (int count = 0; count < measures; count++) {
            music.addMeasure();
        }
        return music;
    }

    /** One measure, one saved state, no text. */
    static Music young() {
        return bars(1);
    }

    /** Three measures that repeat, with events in both voices; four saved states that differ; a text without a fault. */
    static Music rich() {
        Music music = bars(3);
        music.set(0, 4, 1);
        music.set(1, 6, 1);
        music.set(1, 5, 2);
        music.set(2, 6, 2);
        music.addNote(0, 0, 31, 1, 4, true);
        music.addNote(0, 0, 31, 0, 5, false);
        music.addNote(1, 0, 28, 0, 4, true);
        music.addNote(0, 1, 38, 2, 0, true);
        music.addNote(1, 1, 38, 0, 1, true);
        type(music, RICH_TEXT);
        music.addRest(0, 0, 6);
        music.addRest(2, 1, 9);
        music.set(2, 0, -3);
        music.set(1, 3, 77);
        return music;
    }

    /** Sixteen measures of the tempos 100 to 115, a note in each, of the pitches 30 to 45; a text with a fault. */
    static Music wide() {
        Music music = bars(16);
        for (int measure = 0; measure < 16; measure++) {
            music.set(measure, 3, 100 + measure);
            music.addNote(measure, measure % 2, 30 + measure, 0, 2, false);
        }
        type(music, "bar 7 open x");
        return music;
    }

    /** One measure with so many rests, sixteenths, in its voices. */
    static Music rests(int ofVoice0, int ofVoice1) {
        Music music = bars(1);
        addRests(music, 0, ofVoice0);
        addRests(music, 1, ofVoice1);
        return music;
    }

    private static void addRests(Music music, int voice, int many) {
        for (int count = 0; count < many; count++) {
            music.addRest(0, voice, 8);
        }
    }

    /** Adds events behind those of a voice: a note of {pitch, sign, duration, 1 if tied}, or a rest of {duration}. */
    static void add(Music music, int measure, int voice, int[]... events) {
        for (int[] event : events) {
            if (event.length == 1) {
                music.addRest(measure, voice, event[0]);
            } else {
                music.addNote(measure, voice, event[0], event[1], event[2], event[3] == 1);
            }
        }
    }

    /** One measure with a sentence of 598 to 601 bytes: "bar 1 key plain time 4 4 voice 1 .. voice 2 .. end", with rests. */
    static Music longSentence(int length) {
        int[][] lastTwo = {{1, 0}, {8, 8}, {0, 5}, {6, 5}};
        Music music = rests(24, 11);
        for (int duration : lastTwo[length - 598]) {
            music.addRest(0, 1, duration);
        }
        Check.equal("length of the sentence that the test makes", music.sentenceLength(0), length);
        return music;
    }

    /** Sixteen measures, the last one with the longest sentence that there is. */
    static Music longest() {
        Music music = bars(16);
        int[] values = {7, 12, 16, 20, 1, 4, 4};
        for (int what = 0; what < values.length; what++) {
            music.set(15, what, values[what]);
        }
        for (int count = 0; count < 48; count++) {
            music.addNote(15, count % 2, 60, 3, 9, true);
        }
        return music;
    }

    /** Sixteen measures with 24 events in both voices: a chain of 384 tied halves in voice 0, halves in voice 1, all c 4. */
    static Music full() {
        Music music = bars(16);
        for (int event = 0; event < 24; event++) {
            music.addNote(0, 0, 28, 0, 2, true);
            music.addNote(0, 1, 28, 0, 2, false);
        }
        music.copySentence(0);
        for (int measure = 1; measure < 16; measure++) {
            music.readInto(measure);
        }
        return music;
    }

    /** A letter each: o opens, 2 to 4 closes with so many times, a to d is of ending 1 to 4; measures in between spaces. */
    static Music repeats(String plan) {
        String[] measures = plan.split(" ");
        Music music = bars(measures.length);
        for (int measure = 0; measure < measures.length; measure++) {
            for (char letter : measures[measure].toCharArray()) {
                if (letter == 'o') {
                    music.set(measure, 4, 1);
                } else if (letter >= '2' && letter <= '4') {
                    music.set(measure, 5, letter - '0');
                } else if (letter >= 'a' && letter <= 'd') {
                    music.set(measure, 6, letter - 'a' + 1);
                }
            }
        }
        return music;
    }

    /** A text of 598 to 600 bytes that tells measure 0. */
    static Music longText(int length) {
        Music music = longSentence(length);
        music.copySentence(0);
        return music;
    }

    static void type(Music music, String text) {
        for (int index = 0; index < text.length(); index++) {
            music.type(text.charAt(index));
        }
    }

    /** Music without measures, with a text. */
    static Music text(String text) {
        Music music = new Music();
        type(music, text);
        return music;
    }
}

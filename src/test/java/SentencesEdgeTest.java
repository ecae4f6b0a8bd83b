import java.util.ArrayList;
import java.util.List;
import java.util.function.Supplier;

/** Sentences and promises 17 to 20, sentence by sentence: what stands just inside and just outside of the boundaries. */
final class SentencesEdgeTest {
    static final List<Edge> EDGES = new ArrayList<>();

    static {
        ofWording();
        ofAsking();
        ofCopySentence();
    }

    private static void ofWording() {
        EDGES.add(new Edge(18, "The sentence of a measure consists of words and numbers, with one space (byte 32) between "
                + "two of them:", SentencesEdgeTest::spaces));
        EDGES.add(new Edge(18, "(1) \"bar\", and the number of the measure plus 1;", SentencesEdgeTest::numbersOfBars));
        EDGES.add(new Edge(18, "(2) \"open\" if it opens a repeat;", SentencesEdgeTest::openings));
        EDGES.add(new Edge(18, "(3) \"ending\" and its number, if it is of one;", SentencesEdgeTest::endings));
        EDGES.add(new Edge(18, "(4) if it is the first measure, or has another key than the one before it: \"key\", and "
                + "then", SentencesEdgeTest::keysThatAreTold));
        EDGES.add(new Edge(18, "\"plain\" for the key 0, or the number of signs and \"sharp\" or \"flat\";",
                SentencesEdgeTest::wordsOfKeys));
        EDGES.add(new Edge(18, "(5) if it is the first measure, or has another time than the one before it (another upper "
                + "or lower number): \"time\", the upper and the lower number;", SentencesEdgeTest::times));
        EDGES.add(new Edge(18, "(6) for each voice that has events: \"voice\", its number plus 1, and its events:",
                SentencesEdgeTest::voices));
        EDGES.add(new Edge(18, "for a note, its letter (c, d, e, f, g, a, b), \"sharp\", \"flat\" or \"natural\" if it has "
                + "a sign, its octave, \"dotted\" if it is dotted, \"whole\", \"half\", \"quarter\", \"eighth\" or "
                + "\"sixteenth\", and \"tied\" if it is tied;", SentencesEdgeTest::notes));
        EDGES.add(new Edge(18, "for a rest, \"rest\", \"dotted\" if it is dotted, and the value as for a note;",
                SentencesEdgeTest::rests));
        EDGES.add(new Edge(18, "(7) \"back\" and the times, if it closes a repeat;", SentencesEdgeTest::closings));
        EDGES.add(new Edge(18, "(8) \"end\".", SentencesEdgeTest::ends));
        EDGES.add(new Edge(18, "Numbers are written in decimal digits.", SentencesEdgeTest::digits));
    }

    private static void ofAsking() {
        EDGES.add(new Edge(17, "Returns the length of the sentence of a measure.", SentencesEdgeTest::shortestAndLongest));
        EDGES.add(new Edge(17, "Returns the number of bytes.", SentencesEdgeTest::lengthsAround600));
        EDGES.add(new Edge(17, Edge.NO_MEASURE, () -> Check.refusesMeasures("sentenceLength()", Music::sentenceLength)));
        EDGES.add(new Edge(18, "Returns a byte of the sentence of a measure.", SentencesEdgeTest::bytes));
        EDGES.add(new Edge(18, "index: 0 or more", SentencesEdgeTest::nearAndFarIndexes));
        EDGES.add(new Edge(18, "Returns the byte; NONE if the sentence has not so many.",
                SentencesEdgeTest::behindTheLastByte));
        EDGES.add(new Edge(18, Edge.NO_MEASURE,
                () -> Check.refusesMeasures("sentenceByte()", (music, measure) -> music.sentenceByte(measure, 0))));
        EDGES.add(new Edge(18, "Throws IllegalArgumentException if index is negative", SentencesEdgeTest::negativeIndexes));
        EDGES.add(new Edge(18, Edge.FIRST_LISTED, SentencesEdgeTest::sentenceByteFirstListed));
        EDGES.add(new Edge(18, Edge.NONE_LAST,
                () -> Check.refusedPlace("a far index of no measure", Made::rich, music -> music.sentenceByte(3, 9999))));
        EDGES.add(new Edge(19, "Counts the words and numbers of the sentence of a measure.",
                SentencesEdgeTest::fewestAndMostWords));
        EDGES.add(new Edge(19, Edge.RETURNS_NUMBER, SentencesEdgeTest::wordsOfEachKind));
        EDGES.add(new Edge(19, Edge.NO_MEASURE, () -> Check.refusesMeasures("words()", Music::words)));
    }

    private static void ofCopySentence() {
        EDGES.add(new Edge(20, "Makes the sentence of a measure the text.", SentencesEdgeTest::copies));
        EDGES.add(new Edge(20, Edge.RETURNS_LENGTH, SentencesEdgeTest::lengthsOfCopies));
        EDGES.add(new Edge(20, Edge.NO_MEASURE, () -> Check.refusesMeasures("copySentence()", Music::copySentence)));
        EDGES.add(new Edge(20, "Throws IllegalStateException if the sentence has more than 600 bytes",
                SentencesEdgeTest::sentencesOver600));
        EDGES.add(new Edge(20, Edge.FIRST_LISTED, SentencesEdgeTest::copySentenceFirstListed));
        EDGES.add(new Edge(20, "saves the whole state but the text", SentencesEdgeTest::copiesAreNotSaved));
    }

    public static void main(String[] args) {
        Check.run(EDGES);
    }

    private static void told(Music music, int measure, String due) {
        Check.equal("sentence of measure " + measure, Check.sentence(music, measure), due);
        Check.equal("sentenceLength() of \"" + due + "\"", music.sentenceLength(measure), due.length());
        Check.equal("words() of \"" + due + "\"", music.words(measure), due.split(" ").length);
    }

    /** Measures of which the last one has the value. */
    private static Music with(int measures, int what, int value) {
        Music music = Made.bars(measures);
        music.set(measures - 1, what, value);
        return music;
    }

    // ---- sentences

    private static void spaces() {
        told(Made.bars(2), 1, "bar 2 end");
        Music music = Made.longest();
        String sentence = Check.sentence(Made::longest, 15);
        Check.isTrue("no space ahead and behind", sentence.equals(sentence.strip()));
        Check.isTrue("no two spaces", !sentence.contains("  "));
        Check.equal("the byte between", music.sentenceByte(15, 3), 32);
        Check.equal("the first byte", music.sentenceByte(15, 0), 'b');
        Check.equal("the last byte", music.sentenceByte(15, sentence.length() - 1), 'd');
    }

    private static void numbersOfBars() {
        for (int measure = 1; measure < 16; measure++) {
            told(Made.bars(16), measure, "bar " + (measure + 1) + " end");
        }
        told(Made.bars(16), 0, "bar 1 key plain time 4 4 end");
        Music removed = Made.bars(16);
        removed.removeMeasure(0);
        told(removed, 14, "bar 15 end");
    }

    private static void openings() {
        told(with(2, 4, 1), 1, "bar 2 open end");
        told(with(2, 4, 0), 1, "bar 2 end");
        told(with(1, 4, 1), 0, "bar 1 open key plain time 4 4 end");
    }

    private static void endings() {
        told(with(2, 6, 0), 1, "bar 2 end");
        for (int ending = 1; ending <= 4; ending++) {
            told(with(2, 6, ending), 1, "bar 2 ending " + ending + " end");
        }
        Music music = with(2, 6, 4);
        music.set(1, 4, 1);
        music.set(1, 0, -1);
        told(music, 1, "bar 2 open ending 4 key 1 flat end");
    }

    private static void keysThatAreTold() {
        told(with(1, 0, 0), 0, "bar 1 key plain time 4 4 end");
        told(with(1, 0, 3), 0, "bar 1 key 3 sharp time 4 4 end");
        Music music = Made.bars(1);
        music.set(0, 0, 3);
        music.addMeasure();
        told(music, 1, "bar 2 end");
        music.set(1, 0, -3);
        told(music, 1, "bar 2 key 3 flat end");
        music.set(1, 0, 2);
        told(music, 1, "bar 2 key 2 sharp end");
        music.set(1, 0, 4);
        told(music, 1, "bar 2 key 4 sharp end");
        music.set(0, 0, 4);
        told(music, 1, "bar 2 end");
        music.removeMeasure(0);
        told(music, 0, "bar 1 key 4 sharp time 4 4 end");
        Music between = Made.bars(3);
        between.set(1, 0, 5);
        told(between, 2, "bar 3 key plain end");
        between.removeMeasure(1);
        told(between, 1, "bar 2 end");
        Music sixteenth = with(16, 0, 7);
        told(sixteenth, 15, "bar 16 key 7 sharp end");
        told(sixteenth, 14, "bar 15 end");
    }

    private static void wordsOfKeys() {
        for (int key = -7; key <= 7; key++) {
            String due = key == 0 ? "plain" : Math.abs(key) + (key > 0 ? " sharp" : " flat");
            told(with(1, 0, key), 0, "bar 1 key " + due + " time 4 4 end");
        }
    }

    private static void times() {
        told(with(1, 1, 4), 0, "bar 1 key plain time 4 4 end");
        told(with(2, 1, 4), 1, "bar 2 end");
        for (int upper = 1; upper <= 12; upper++) {
            told(with(2, 1, upper), 1, upper == 4 ? "bar 2 end" : "bar 2 time " + upper + " 4 end");
        }
        for (int lower = 2; lower <= 16; lower *= 2) {
            told(with(2, 2, lower), 1, lower == 4 ? "bar 2 end" : "bar 2 time 4 " + lower + " end");
        }
        Music asLong = with(2, 2, 8);
        asLong.set(1, 1, 8);
        told(asLong, 1, "bar 2 time 8 8 end");
        Music first = Made.bars(2);
        first.set(0, 1, 12);
        told(first, 0, "bar 1 key plain time 12 4 end");
        told(first, 1, "bar 2 time 4 4 end");
        first.removeMeasure(0);
        told(first, 0, "bar 1 key plain time 4 4 end");
        told(with(2, 3, 300), 1, "bar 2 end");
    }

    private static void voices() {
        Music music = Made.bars(2);
        told(music, 1, "bar 2 end");
        music.addRest(1, 1, 0);
        told(music, 1, "bar 2 voice 2 rest whole end");
        music.addRest(1, 0, 2);
        told(music, 1, "bar 2 voice 1 rest half voice 2 rest whole end");
        music.removeEvent(1, 1, 0);
        told(music, 1, "bar 2 voice 1 rest half end");
        music.addRest(1, 0, 4);
        told(music, 1, "bar 2 voice 1 rest half rest quarter end");
        music.removeEvent(1, 0, 0);
        music.removeEvent(1, 0, 0);
        told(music, 1, "bar 2 end");
        Supplier<Music> full = () -> Made.rests(24, 23);
        Check.equal("a sentence of 24 and 23 events", Check.sentence(full, 0), "bar 1 key plain time 4 4 voice 1"
                + " rest sixteenth".repeat(24) + " voice 2" + " rest sixteenth".repeat(23) + " end");
    }

    private static void notes() {
        String[] signs = {"", "sharp ", "flat ", "natural "};
        String[] values = {"whole", "half", "quarter", "eighth", "sixteenth"};
        for (int pitch = 0; pitch <= 62; pitch++) {
            for (int sign = 0; sign <= 3; sign++) {
                int duration = (pitch + 3 * sign) % 10;
                boolean tied = (pitch + sign) % 2 == 0;
                Music music = Made.bars(2);
                music.addNote(1, pitch % 2, pitch, sign, duration, tied);
                told(music, 1, "bar 2 voice " + (1 + pitch % 2) + " " + "cdefgab".charAt(pitch % 7) + " " + signs[sign]
                        + pitch / 7 + " " + (duration % 2 == 1 ? "dotted " : "") + values[duration / 2]
                        + (tied ? " tied" : "") + " end");
            }
        }
        Music music = Made.bars(2);
        Made.add(music, 1, 0, new int[] {0, 0, 0, 0}, new int[] {62, 3, 9, 1});
        told(music, 1, "bar 2 voice 1 c 0 whole b natural 8 dotted sixteenth tied end");
    }

    private static void rests() {
        String[] values = {"whole", "dotted whole", "half", "dotted half", "quarter", "dotted quarter", "eighth",
            "dotted eighth", "sixteenth", "dotted sixteenth"};
        for (int duration = 0; duration <= 9; duration++) {
            Music music = Made.bars(2);
            music.addRest(1, 1, duration);
            told(music, 1, "bar 2 voice 2 rest " + values[duration] + " end");
        }
    }

    private static void closings() {
        told(with(2, 5, 0), 1, "bar 2 end");
        for (int times = 2; times <= 4; times++) {
            told(with(2, 5, times), 1, "bar 2 back " + times + " end");
        }
        Music music = with(2, 5, 3);
        music.addRest(1, 0, 8);
        told(music, 1, "bar 2 voice 1 rest sixteenth back 3 end");
    }

    private static void ends() {
        told(Made.bars(2), 1, "bar 2 end");
        String longest = Check.sentence(Made::longest, 15);
        Check.isTrue("the longest sentence ends", longest.endsWith(" tied back 4 end"));
    }

    private static void digits() {
        told(with(9, 1, 9), 8, "bar 9 time 9 4 end");
        told(with(10, 1, 10), 9, "bar 10 time 10 4 end");
        told(with(11, 1, 11), 10, "bar 11 time 11 4 end");
        told(with(16, 2, 16), 15, "bar 16 time 4 16 end");
        told(with(16, 1, 1), 15, "bar 16 time 1 4 end");
    }

    // ---- promises 17 to 19

    private static void shortestAndLongest() {
        Check.equal("length of \"bar 2 end\"", Made.bars(2).sentenceLength(1), 9);
        Check.equal("length of \"bar 10 end\"", Made.bars(10).sentenceLength(9), 10);
        Check.equal("length of \"bar 1 key plain time 4 4 end\"", Made.bars(1).sentenceLength(0), 28);
        Check.equal("the longest sentence", Made.longest().sentenceLength(15), 1702);
    }

    private static void lengthsAround600() {
        for (int length = 598; length <= 601; length++) {
            int due = length;
            Check.equal("bytes of a sentence of " + length, Check.sentence(() -> Made.longSentence(due), 0).length(),
                    length);
        }
    }

    private static void bytes() {
        String due = "bar 1 key plain time 4 4 end";
        for (int index = 0; index < due.length(); index++) {
            Check.equal("sentenceByte(0, " + index + ")", Made.young().sentenceByte(0, index), due.charAt(index));
        }
        String long600 = Check.sentence(() -> Made.longSentence(600), 0);
        Music music = Made.longSentence(600);
        for (int index : new int[] {0, 1, 36, 298, 598, 599}) {
            Check.equal("sentenceByte(0, " + index + ") of 600", music.sentenceByte(0, index), long600.charAt(index));
        }
    }

    private static void nearAndFarIndexes() {
        Check.equal("index 0", Made.rich().sentenceByte(2, 0), 'b');
        Check.equal("the highest index", Made.rich().sentenceByte(2, Integer.MAX_VALUE), Music.NONE);
        Check.equal("index 1701 of 1702", Made.longest().sentenceByte(15, 1701), 'd');
        Check.equal("index 1702 of 1702", Made.longest().sentenceByte(15, 1702), Music.NONE);
        Check.refusedValue("index -1", Made::rich, music -> music.sentenceByte(2, -1));
    }

    private static void behindTheLastByte() {
        Check.equal("the last byte of 9", Made.bars(2).sentenceByte(1, 8), 'd');
        Check.equal("behind the last byte of 9", Made.bars(2).sentenceByte(1, 9), Music.NONE);
        Music music = Made.bars(2);
        Check.equal("a byte of the longer sentence", music.sentenceByte(0, 9), ' ');
        Check.equal("behind the shorter one, told next", music.sentenceByte(1, 9), Music.NONE);
        Check.equal("the last byte of 600", Made.longSentence(600).sentenceByte(0, 599), 'd');
        Check.equal("behind the last byte of 600", Made.longSentence(600).sentenceByte(0, 600), Music.NONE);
        Check.equal("the last byte of 601", Made.longSentence(601).sentenceByte(0, 600), 'd');
        Check.equal("behind the last byte of 601", Made.longSentence(601).sentenceByte(0, 601), Music.NONE);
    }

    private static void negativeIndexes() {
        for (int index : new int[] {-1, -9, Integer.MIN_VALUE}) {
            Check.refusedValue("sentenceByte(0, " + index + ")", Made::rich, music -> music.sentenceByte(0, index));
        }
        Check.equal("sentenceByte(0, 0)", Made.rich().sentenceByte(0, 0), 'b');
    }

    private static void sentenceByteFirstListed() {
        Check.refusedPlace("sentenceByte(3, -1)", Made::rich, music -> music.sentenceByte(3, -1));
        Check.refusedPlace("sentenceByte(-1, -1)", Made::rich, music -> music.sentenceByte(-1, -1));
        Check.refusedPlace("sentenceByte(0, -1) without measures", Music::new, music -> music.sentenceByte(0, -1));
    }

    private static void fewestAndMostWords() {
        Check.equal("words of \"bar 2 end\"", Made.bars(2).words(1), 3);
        Check.equal("words of \"bar 10 end\"", Made.bars(10).words(9), 3);
        Check.equal("words of the longest sentence", Made.longest().words(15), 11 + 2 * (2 + 24 * 6) + 3);
    }

    private static void wordsOfEachKind() {
        int[][] whatValueWords = {{4, 1, 1}, {6, 2, 2}, {0, 0, 0}, {0, 5, 3}, {1, 12, 3}, {2, 16, 3}, {5, 3, 2}, {3, 20, 0}};
        for (int[] row : whatValueWords) {
            Check.equal("words with value " + row[0], with(2, row[0], row[1]).words(1), 3 + row[2]);
        }
        Check.equal("words of a first measure", Made.young().words(0), 8);
        int[][] events = {{0, 0, 0, 0}, {0, 1, 0, 0}, {0, 2, 1, 0}, {0, 3, 1, 1}, {0, 0, 0, 1}, {0}, {1}};
        int[] due = {3, 4, 5, 6, 4, 2, 3};
        for (int index = 0; index < due.length; index++) {
            Music music = Made.bars(2);
            Made.add(music, 1, 0, events[index]);
            Check.equal("words with an event, row " + index, music.words(1), 3 + 2 + due[index]);
        }
        Music plain = Made.bars(1);
        plain.set(0, 0, 1);
        plain.addMeasure();
        plain.set(1, 0, 0);
        Check.equal("words of \"bar 2 key plain end\"", plain.words(1), 5);
    }

    // ---- promise 20: copySentence

    private static void copies() {
        for (int measure = 0; measure < 3; measure++) {
            Music music = Made.rich();
            music.copySentence(measure);
            Check.equal("fault of the copy", music.fault(), Music.NONE);
            Check.isTrue("the copy tells its measure", music.tells(measure));
        }
        Music overLonger = Made.text("bar 1 key plain time 4 4 end and what is left of a text that was longer");
        overLonger.addMeasure();
        overLonger.copySentence(0);
        Check.equal("fault behind a longer text", overLonger.fault(), Music.NONE);
        Check.equal("type() behind a longer text", overLonger.type(' '), 29);
        Check.equal("fault with a space more", overLonger.fault(), Music.NONE);
        Music overFull = Made.longText(600);
        overFull.addMeasure();
        Check.equal("copySentence() over a full text", overFull.copySentence(1), 9);
        Check.equal("type() behind it", overFull.type('x'), 10);
        Check.equal("fault behind it", overFull.fault(), 6);
        Music later = Made.bars(2);
        later.copySentence(1);
        later.addRest(1, 0, 4);
        Check.equal("the text behind a change of the measure", later.whole(8), 9);
        Check.isTrue("the text tells the changed measure no more", !later.tells(1));
    }

    private static void lengthsOfCopies() {
        Check.equal("copySentence() of the shortest", Made.bars(2).copySentence(1), 9);
        Check.equal("copySentence() of \"bar 16 end\"", Made.bars(16).copySentence(15), 10);
        for (int length = 598; length <= 600; length++) {
            Music music = Made.longSentence(length);
            Check.equal("copySentence() of " + length, music.copySentence(0), length);
            Check.equal("whole(8)", music.whole(8), length);
            Check.equal("copySentence() again", music.copySentence(0), length);
        }
    }

    private static void sentencesOver600() {
        Music just = Made.longText(600);
        Check.isTrue("a text of 600 tells its measure", just.tells(0));
        Check.refusedState("copySentence() of 601", () -> Made.longSentence(601), music -> music.copySentence(0));
        Check.refusedState("copySentence() of 601 with a text", SentencesEdgeTest::longWithText,
                music -> music.copySentence(0));
        Check.refusedState("copySentence() of the longest", Made::longest, music -> music.copySentence(15));
        Music shorter = Made.longSentence(601);
        shorter.removeEvent(0, 1, 12);
        Check.equal("copySentence() of it, shorter", shorter.copySentence(0), 581);
        Music later = Made.longText(600);
        later.addRest(0, 1, 4);
        Check.badState("copySentence() of it, longer", () -> later.copySentence(0));
        Check.equal("the text stays", later.whole(8), 600);
    }

    private static Music longWithText() {
        Music music = Made.longSentence(601);
        Made.type(music, Made.RICH_TEXT);
        return music;
    }

    private static void copySentenceFirstListed() {
        Check.refusedPlace("no measure beside one of 601", () -> Made.longSentence(601), music -> music.copySentence(1));
        Check.refusedPlace("no measure beside the longest", Made::longest, music -> music.copySentence(16));
        Check.refusedPlace("no measure beside the longest", Made::longest, music -> music.copySentence(-1));
    }

    private static void copiesAreNotSaved() {
        Check.savesNothing("copySentence()", Made::young, music -> music.copySentence(0));
        Check.savesNothing("copySentence()", Made::rich, music -> music.copySentence(2));
        Check.savesNothing("copySentence() of 600", () -> Made.longSentence(600), music -> music.copySentence(0));
        Music music = Made.rich();
        music.copySentence(2);
        int length = music.whole(8);
        music.undo();
        Check.equal("length of the text behind undo()", music.whole(8), length);
    }
}

/** Promises 17 to 20: the sentence of a measure, and the text that it becomes. */
final class SentencesTest {
    public static void main(String[] args) {
        heads();
        events();
        allNotes();
        bytes();
        longest();
        copySentence();
        Check.end();
    }

    private static void told(Music bars, int measure, String due) {
        Check.equal("sentence", Check.sentence(bars, measure), due);
        Check.equal("length of " + due, bars.sentenceLength(measure), due.length());
        Check.equal("words of " + due, bars.words(measure), due.split(" ").length);
    }

    private static void heads() {
        Music bars = Made.bars(3);
        told(Made.bars(3), 0, "bar 1 key plain time 4 4 end");
        told(bars, 1, "bar 2 end");
        bars.set(0, 0, -7);
        told(bars, 0, "bar 1 key 7 flat time 4 4 end");
        told(bars, 1, "bar 2 key plain end");
        bars.set(1, 0, 1);
        told(bars, 1, "bar 2 key 1 sharp end");
        bars.set(1, 0, -1);
        told(bars, 1, "bar 2 key 1 flat end");
        bars.set(1, 0, 3);
        told(bars, 1, "bar 2 key 3 sharp end");
        bars.set(1, 1, 12);
        told(bars, 1, "bar 2 key 3 sharp time 12 4 end");
        bars.set(1, 1, 4);
        bars.set(1, 2, 16);
        told(bars, 1, "bar 2 key 3 sharp time 4 16 end");
        told(bars, 2, "bar 3 key plain time 4 4 end");
        bars.set(2, 4, 1);
        bars.set(2, 5, 4);
        bars.set(2, 6, 2);
        told(bars, 2, "bar 3 open ending 2 key plain time 4 4 back 4 end");
        bars.set(2, 3, 60);
        told(bars, 2, "bar 3 open ending 2 key plain time 4 4 back 4 end");
        bars.removeMeasure(0);
        bars.removeMeasure(0);
        told(bars, 0, "bar 1 open ending 2 key plain time 4 4 back 4 end");
        Music many = Made.bars(16);
        told(many, 8, "bar 9 end");
        told(many, 9, "bar 10 end");
        told(many, 15, "bar 16 end");
    }

    private static void events() {
        Music bars = Made.bars(2);
        bars.addNote(1, 1, 33, 3, 5, true);
        told(bars, 1, "bar 2 voice 2 a natural 4 dotted quarter tied end");
        bars.addRest(1, 1, 8);
        bars.addRest(1, 1, 3);
        bars.addNote(1, 0, 0, 2, 0, false);
        told(bars, 1, "bar 2 voice 1 c flat 0 whole voice 2 a natural 4 dotted quarter tied rest sixteenth"
                + " rest dotted half end");
        bars.addNote(1, 0, 62, 1, 7, true);
        bars.set(1, 5, 2);
        told(bars, 1, "bar 2 voice 1 c flat 0 whole b sharp 8 dotted eighth tied"
                + " voice 2 a natural 4 dotted quarter tied rest sixteenth rest dotted half back 2 end");
    }

    private static void allNotes() {
        String[] lengths = {"whole", "half", "quarter", "eighth", "sixteenth"};
        String[] signs = {"", "sharp ", "flat ", "natural "};
        for (int pitch = 0; pitch <= 62; pitch++) {
            Music bars = Made.bars(2);
            int sign = pitch % 4;
            int duration = pitch % 10;
            bars.addNote(1, 0, pitch, sign, duration, false);
            told(bars, 1, "bar 2 voice 1 " + "cdefgab".charAt(pitch % 7) + " " + signs[sign] + pitch / 7
                    + (duration % 2 == 1 ? " dotted " : " ") + lengths[duration / 2] + " end");
        }
    }

    private static void bytes() {
        Music bars = Made.bars(2);
        Check.equal("sentenceByte(1, 0)", bars.sentenceByte(1, 0), 'b');
        Check.equal("sentenceByte(1, 3)", bars.sentenceByte(1, 3), ' ');
        Check.equal("sentenceByte(1, 8)", bars.sentenceByte(1, 8), 'd');
        Check.equal("sentenceByte(1, 9)", bars.sentenceByte(1, 9), Music.NONE);
        Check.equal("sentenceByte() far behind", bars.sentenceByte(1, Integer.MAX_VALUE), Music.NONE);
        Check.noPlace("sentenceByte(2, -1)", () -> bars.sentenceByte(2, -1));
        Check.noPlace("sentenceByte(-1, 0)", () -> bars.sentenceByte(-1, 0));
        Check.badValue("sentenceByte(0, -1)", () -> bars.sentenceByte(0, -1));
        Check.noPlace("sentenceLength(2)", () -> bars.sentenceLength(2));
        Check.noPlace("sentenceLength(-1)", () -> bars.sentenceLength(-1));
        Check.noPlace("words(2)", () -> bars.words(2));
        Check.noPlace("words(-1)", () -> bars.words(-1));
    }

    private static void longest() {
        StringBuilder due = new StringBuilder("bar 16 open ending 4 key 7 sharp time 12 16");
        for (int voice = 1; voice <= 2; voice++) {
            due.append(" voice ").append(voice).append(" g natural 8 dotted sixteenth tied".repeat(24));
        }
        due.append(" back 4 end");
        Check.equal("the longest sentence", Check.sentence(Made::longest, 15), due.toString());
        Check.equal("length of the longest sentence", Made.longest().sentenceLength(15), 1702);
        Check.equal("words of the longest sentence", Made.longest().words(15), due.toString().split(" ").length);
    }

    private static void copySentence() {
        Music bars = Made.bars(2);
        Check.typeText(bars, "something longer than the sentence");
        Check.equal("copySentence(1)", bars.copySentence(1), 9);
        Check.equal("length of the text", bars.whole(8), 9);
        Check.equal("fault of the copy", bars.fault(), Music.NONE);
        Check.isTrue("the copy tells its measure", bars.tells(1));
        bars.cut(1);
        Check.equal("fault of the cut copy", bars.fault(), 6);
        Check.noPlace("copySentence(2)", () -> bars.copySentence(2));
        Check.noPlace("copySentence(-1)", () -> bars.copySentence(-1));
        // "bar 2", "voice 1" with 24 rests of 15 bytes, "voice 2" and "end": 384 and its events
        for (int count = 0; count < 24; count++) {
            bars.addRest(1, 0, 8);
        }
        for (int count = 0; count < 12; count++) {
            bars.addRest(1, 1, 8);
        }
        told600(bars);
    }

    private static void told600(Music bars) {
        Check.equal("sentence ahead of 600", bars.sentenceLength(1), 5 + 8 + 24 * 15 + 8 + 12 * 15 + 4);
        bars.addNote(1, 1, 0, 0, 2, true);
        Check.equal("sentence behind a note", bars.sentenceLength(1), 565 + 14);
        bars.addRest(1, 1, 8);
        bars.set(1, 4, 1);
        Check.equal("sentence that opens", bars.sentenceLength(1), 599);
        Check.equal("copySentence() of 599", bars.copySentence(1), 599);
        bars.removeEvent(1, 1, 12);
        bars.addNote(1, 1, 0, 0, 0, true);
        Check.equal("sentence of 600", bars.sentenceLength(1), 600);
        Check.equal("copySentence() of 600", bars.copySentence(1), 600);
        Check.badState("type() behind 600", () -> bars.type(32));
        Check.isTrue("a text of 600 tells its measure", bars.tells(1));
        bars.removeEvent(1, 1, 13);
        bars.addNote(1, 1, 0, 0, 6, true);
        Check.equal("sentence of 601", bars.sentenceLength(1), 601);
        Check.badState("copySentence() of 601", () -> bars.copySentence(1));
        Check.equal("length of the text behind it", bars.whole(8), 600);
        Check.isTrue("the text is not the sentence of 601", !bars.tells(1));
    }
}

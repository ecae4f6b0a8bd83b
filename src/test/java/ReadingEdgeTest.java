import java.util.ArrayList;
import java.util.List;
import java.util.function.Supplier;

/** Reading back and promises 24 to 26, sentence by sentence: what stands just inside and just outside of the boundaries. */
final class ReadingEdgeTest {
    static final List<Edge> EDGES = new ArrayList<>();
    private static final int NONE = Music.NONE;

    static {
        ofParts();
        ofNumbers();
        ofFaults();
        ofReadInto();
        ofTells();
    }

    private static void ofParts() {
        EDGES.add(new Edge(24, "It can be read back if it has the parts (1) to (8) in this order",
                ReadingEdgeTest::partsInOrder));
        EDGES.add(new Edge(24, "(all but (1), (6), (8) as above can be left out;", ReadingEdgeTest::partsLeftOut));
        EDGES.add(new Edge(24, "\"voice 1\", if it is there, comes before \"voice 2\", behind which no \"voice\" can stand;",
                ReadingEdgeTest::voicesInOrder));
        EDGES.add(new Edge(24, "each of them has at least one event, and they can both be left out),",
                ReadingEdgeTest::voicesWithEvents));
        EDGES.add(new Edge(24, "with one space at least between two words or numbers, and any spaces at the beginning and "
                + "at the end.", ReadingEdgeTest::spaces));
    }

    private static void ofNumbers() {
        EDGES.add(new Edge(24, "Numbers have one to three digits (zeros in front are allowed):", ReadingEdgeTest::digits));
        EDGES.add(new Edge(24, "that of the bar is any;", ReadingEdgeTest::numbersOfBars));
        EDGES.add(new Edge(24, "those of endings 1 to 4;", ReadingEdgeTest::numbersOfEndings));
        EDGES.add(new Edge(24, "of signs 1 to 7;", ReadingEdgeTest::numbersOfSigns));
        EDGES.add(new Edge(24, "of times as above;", ReadingEdgeTest::numbersOfTimes));
        EDGES.add(new Edge(24, "of voices 1 and 2;", ReadingEdgeTest::numbersOfVoices));
        EDGES.add(new Edge(24, "octaves 0 to 8;", ReadingEdgeTest::octaves));
        EDGES.add(new Edge(24, "of \"back\" 2 to 4.", ReadingEdgeTest::numbersOfBack));
    }

    private static void ofFaults() {
        EDGES.add(new Edge(24, "The fault of the text is the index of the first byte of the first word or number that "
                + "cannot stand at its place,", ReadingEdgeTest::firstWordThatCannotStand));
        EDGES.add(new Edge(24, "or the length of the text if it ends too soon (spaces at its end included).",
                ReadingEdgeTest::endsTooSoon));
        EDGES.add(new Edge(24, "A word or number goes on to the next space, or to the end of the text;",
                ReadingEdgeTest::endsOfWords));
        EDGES.add(new Edge(24, "one that is not complete is a word that cannot stand.", ReadingEdgeTest::incompleteWords));
        EDGES.add(new Edge(24, "The event that would be the 25th of its voice cannot stand: its first word is at fault.",
                ReadingEdgeTest::twentyFifthEvent));
        EDGES.add(new Edge(24, "Returns the fault of the text.", ReadingEdgeTest::faultsOfAllPlaces));
        EDGES.add(new Edge(24, "Returns the fault; NONE if there is none.", ReadingEdgeTest::noFault));
    }

    private static void ofReadInto() {
        EDGES.add(new Edge(25, "Reading a text without a fault into a measure gives this measure all events of the text (a "
                + "voice that it does not tell has none),", ReadingEdgeTest::eventsRead));
        EDGES.add(new Edge(25, "makes it open a repeat, close one and be of an ending as the text tells (not, if it does "
                + "not tell so),", ReadingEdgeTest::repeatsRead));
        EDGES.add(new Edge(25, "and gives it the key and the time of the text, if it tells them.",
                ReadingEdgeTest::keysAndTimesRead));
        EDGES.add(new Edge(25, "The number of the bar does not matter.", ReadingEdgeTest::numberOfTheBar));
        EDGES.add(new Edge(25, "The tempo stays.", ReadingEdgeTest::tempoStays));
        EDGES.add(new Edge(25, "Reads the text into a measure; the text stays.", ReadingEdgeTest::textStays));
        EDGES.add(new Edge(25, "Undoable, if it has no fault.", ReadingEdgeTest::undoneReadInto));
        EDGES.add(new Edge(25, "Returns the number of events of the measure; -2000 minus the fault if the text has one "
                + "(then nothing changes).", ReadingEdgeTest::readIntoReturns));
        EDGES.add(new Edge(25, Edge.NO_MEASURE, () -> Check.refusesMeasures("readInto()", Music::readInto)));
    }

    private static void ofTells() {
        EDGES.add(new Edge(26, "Tells whether the text tells a measure: it has no fault,",
                ReadingEdgeTest::tellsWithoutFault));
        EDGES.add(new Edge(26, "and reading it into this measure would change nothing.",
                ReadingEdgeTest::tellsIfNothingChanges));
        EDGES.add(new Edge(26, "Returns true if it does.", ReadingEdgeTest::tellsEachMeasure));
        EDGES.add(new Edge(26, Edge.NO_MEASURE, () -> Check.refusesMeasures("tells()", Music::tells)));
    }

    public static void main(String[] args) {
        Check.run(EDGES);
    }

    /** The fault is the place of the mark, which is not in the text; without a mark there is none. */
    private static void due(String... marked) {
        for (String text : marked) {
            int fault = text.indexOf('|');
            Check.equal("fault() of \"" + text + "\"", Made.text(text.replace("|", "")).fault(), fault < 0 ? NONE : fault);
        }
    }

    // ---- parts

    private static void partsInOrder() {
        String[] parts = {"bar 1", "open", "ending 1", "key plain", "time 4 4", "voice 1 c 4 half", "voice 2 rest half",
            "back 2", "end"};
        StringBuilder all = new StringBuilder();
        for (String part : parts) {
            all.append(part).append(' ');
        }
        due(all.toString());
        for (int place = 0; place < parts.length; place++) {
            StringBuilder ahead = new StringBuilder();
            for (int part = 0; part < place; part++) {
                ahead.append(parts[part]).append(' ');
            }
            // each part that comes earlier cannot stand again, nor can the first words of what is no part
            for (int earlier = 0; earlier < place; earlier++) {
                due(ahead + voiceFault(parts[earlier], place));
            }
            due(ahead + (place == 0 ? "|c 4 half" : place == 6 || place == 7 ? "c 4 half |tied2" : "|c 4 half"));
            due(ahead + "|plain", ahead + "|1", ahead + "|sharp");
        }
        due(all + "|end", all + "|bar");
    }

    /** Behind voice 1, it is the number of another "voice 1" that is at fault. */
    private static String voiceFault(String part, int place) {
        return part.equals("voice 1 c 4 half") && place == 6 ? "voice |1 c 4 half" : "|" + part;
    }

    private static void partsLeftOut() {
        due("bar 1 end", "bar 1 open end", "bar 1 ending 1 end", "bar 1 key plain end", "bar 1 time 4 4 end",
                "bar 1 voice 1 c 4 half end", "bar 1 voice 2 c 4 half end", "bar 1 back 2 end", "bar 1 open back 2 end",
                "bar 1 ending 1 time 4 4 end", "bar 1 key plain voice 2 rest half end", "bar 1 open key plain back 2 end");
        due("|open end", "|end", "|1 end", "|key plain end", "|voice 1 c 4 half end", "bar 1|", "bar 1 open|",
                "bar 1 ending 1|", "bar 1 key plain|", "bar 1 time 4 4|", "bar 1 voice 1 c 4 half|", "bar 1 back 2|",
                "bar |end", "bar |open end");
    }

    private static void voicesInOrder() {
        due("bar 1 voice 1 c 4 half voice 2 d 4 half end", "bar 1 voice 1 c 4 half end", "bar 1 voice 2 c 4 half end");
        due("bar 1 voice 2 c 4 half |voice 1 d 4 half end", "bar 1 voice 2 c 4 half |voice 2 d 4 half end",
                "bar 1 voice 2 c 4 half |voice", "bar 1 voice 2 c 4 half |voice x",
                "bar 1 voice 1 c 4 half voice |1 d 4 half end", "bar 1 voice 1 c 4 half voice 2 d 4 half |voice 1 c 4 half "
                + "end", "bar 1 voice 1 c 4 half voice 2 d 4 half |voice 2 c 4 half end",
                "bar 1 voice 1 c 4 half voice 2 d 4 half |voice 3", "bar 1 voice 1 c 4 half voice 2 d 4 half |voice",
                "bar 1 voice 1 c 4 half voice|", "bar 1 voice 1 c 4 half voice |3", "bar 1 voice 1 c 4 half voice |end");
    }

    private static void voicesWithEvents() {
        due("bar 1 end", "bar 1 back 2 end", "bar 1 voice 1 rest half end", "bar 1 voice 1 rest half voice 2 rest half end");
        due("bar 1 voice 1 |end", "bar 1 voice 1 |back 2 end", "bar 1 voice 1|", "bar 1 voice 1 |",
                "bar 1 voice 1 |voice 2 c 4 half end", "bar 1 voice 2 |end", "bar 1 voice 2 |back 2 end", "bar 1 voice 2|",
                "bar 1 voice 1 c 4 half voice 2 |end", "bar 1 voice 1 c 4 half voice 2 |back 2 end",
                "bar 1 voice 1 c 4 half voice 2|", "bar 1 voice 1 |1");
    }

    private static void spaces() {
        due("bar 1 end", " bar 1 end", "bar  1 end", "bar 1  end", "bar 1 end ", "   bar   1   end   ",
                "  bar 1   open  ending   3 key  4   sharp time   12  16  voice  1   c  sharp   4 dotted  half   tied  "
                + "back  2   end  ");
        due("|bar1 end", "bar |1end", "|bar1end", "bar 1 |openend", "bar 1 ending|", "bar 1 |ending1 end",
                "bar 1 |keyplain end", "bar 1 key |plainend", "bar 1 key |4sharp end", "bar 1 time |44 end",
                "bar 1 time 4 |4end", "bar 1 |voice1 c 4 half end", "bar 1 voice |1c 4 half end",
                "bar 1 voice 1 |c4 half end", "bar 1 voice 1 c |4half end", "bar 1 voice 1 |csharp 4 half end",
                "bar 1 voice 1 c 4 |dottedhalf end", "bar 1 voice 1 c 4 |halftied end", "bar 1 voice 1 |resthalf end",
                "bar 1 |back2 end");
        for (int value = 0; value <= 127; value++) {
            if (value != ' ' && value != '|') {
                due("|bar" + (char) value + "1 end", "bar |1" + (char) value + "end");
            }
        }
        Music full = Made.longText(598);
        Made.type(full, "  ");
        Check.equal("fault() with spaces to the 600th byte", full.fault(), NONE);
        Music ahead = new Music();
        for (int count = 0; count < 400; count++) {
            ahead.type(' ');
        }
        Made.type(ahead, "bar 1 end");
        Check.equal("fault() behind 400 spaces", ahead.fault(), NONE);
        Music alone = new Music();
        for (int count = 1; count <= 200; count++) {
            alone.type(' ');
            Check.equal("fault() of spaces alone", alone.fault(), count);
        }
    }

    // ---- numbers

    /** All numbers to 999 between the texts ahead and behind, and those at the ends of the range with zeros in front. */
    private static void number(String ahead, String behind, int low, int high) {
        for (int number = 0; number <= 999; number++) {
            boolean fits = number >= low && number <= high;
            due(ahead + (fits ? "" : "|") + number + (fits ? behind : ""));
        }
        for (int number : new int[] {low, high}) {
            String three = "" + (1000 + number);
            due(ahead + number + behind, ahead + three.substring(1) + behind, ahead + "|0" + three.substring(1) + behind);
            due(ahead + "|00" + three.substring(1) + behind, ahead + "|" + three + behind,
                    ahead + "|" + number + "000" + behind);
            due(ahead + "|-" + number + behind, ahead + "|+" + number + behind, ahead + "|" + number + "." + behind);
        }
        due(ahead + "|x" + behind, ahead + "|1x" + behind, ahead + "|x1" + behind, ahead + "|99999999999");
    }

    private static void digits() {
        due("bar 1 end", "bar 12 end", "bar 123 end", "bar 001 end", "bar 000 end", "bar 00 end", "bar 010 end",
                "bar 999 end");
        due("bar |1234 end", "bar |0001 end", "bar |0000 end", "bar |1000 end", "bar |00000000000000000001 end",
                "bar |4294967297 end", "bar |2147483649 end", "bar |18446744073709551617 end");
        due("bar 1 ending 04 key 007 flat time 012 016 voice 01 c 08 half voice 002 c 000 half back 004 end");
        due("bar 1 ending |0004", "bar 1 key |0007", "bar 1 time |0012", "bar 1 time 012 |0016", "bar 1 voice |0001",
                "bar 1 voice 1 c |0008", "bar 1 back |0004");
        for (int value = 0; value <= 127; value++) {
            boolean digit = value >= '0' && value <= '9';
            if (value != ' ' && value != '|') {
                due("bar " + (digit ? "" : "|") + (char) value + " end", "bar " + (digit ? "" : "|") + "1" + (char) value
                        + " end", "bar " + (digit ? "" : "|") + (char) value + "1 end",
                        "bar " + (digit ? "" : "|") + "1" + (char) value + "1 end");
            }
        }
    }

    private static void numbersOfBars() {
        number("bar ", " end", 0, 999);
        due("bar |end", "bar|", "bar |open end");
    }

    private static void numbersOfEndings() {
        number("bar 1 ending ", " end", 1, 4);
        due("bar 1 ending |end", "bar 1 ending|");
    }

    private static void numbersOfSigns() {
        number("bar 1 key ", " sharp end", 1, 7);
        number("bar 1 key ", " flat end", 1, 7);
        due("bar 1 key plain end", "bar 1 key |0 plain end", "bar 1 key 1 |plain end", "bar 1 key 1 |natural end",
                "bar 1 key 1 |end", "bar 1 key plain |sharp end", "bar 1 key |sharp end", "bar 1 key 1|");
    }

    private static void numbersOfTimes() {
        number("bar 1 time ", " 4 end", 1, 12);
        due("bar 1 time 4 |end", "bar 1 time |end", "bar 1 time|");
        for (int lower = 0; lower <= 100; lower++) {
            boolean fits = lower == 2 || lower == 4 || lower == 8 || lower == 16;
            due("bar 1 time 4 " + (fits ? "" : "|") + lower + " end");
        }
        due("bar 1 time 4 002 end", "bar 1 time 4 04 end", "bar 1 time 4 08 end", "bar 1 time 4 016 end",
                "bar 1 time 4 |0002 end", "bar 1 time 4 |256 end", "bar 1 time 4 |end", "bar 1 time 4|");
    }

    private static void numbersOfVoices() {
        number("bar 1 voice ", " c 4 half end", 1, 2);
        number("bar 1 voice 1 c 4 half voice ", " c 4 half end", 2, 2);
        due("bar 1 voice |c 4 half end", "bar 1 voice|");
    }

    private static void octaves() {
        number("bar 1 voice 1 c ", " half end", 0, 8);
        number("bar 1 voice 1 c 4 half b flat ", " half end", 0, 8);
        due("bar 1 voice 1 c |half end", "bar 1 voice 1 c|");
    }

    private static void numbersOfBack() {
        number("bar 1 back ", " end", 2, 4);
        number("bar 1 voice 2 rest half back ", " end", 2, 4);
        due("bar 1 back |end", "bar 1 back|");
    }

    // ---- faults

    private static void firstWordThatCannotStand() {
        due("|x", "|x bar 1 end", "|x y z", "bar |x y", "bar 1 |x y", "bar 1 |x end", "bar 1 end |x", "bar 1 end |x y",
                "bar 1 end |end", "   |x", "bar   |x   y", "bar 1    |x", "bar 1 end    |x   ", "bar 1 |1 x",
                "bar |bar bar");
        due("bar 1 voice 1 |x", "bar 1 voice 1 c |x", "bar 1 voice 1 c sharp |x", "bar 1 voice 1 c 4 |x",
                "bar 1 voice 1 c 4 dotted |x", "bar 1 voice 1 c 4 half |x", "bar 1 voice 1 c 4 half tied |x",
                "bar 1 voice 1 rest |x", "bar 1 voice 1 rest dotted |x", "bar 1 voice 1 rest half |x",
                "bar 1 voice 1 rest half |tied", "bar 1 voice 1 rest |sharp", "bar 1 voice 1 rest |4");
        due("bar 1 voice 1 c 4 half |dotted", "bar 1 voice 1 c 4 half tied |tied", "bar 1 voice 1 c 4 |tied",
                "bar 1 voice 1 c 4 |sharp", "bar 1 voice 1 c sharp |sharp", "bar 1 voice 1 c |dotted",
                "bar 1 voice 1 c |half", "bar 1 voice 1 c 4 dotted |dotted");
        for (int value = 0; value <= 127; value++) {
            if (value != ' ' && value != '|') {
                boolean letter = value >= 'a' && value <= 'g';
                due("bar 1 voice 1 " + (letter ? "" : "|") + (char) value + " 4 half end");
                due("bar 1 voice 1 c 4 half " + (letter ? "" : "|") + (char) value + " 4 half end");
            }
        }
        Music last = Made.longText(598);
        Made.type(last, " x");
        Check.equal("fault() at the 600th byte", last.fault(), 599);
    }

    private static void endsTooSoon() {
        String text = "bar 1 open ending 2 key 3 flat time 12 16 voice 1 c sharp 4 dotted half voice 2 rest dotted quarter "
                + "back 2 end";
        String[] words = text.split(" ");
        StringBuilder ahead = new StringBuilder();
        for (int count = 0; count < words.length; count++) {
            due(ahead + "|", ahead + " |", ahead + "     |");
            ahead.append(count > 0 ? " " : "").append(words[count]);
        }
        due(ahead.toString(), ahead + " ", ahead + "     ");
        due("bar 1 voice 1 c 4 half tied|", "bar 1 voice 1 c 4 half tied  |", "|", " |", "          |");
        Music full = Made.longText(600);
        full.cut(3);
        Check.equal("fault() of 597 bytes without an end", full.fault(), 597);
        Made.type(full, "   ");
        Check.equal("fault() of 600 bytes without an end", full.fault(), 600);
    }

    private static void endsOfWords() {
        due("bar 1 |end.", "bar 1 |end\0", "bar 1 |end\n", "bar 1 |endend", "bar 1 |end1", "|barbar 1 end",
                "bar 1 |opens end", "bar 1 end", "bar 1 end ", "bar 12|", "bar 1 |\tend");
        due("bar 1 voice 1 |cc 4 half end", "bar 1 voice 1 |c# 4 half end", "bar 1 voice 1 c 4 half |cs");
        Music longWord = new Music();
        for (int count = 0; count < 500; count++) {
            longWord.type('b');
        }
        Check.equal("fault() of a word of 500 bytes", longWord.fault(), 0);
    }

    private static void incompleteWords() {
        String[] aheads = {"", "bar 1 ", "bar 1 ", "bar 1 ", "bar 1 key ", "bar 1 key 1 ", "bar 1 key 1 ", "bar 1 ",
            "bar 1 ", "bar 1 voice 1 ", "bar 1 voice 1 c ", "bar 1 voice 1 c 4 ", "bar 1 voice 1 c 4 ", "bar 1 voice 1 c 4 ",
            "bar 1 voice 1 c 4 ", "bar 1 voice 1 c 4 ", "bar 1 voice 1 c 4 ", "bar 1 voice 1 c 4 half ", "bar 1 ", "bar 1 "};
        String[] words = {"bar", "open", "ending", "key", "plain", "sharp", "flat", "time", "voice", "rest", "natural",
            "dotted", "whole", "half", "quarter", "eighth", "sixteenth", "tied", "back", "end"};
        for (int index = 0; index < words.length; index++) {
            for (int length = 1; length < words[index].length(); length++) {
                String part = words[index].substring(0, length);
                boolean another = part.equals("end") || part.equals("e") && aheads[index].endsWith("half ");
                if (!another) {
                    due(aheads[index] + "|" + part, aheads[index] + "|" + part + " ", aheads[index] + "|" + part + " end");
                }
            }
            due(aheads[index] + "|" + words[index] + "x", aheads[index] + "|" + words[index].toUpperCase(),
                    aheads[index] + "|x" + words[index]);
        }
    }

    /** Texts of one voice, or of both, with so many notes. */
    private static String notes(int ofVoice1, int ofVoice2) {
        String text = "bar 1";
        text += ofVoice1 > 0 ? " voice 1" + " c 4 half".repeat(ofVoice1) : "";
        return text + (ofVoice2 > 0 ? " voice 2" + " c 4 half".repeat(ofVoice2) : "");
    }

    private static void twentyFifthEvent() {
        for (int[] counts : new int[][] {{24, 0}, {0, 24}, {1, 24}, {24, 24}}) {
            String text = notes(counts[0], counts[1]);
            due(text + " end", text + " tied end", text + " back 4 end");
            due(text + " |c 4 half end", text + " |rest half end", text + " |c", text + " |rest", text + " |g x",
                    text + "|");
            due(text + " tied |c 4 half end", text + " |dotted", text + " |h 4 half end");
        }
        due(notes(23, 0) + " c 4 half end", notes(23, 0) + " rest half end", notes(23, 0) + " c |x",
                notes(0, 23) + " rest half end");
        due(notes(24, 0) + " voice 2 c 4 half end", notes(24, 0) + " |voic");
        due("bar 1 voice 2" + " rest half".repeat(24) + " end", "bar 1 voice 2" + " rest half".repeat(24)
                + " |rest half end");
        Music music = Made.text(notes(24, 24) + " end");
        music.addMeasure();
        Check.equal("readInto() of 48 events", music.readInto(0), 48);
        Check.equal("events of voice 0", music.measure(0, 8), 24);
        Check.equal("events of voice 1", music.measure(0, 9), 24);
        Music refused = Made.text(notes(0, 24) + " c 4 half end");
        refused.addMeasure();
        Check.equal("readInto() of a 25th event", refused.readInto(0), -2000 - notes(0, 24).length() - 1);
        Check.equal("events of voice 1 behind it", refused.measure(0, 9), 0);
    }

    private static void faultsOfAllPlaces() {
        String text = "bar 1 end";
        for (int index = 0; index < text.length(); index++) {
            String broken = text.substring(0, index) + "#" + text.substring(index + 1);
            int due = index == 3 ? 0 : index == 5 ? 4 : index < 3 ? 0 : index < 5 ? 4 : 6;
            Check.equal("fault() of \"" + broken + "\"", Made.text(broken).fault(), due);
        }
        Music full = Made.longText(600);
        Check.equal("fault() of 600 bytes", full.fault(), NONE);
        full.cut(1);
        full.type('x');
        Check.equal("fault() of the last word of 600 bytes", full.fault(), 597);
        Check.equal("fault() again", full.fault(), 597);
    }

    private static void noFault() {
        Check.equal("fault() of the shortest text", Made.text("bar 1 end").fault(), NONE);
        Check.equal("fault() of a text of 600", Made.longText(600).fault(), NONE);
        Check.equal("fault() of no text", new Music().fault(), 0);
        Check.equal("fault() of one space", Made.text(" ").fault(), 1);
        Check.equal("fault() without measures", Made.text("bar 16 end").fault(), NONE);
        Check.savesNothing("fault()", Made::rich, Music::fault);
        Check.savesNothing("fault()", Made::wide, Music::fault);
    }

    // ---- promise 25: readInto

    /** Two measures with all values set and events in both voices, and the text. */
    private static Music set(String text) {
        Music music = Made.text(text);
        music.addMeasure();
        music.addMeasure();
        for (int measure = 0; measure < 2; measure++) {
            int[] values = {5, 7, 8, 99, 1, 3, 2};
            for (int what = 0; what <= 6; what++) {
                music.set(measure, what, values[what]);
            }
            Made.add(music, measure, 0, new int[] {38, 1, 3, 1}, new int[] {7}, new int[] {39, 0, 3, 0});
            Made.add(music, measure, 1, new int[] {2}, new int[] {38, 2, 3, 1});
        }
        return music;
    }

    private static void isMeasure(String what, Music music, int measure, String sentence, int... values) {
        for (int value = 0; value < values.length; value++) {
            Check.equal(what + ", value " + value, music.measure(measure, value), values[value]);
        }
        Check.equal(what, Check.sentence(music, measure), sentence);
    }

    private static final String UNTOUCHED = "open ending 2 voice 1 f sharp 5 dotted half tied rest dotted eighth g 5 "
            + "dotted half voice 2 rest half f flat 5 dotted half tied back 3 end";

    private static void eventsRead() {
        String[] voices = {"", "voice 1 c 4 half ", "voice 2 rest half ", "voice 1 rest sixteenth voice 2 b natural 8 "
            + "whole tied "};
        int[][] counts = {{0, 0}, {1, 0}, {0, 1}, {1, 1}};
        for (int index = 0; index < voices.length; index++) {
            Music music = set("bar 2 " + voices[index] + "end");
            Check.equal("readInto(1)", music.readInto(1), counts[index][0] + counts[index][1]);
            isMeasure("the measure", music, 1, "bar 2 " + voices[index] + "end", 5, 7, 8, 99, 0, 0, 0, 56, counts[index][0],
                    counts[index][1]);
            isMeasure("the measure before", music, 0, "bar 1 " + UNTOUCHED.replace("ending 2 ",
                    "ending 2 key 5 sharp time 7 8 "));
            if (counts[index][0] == 0) {
                Check.noPlace("an event of the voice that has none", () -> music.event(1, 0, 0, 2));
            }
        }
    }

    private static void repeatsRead() {
        int[][] openTimesEnding = {{0, 0, 0}, {1, 0, 0}, {0, 2, 0}, {0, 4, 0}, {0, 0, 1}, {0, 0, 4}, {1, 3, 2}, {1, 4, 4}};
        for (int[] row : openTimesEnding) {
            String text = "bar 1 " + (row[0] == 1 ? "open " : "") + (row[2] > 0 ? "ending " + row[2] + " " : "")
                    + (row[1] > 0 ? "back " + row[1] + " " : "") + "end";
            Music over = set(text);
            over.readInto(1);
            Music fresh = Made.text(text);
            fresh.addMeasure();
            fresh.readInto(0);
            int[] whats = {4, 5, 6};
            for (int index = 0; index < 3; index++) {
                Check.equal("value " + whats[index] + " of \"" + text + "\"", over.measure(1, whats[index]), row[index]);
                Check.equal("value " + whats[index] + " of \"" + text + "\"", fresh.measure(0, whats[index]), row[index]);
                Check.equal("value of the other measure", over.measure(0, whats[index]), new int[] {1, 3, 2}[index]);
            }
        }
    }

    private static void keysAndTimesRead() {
        for (int key = -7; key <= 7; key++) {
            String words = key == 0 ? "plain" : Math.abs(key) + (key > 0 ? " sharp" : " flat");
            Music music = set("bar 1 key " + words + " end");
            music.readInto(1);
            isMeasure("a key", music, 1, key == 5 ? "bar 2 end" : "bar 2 key " + words + " end", key, 7, 8, 99);
        }
        for (int upper = 1; upper <= 12; upper++) {
            for (int lower = 2; lower <= 16; lower *= 2) {
                Music music = set("bar 1 time " + upper + " " + lower + " end");
                music.readInto(1);
                boolean same = upper == 7 && lower == 8;
                isMeasure("a time", music, 1, same ? "bar 2 end" : "bar 2 time " + upper + " " + lower + " end", 5, upper,
                        lower, 99);
            }
        }
        Music neither = set("bar 1 end");
        neither.readInto(1);
        isMeasure("neither", neither, 1, "bar 2 end", 5, 7, 8, 99);
        Music both = set("bar 1 key 7 flat time 12 16 end");
        both.readInto(0);
        isMeasure("both", both, 0, "bar 1 key 7 flat time 12 16 end", -7, 12, 16, 99);
    }

    private static void numberOfTheBar() {
        for (String number : new String[] {"0", "1", "2", "3", "16", "17", "999", "000", "001"}) {
            Music music = set("bar " + number + " voice 1 c 4 half end");
            Check.equal("readInto(1) of bar " + number, music.readInto(1), 1);
            Check.isTrue("bar " + number + " tells measure 1", music.tells(1));
            Check.isTrue("bar " + number + " does not tell measure 0", !music.tells(0));
            Check.equal("sentence", Check.sentence(music, 1), "bar 2 voice 1 c 4 half end");
        }
    }

    private static void tempoStays() {
        for (int tempo : new int[] {20, 21, 120, 300}) {
            Music music = Made.text("bar 1 open ending 4 key 7 sharp time 12 16 voice 1 c 4 half back 4 end");
            music.addMeasure();
            music.set(0, 3, tempo);
            music.readInto(0);
            Check.equal("tempo", music.measure(0, 3), tempo);
        }
    }

    private static void textStays() {
        String text = "  bar 9 voice 2 c 4 half  end ";
        Music music = set(text);
        for (int measure = 1; measure >= 0; measure--) {
            Check.equal("readInto()", music.readInto(measure), 1);
            Check.equal("whole(8)", music.whole(8), text.length());
            Check.equal("fault()", music.fault(), NONE);
            Check.isTrue("tells()", music.tells(measure));
        }
        Music full = Made.longText(600);
        full.readInto(0);
        Check.equal("whole(8) of a full text", full.whole(8), 600);
        Music faulty = set("bar 9 voice 2 c 4 half en");
        faulty.readInto(0);
        Check.equal("whole(8) of a text with a fault", faulty.whole(8), 25);
        Check.equal("fault() behind readInto()", faulty.fault(), 23);
    }

    private static void undoneReadInto() {
        for (int measure = 0; measure < 3; measure++) {
            int into = measure;
            Check.undoable("readInto(" + measure + ")", Made::rich, music -> music.readInto(into));
        }
        Supplier<Music> told = () -> Made.longText(600);
        Check.undoable("readInto() that changes nothing", told, music -> music.readInto(0));
        Supplier<Music> one = () -> {
            Music music = Made.young();
            music.copySentence(0);
            return music;
        };
        Check.undoable("readInto() that changes nothing, of the second state", one, music -> music.readInto(0));
        Check.savesNothing("readInto() of a fault", Made::wide, music -> music.readInto(15));
        Check.savesNothing("readInto() of no text", Made::young, music -> music.readInto(0));
    }

    private static void readIntoReturns() {
        String[] texts = {"bar 1 end", "bar 1 voice 1 c 4 half end", "bar 1 voice 2 c 4 half rest half end",
            "bar 1 voice 1 c 4 half d 4 half voice 2 rest half end", "", " ", "x", "bar 1", "bar 1 en", "bar 1 end x",
            "   x"};
        int[] due = {0, 1, 2, 3, -2000, -2001, -2000, -2005, -2006, -2010, -2003};
        for (int index = 0; index < texts.length; index++) {
            Check.equal("readInto(1) of \"" + texts[index] + "\"", set(texts[index]).readInto(1), due[index]);
        }
        Check.equal("readInto() of the most events", set(notes(24, 0) + " end").readInto(0), 24);
        for (String text : new String[] {"", "bar 1 open ending 1 key plain time 4 4 voice 1 c 4 half back 2 en",
                "bar 1 end x"}) {
            Music got = set(text);
            got.readInto(1);
            Check.sameStates("behind readInto() of \"" + text + "\"", got, set(text));
            Music again = set(text);
            again.readInto(0);
            Check.sameText("behind readInto() of \"" + text + "\"", again, set(text));
        }
        Music full = Made.longText(600);
        full.cut(3);
        Made.type(full, "   ");
        Check.equal("readInto() of a fault at 600", full.readInto(0), -2600);
    }

    // ---- promise 26: tells

    private static void tellsWithoutFault() {
        Music music = Made.young();
        music.copySentence(0);
        Check.isTrue("the sentence tells its measure", music.tells(0));
        music.type(' ');
        Check.isTrue("with a space behind", music.tells(0));
        music.type('x');
        Check.isTrue("not with a word behind", !music.tells(0));
        music.cut(3);
        Check.isTrue("not without its last byte", !music.tells(0));
        music.type('d');
        Check.isTrue("with it", music.tells(0));
        music.clearText();
        Check.isTrue("no text tells nothing", !music.tells(0));
        Music full = Made.longText(600);
        Check.isTrue("a full text tells its measure", full.tells(0));
        full.cut(1);
        Check.isTrue("not without its last byte", !full.tells(0));
    }

    private static void tellsIfNothingChanges() {
        String head = "bar 1 open ending 2 ";
        String voice1 = "voice 1 f sharp 5 dotted half tied rest dotted eighth g 5 dotted half ";
        String voice2 = "voice 2 rest half f flat 5 dotted half tied ";
        String[] same = {"bar 1 " + UNTOUCHED, head + "key 5 sharp time 7 8 " + voice1 + voice2 + "back 3 end",
            head + "key 5 sharp " + voice1 + voice2 + "back 3 end", head + "time 07 008 " + voice1 + voice2 + "back 03 end",
            "bar 999 open ending 002 " + voice1.replace("5", "005") + voice2 + " back 3 end  "};
        for (String text : same) {
            Check.isTrue("\"" + text + "\" tells the measure", set(text).tells(1) && set(text).tells(0));
        }
        String[] other = {"bar 1 ending 2 " + voice1 + voice2 + "back 3 end", "bar 1 open " + voice1 + voice2 + "back 3 end",
            "bar 1 open ending 1 " + voice1 + voice2 + "back 3 end", head + voice1 + voice2 + "end",
            head + voice1 + voice2 + "back 2 end", head + voice1 + "back 3 end", head + voice2 + "back 3 end",
            head + "back 3 end", head + "key 5 flat " + voice1 + voice2 + "back 3 end",
            head + "key 4 sharp " + voice1 + voice2 + "back 3 end", head + "key plain " + voice1 + voice2 + "back 3 end",
            head + "time 7 4 " + voice1 + voice2 + "back 3 end", head + "time 6 8 " + voice1 + voice2 + "back 3 end",
            head + voice1 + "rest sixteenth " + voice2 + "back 3 end", head + voice1 + voice2 + "rest sixteenth back 3 end",
            head + voice1.replace(" g 5 dotted half", "") + voice2 + "back 3 end",
            head + voice1 + voice2.replace(" f flat 5 dotted half tied", "") + "back 3 end", "bar 1 end"};
        for (String text : other) {
            Check.isTrue("\"" + text + "\" does not tell the measure", !set(text).tells(1) && !set(text).tells(0));
        }
        String[][] replaced = {{"f sharp", "f flat"}, {"f sharp", "f"}, {"f sharp", "e sharp"}, {"5", "4"},
            {"half tied", "half"}, {"rest dotted eighth", "rest eighth"}, {"rest dotted eighth", "rest dotted quarter"},
            {"rest dotted eighth", "c 0 dotted eighth"}, {"g 5 dotted half", "g 5 dotted half tied"},
            {"g 5 dotted half", "g 5 half"}, {"g 5 dotted half", "rest dotted half"}, {"f flat", "f natural"},
            {"rest half", "rest whole"}};
        for (String[] pair : replaced) {
            String text = "bar 1 " + UNTOUCHED.replace(pair[0], pair[1]);
            Check.equal("fault() of \"" + text + "\"", Made.text(text).fault(), NONE);
            Check.isTrue("\"" + text + "\" does not tell the measure", !set(text).tells(1));
        }
    }

    private static void tellsEachMeasure() {
        Music music = Made.bars(16);
        music.addRest(15, 0, 4);
        music.copySentence(15);
        for (int measure = 0; measure < 16; measure++) {
            Check.equal("tells(" + measure + ")", music.tells(measure) ? 1 : 0, measure == 15 ? 1 : 0);
        }
        Check.savesNothing("tells()", Made::rich, asked -> asked.tells(0));
        Check.savesNothing("tells() of its own sentence", () -> Made.longText(600), asked -> asked.tells(0));
        Music asked = Made.rich();
        asked.tells(2);
        Check.sameText("behind tells()", asked, Made.rich());
    }
}

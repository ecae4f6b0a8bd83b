/** Promises 21 to 26: typing the text, its fault, and reading it into measures. */
final class ReadingTest {
    private static final int NONE = Music.NONE;

    public static void main(String[] args) {
        type();
        cut();
        clearText();
        goodTexts();
        headFaults();
        voiceFaults();
        eventFaults();
        endFaults();
        mostEvents();
        readInto();
        readIntoKeeps();
        readFaulty();
        tells();
        Check.end();
    }

    private static void type() {
        Music bars = Made.bars(1);
        Check.equal("type(0)", bars.type(0), 1);
        Check.equal("type(127)", bars.type(127), 2);
        Check.badValue("type(128)", () -> bars.type(128));
        Check.badValue("type(-1)", () -> bars.type(-1));
        Check.badState("typing is not undoable", () -> {
            bars.undo();
            bars.undo();
        });
        Music full = Made.longText(598);
        for (int length = 599; length <= 600; length++) {
            Check.equal("type(32)", full.type(32), length);
        }
        Check.badState("type(32) behind 600", () -> full.type(32));
        Check.badValue("type(128) behind 600", () -> full.type(128));
        Check.equal("length behind it", full.whole(8), 600);
    }

    private static void cut() {
        Music bars = new Music();
        Check.typeText(bars, "bar 1 end end");
        Check.equal("cut(4)", bars.cut(4), 9);
        Check.equal("fault() behind cut(4)", bars.fault(), NONE);
        Check.badState("cut(10)", () -> bars.cut(10));
        Check.badState("cut(600)", () -> bars.cut(600));
        Check.badValue("cut(601)", () -> bars.cut(601));
        Check.badValue("cut(0)", () -> bars.cut(0));
        Check.badValue("cut(-1)", () -> bars.cut(-1));
        Check.equal("length behind them", bars.whole(8), 9);
        Check.equal("cut(9)", bars.cut(9), 0);
        Check.badState("cut(1) of nothing", () -> bars.cut(1));
        Check.equal("cut(600) of 600", Made.longText(600).cut(600), 0);
    }

    private static void clearText() {
        Music bars = new Music();
        Check.equal("clearText() of nothing", bars.clearText(), 0);
        Check.typeText(bars, "bar 1");
        Check.equal("clearText()", bars.clearText(), 5);
        Check.equal("length behind it", bars.whole(8), 0);
        Check.equal("fault() behind it", bars.fault(), 0);
    }

    private static void fault(String text, int due) {
        Music bars = new Music();
        Check.typeText(bars, text);
        Check.equal("fault of \"" + text + "\"", bars.fault(), due);
    }

    /** The fault is the place of the mark, which is not in the text. */
    private static void fault(String marked) {
        fault(marked.replace("|", ""), marked.indexOf('|'));
    }

    private static void goodTexts() {
        String[] texts = {"bar 1 end", "   bar   001    end   ", "bar 0 end", "bar 999 end", "bar 1 open end",
            "bar 1 ending 4 end", "bar 1 ending 001 end", "bar 1 open ending 2 key plain time 1 2 back 2 end",
            "bar 1 key 7 flat end", "bar 1 key 01 sharp end", "bar 1 time 12 016 end", "bar 1 time 012 8 end",
            "bar 1 voice 1 c 0 whole end", "bar 1 voice 2 rest half end", "bar 1 voice 002 b flat 08 dotted quarter tied end",
            "bar 1 voice 1 rest dotted eighth voice 2 d natural 000 sixteenth back 004 end",
            "bar 1 voice 1 c 4 half c 4 half tied rest half e 4 half end"};
        for (String text : texts) {
            fault(text, NONE);
        }
    }

    private static void headFaults() {
        String[] marked = {"|", "   |", "|ba", "|bars", "  |Bar", "|end", "bar|", "bar   |", "bar |x", "bar |1000",
            "bar |0001", "bar |-1 end", "bar |1x end", "bar |+1", "bar 1|", "bar 1 |e", "bar 1 |2", "bar 1 |bar",
            "bar 1 open |open", "bar 1 ending 1 |open end", "bar 1 ending|", "bar 1 ending |0", "bar 1 ending |5",
            "bar 1 ending |open", "bar 1 key|", "bar 1 key |0 sharp", "bar 1 key |8 flat", "bar 1 key |c", "bar 1 key 7|",
            "bar 1 key 7 |plain", "bar 1 key plain |sharp", "bar 1 key 7 |natural", "bar 1 key plain |key",
            "bar 1 key 1 sharp |open", "bar 1 time |0 4", "bar 1 time |13 4", "bar 1 time 12|", "bar 1 time 12 |3",
            "bar 1 time 12 |1", "bar 1 time 12 |32", "bar 1 time 12 |0016", "bar 1 time 4 4 |time", "bar 1 time 4 4 |key",
            "bar 1 |voices", "bar |1\t2", "bar |1\t end", "|bar\t1 end", "bar 1 |end\n", "|\0", "bar 1 |openend",
            "|bar1 end", "bar 1 |open\177 end"};
        for (String text : marked) {
            fault(text);
        }
    }

    private static void voiceFaults() {
        String[] marked = {"bar 1 voice|", "bar 1 voice |0 c 4 half", "bar 1 voice |3", "bar 1 voice |c", "bar 1 voice 1|",
            "bar 1 voice 1 |end", "bar 1 voice 1 |voice 2", "bar 1 voice 1 |back", "bar 1 voice 2 |end",
            "bar 1 voice 1 rest half voice |1 rest half", "bar 1 voice 1 rest half voice 2 |end",
            "bar 1 voice 2 rest half |voice 1", "bar 1 voice 2 rest half |voice 2", "bar 1 voice 2 rest half |voice x",
            "bar 1 voice 1 rest half voice 2 rest half |voice 2", "bar 1 voice 1 rest half |key plain",
            "bar 1 voice 1 rest half voice|", "bar 1 voice 1 rest half voice  |"};
        for (String text : marked) {
            fault(text);
        }
    }

    private static void eventFaults() {
        String[] marked = {"bar 1 voice 1 |h", "bar 1 voice 1 |C 4 half", "bar 1 voice 1 |cc", "bar 1 voice 1 c|",
            "bar 1 voice 1 c |c", "bar 1 voice 1 c |half", "bar 1 voice 1 c |9", "bar 1 voice 1 c sharp|",
            "bar 1 voice 1 c sharp |flat 4", "bar 1 voice 1 c sharp |whole", "bar 1 voice 1 c |plain", "bar 1 voice 1 c 4|",
            "bar 1 voice 1 c 4 |sharp", "bar 1 voice 1 c 4 |tied", "bar 1 voice 1 c 4 |4", "bar 1 voice 1 c 4 dotted|",
            "bar 1 voice 1 c 4 dotted |dotted", "bar 1 voice 1 c 4 dotted |tied", "bar 1 voice 1 c 4 |quarte",
            "bar 1 voice 1 c 4 quarter |dotted", "bar 1 voice 1 c 4 quarter tied |tied", "bar 1 voice 1 c 4 quarter|",
            "bar 1 voice 1 c 4 quarter tied |", "bar 1 voice 1 |res", "bar 1 voice 1 rest|", "bar 1 voice 1 rest |4",
            "bar 1 voice 1 rest |flat", "bar 1 voice 1 rest half |tied", "bar 1 voice 1 rest dotted |end",
            "bar 1 voice 1 rest half |sharp", "bar 1 voice 1 c 4 half e|", "bar 1 voice 1 c 4 half e |", "bar 1 voice 1 c 4 half |en",
            "bar 1 |c 4 half end", "bar 1 |rest half end"};
        for (String text : marked) {
            fault(text);
        }
    }

    private static void endFaults() {
        String[] marked = {"bar 1 back|", "bar 1 back |0 end", "bar 1 back |1 end", "bar 1 back |5 end", "bar 1 back 2|",
            "bar 1 back 2  |", "bar 1 back 2 |voice", "bar 1 back 2 |back", "bar 1 back |end", "bar 1 end |end", "bar 1 end |.",
            "bar 1 end  |x ", "bar 1 |endx", "bar 1 voice 1 rest half back 2 |open"};
        for (String text : marked) {
            fault(text);
        }
    }

    private static void mostEvents() {
        StringBuilder text = new StringBuilder("bar 1 voice 1");
        for (int count = 0; count < 24; count++) {
            text.append(" c 4 half");
        }
        fault(text + " end", NONE);
        fault(text + " tied end", NONE);
        fault(text + " voice 2 rest half end", NONE);
        fault(text + " |rest half end");
        fault(text + " |e 4 half end");
        fault(text + " |c");
        fault(text + " |tide");
        fault(text + "|");
        String both = text.toString().replace("1 voice 1", "1 voice 2");
        fault(both + " back 4 end", NONE);
        fault(both + " |c 4 half end");
        fault(text + both.substring(5) + " end", NONE);
        fault(text + both.substring(5) + " |c 4 half end");
        Music bars = Made.bars(1);
        Check.typeText(bars, text + both.substring(5) + " end");
        Check.equal("readInto() of 48 events", bars.readInto(0), 48);
        Check.equal("events of voice 1", bars.measure(0, 9), 24);
    }

    private static void readInto() {
        Music bars = Made.bars(2);
        String text = " bar 77 open ending 3 key 05 flat time 7 8  voice 1 c 4 quarter f sharp 08 dotted sixteenth tied"
                + " rest dotted whole voice 2 b natural 0 half back 3 end ";
        Check.typeText(bars, text);
        Check.equal("readInto(1)", bars.readInto(1), 4);
        int[] values = {-5, 7, 8, 120, 1, 3, 3, 56, 3, 1, 118, 32};
        for (int what = 0; what < values.length; what++) {
            Check.equal("measure(1, " + what + ")", bars.measure(1, what), values[what]);
        }
        int[][] events = {{28, 0, 4, 0}, {59, 1, 9, 1}, {NONE, NONE, 1, NONE}};
        for (int event = 0; event < events.length; event++) {
            for (int what = 0; what < 4; what++) {
                Check.equal("event " + event + ", " + what, bars.event(1, 0, event, what), events[event][what]);
            }
        }
        Check.equal("pitch in voice 1", bars.event(1, 1, 0, 0), 6);
        Check.equal("sign in voice 1", bars.event(1, 1, 0, 1), 3);
        Check.equal("shift in voice 1", bars.event(1, 1, 0, 6), 0);
        Check.equal("the text stays", bars.whole(8), text.length());
        Check.isTrue("the text tells the measure", bars.tells(1));
        Check.equal("the other measure", bars.measure(0, 8), 0);
        Check.equal("undo()", bars.undo(), 2);
        Check.equal("key behind undo()", bars.measure(1, 0), 0);
        Check.equal("events behind undo()", bars.measure(1, 8), 0);
        Check.equal("text behind undo()", bars.whole(8), text.length());
        Check.noPlace("readInto(2)", () -> bars.readInto(2));
        Check.noPlace("readInto(-1)", () -> bars.readInto(-1));
        Check.noPlace("tells(2)", () -> bars.tells(2));
        Check.noPlace("tells(-1)", () -> bars.tells(-1));
    }

    /** What the text does not tell: key, time and tempo stay, all else goes. */
    private static void readIntoKeeps() {
        Music bars = Made.bars(1);
        int[] values = {4, 5, 16, 33, 1, 4, 2};
        for (int what = 0; what < values.length; what++) {
            bars.set(0, what, values[what]);
        }
        bars.addRest(0, 0, 3);
        bars.addRest(0, 1, 3);
        Check.typeText(bars, "bar 1 end");
        Check.equal("readInto(0) of no events", bars.readInto(0), 0);
        int[] due = {4, 5, 16, 33, 0, 0, 0, 20, 0, 0, 0, 0};
        for (int what = 0; what < due.length; what++) {
            Check.equal("measure(0, " + what + ")", bars.measure(0, what), due[what]);
        }
        Check.typeText(bars, "bar 1 key plain end");
        bars.readInto(0);
        Check.equal("the key plain", bars.measure(0, 0), 0);
        Check.equal("the time of the key plain", bars.measure(0, 1), 5);
        Check.typeText(bars, "bar 1 time 2 2 end");
        bars.set(0, 0, 1);
        bars.readInto(0);
        Check.equal("the key of the time", bars.measure(0, 0), 1);
        Check.equal("the upper number", bars.measure(0, 1), 2);
        Check.equal("the lower number", bars.measure(0, 2), 2);
    }

    private static void readFaulty() {
        Music bars = Made.bars(2);
        bars.addRest(0, 0, 1);
        Check.typeText(bars, "bar 1 open key 3 sharp voice 1 c 4 half en");
        long digest = bars.digest();
        Check.equal("readInto() of a fault", bars.readInto(0), -2040);
        Check.isTrue("a fault tells nothing", !bars.tells(0));
        Check.equal("digest behind it", bars.digest(), digest);
        Check.noPlace("readInto(2) of a fault", () -> bars.readInto(2));
        bars.clearText();
        Check.equal("readInto() of no text", bars.readInto(1), -2000);
        Check.isTrue("no text tells nothing", !bars.tells(1));
    }

    private static void tells() {
        String head = "bar 9 ";
        String voices = "voice 1 e flat 4 dotted quarter tied voice 2 rest quarter ";
        tells(false, head + voices + "end", true);
        tells(false, head + "key 2 flat time 4 4 " + voices + "end", true);
        tells(false, head + "key 2 sharp " + voices + "end", false);
        tells(false, head + "key plain " + voices + "end", false);
        tells(false, head + "time 4 8 " + voices + "end", false);
        tells(false, head + "time 3 4 " + voices + "end", false);
        tells(false, head + "open " + voices + "end", false);
        tells(false, head + "ending 1 " + voices + "end", false);
        tells(false, head + voices + "back 2 end", false);
        tells(false, head + "end", false);
        tells(false, head + voices.replace(" flat", "") + "end", false);
        tells(false, head + voices.replace(" tied", "") + "end", false);
        tells(false, head + voices.replace(" dotted", "") + "end", false);
        tells(false, head + voices.replace("e flat", "f flat") + "end", false);
        tells(false, head + voices.replace(" 4", " 5") + "end", false);
        tells(false, head + voices.replace("rest quarter", "rest half") + "end", false);
        tells(false, head + voices.replace("rest quarter", "c 0 quarter") + "end", false);
        tells(false, head + voices + "rest quarter end", false);
        tells(false, head + "voice 1 e flat 4 dotted quarter tied end", false);
        tells(true, head + "open ending 3 " + voices + "back 2 end", true);
        tells(true, head + "ending 3 " + voices + "back 2 end", false);
        tells(true, head + "open " + voices + "back 2 end", false);
        tells(true, head + "open ending 3 " + voices + "end", false);
        tells(true, head + "open ending 3 " + voices + "back 3 end", false);
    }

    private static void tells(boolean repeats, String text, boolean due) {
        Music bars = Made.bars(1);
        bars.set(0, 0, -2);
        bars.addNote(0, 0, 30, 2, 5, true);
        bars.addRest(0, 1, 4);
        if (repeats) {
            bars.set(0, 4, 1);
            bars.set(0, 5, 2);
            bars.set(0, 6, 3);
        }
        Check.typeText(bars, text);
        long digest = bars.digest();
        Check.equal("tells() of \"" + text + "\"", bars.tells(0) ? 1 : 0, due ? 1 : 0);
        Check.equal("digest behind it", bars.digest(), digest);
    }
}

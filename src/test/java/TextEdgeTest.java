import java.util.ArrayList;
import java.util.List;
import java.util.function.Supplier;

/** Promises 21 to 23, sentence by sentence: what stands just inside and just outside of the boundaries of the text. */
final class TextEdgeTest {
    static final List<Edge> EDGES = new ArrayList<>();

    static {
        EDGES.add(new Edge(21, "The text has at most 600 bytes.", TextEdgeTest::sixHundredBytes));
        EDGES.add(new Edge(21, "Appends a byte to the text.", TextEdgeTest::appends));
        EDGES.add(new Edge(21, "value: 0 to 127", TextEdgeTest::values));
        EDGES.add(new Edge(21, Edge.RETURNS_LENGTH, TextEdgeTest::typeReturns));
        EDGES.add(new Edge(21, "Throws IllegalArgumentException if value is out of range", TextEdgeTest::valuesOutOfRange));
        EDGES.add(new Edge(21, "Throws IllegalStateException if the text has 600 bytes", TextEdgeTest::typeBehind600));
        EDGES.add(new Edge(21, Edge.FIRST_LISTED, TextEdgeTest::typeFirstListed));
        EDGES.add(new Edge(21, "saves the whole state but the text", TextEdgeTest::typeIsNotSaved));
        EDGES.add(new Edge(22, "Removes bytes from the end of the text.", TextEdgeTest::removesFromTheEnd));
        EDGES.add(new Edge(22, "many: 1 to 600", TextEdgeTest::fewestAndMost));
        EDGES.add(new Edge(22, Edge.RETURNS_LENGTH, TextEdgeTest::cutReturns));
        EDGES.add(new Edge(22, "Throws IllegalArgumentException if many is out of range", TextEdgeTest::manyOutOfRange));
        EDGES.add(new Edge(22, "Throws IllegalStateException if the text has fewer bytes", TextEdgeTest::fewerBytes));
        EDGES.add(new Edge(22, Edge.FIRST_LISTED, TextEdgeTest::cutFirstListed));
        EDGES.add(new Edge(22, "saves the whole state but the text", TextEdgeTest::cutIsNotSaved));
        EDGES.add(new Edge(23, "Empties the text.", TextEdgeTest::empties));
        EDGES.add(new Edge(23, "Returns the length that it had.", TextEdgeTest::clearTextReturns));
        EDGES.add(new Edge(23, "saves the whole state but the text", TextEdgeTest::clearTextIsNotSaved));
    }

    public static void main(String[] args) {
        Check.run(EDGES);
    }

    // ---- promise 21: type

    private static void sixHundredBytes() {
        Music music = Made.longText(598);
        Check.equal("the 599th byte", music.type(' '), 599);
        Check.equal("the 600th byte", music.type('x'), 600);
        Check.badState("the 601st byte", () -> music.type('x'));
        Check.equal("whole(8)", music.whole(8), 600);
        Check.equal("fault() at the 600th byte", music.fault(), 599);
        music.cut(1);
        Check.equal("the 600th byte again", music.type(' '), 600);
        Check.equal("fault() of 600 bytes", music.fault(), Music.NONE);
    }

    private static void appends() {
        String text = "bar 1 key 2 sharp time 3 8 voice 1 c 4 half end";
        Music music = Made.bars(1);
        for (int index = 0; index < text.length(); index++) {
            music.type(text.charAt(index));
            Check.equal("fault() ahead of the end", music.fault() == Music.NONE ? 1 : 0, index == text.length() - 1 ? 1 : 0);
        }
        Check.isTrue("nothing is read by typing", !music.tells(0));
        music.readInto(0);
        Check.equal("sentence", Check.sentence(music, 0), text);
    }

    /** A space goes on with the text; each other byte becomes a part of the word before it. */
    private static void values() {
        for (int value = 0; value <= 127; value++) {
            Music music = Made.text("bar 1 end");
            Check.equal("type(" + value + ")", music.type(value), 10);
            Check.equal("fault() behind type(" + value + ")", music.fault(), value == ' ' ? Music.NONE : 6);
            music.cut(1);
            Check.equal("fault() without it", music.fault(), Music.NONE);
        }
        Check.refusedValue("type(-1)", Made::rich, music -> music.type(-1));
        Check.refusedValue("type(128)", Made::rich, music -> music.type(128));
    }

    private static void typeReturns() {
        Music music = new Music();
        for (int length = 1; length <= 500; length++) {
            Check.equal("type()", music.type(length % 128), length);
        }
        Check.equal("type() behind 598", Made.longText(598).type(0), 599);
        Check.equal("type() behind 599", Made.longText(599).type(127), 600);
    }

    private static void valuesOutOfRange() {
        for (int value : new int[] {-1, 128, 129, 255, 256, 256 + 32, -128, Integer.MIN_VALUE, Integer.MAX_VALUE}) {
            Check.refusedValue("type(" + value + ")", Music::new, music -> music.type(value));
            Check.refusedValue("type(" + value + ")", Made::rich, music -> music.type(value));
        }
        Check.equal("type(0)", new Music().type(0), 1);
        Check.equal("type(127)", new Music().type(127), 1);
    }

    private static void typeBehind600() {
        Check.equal("type() behind 599", Made.longText(599).type(' '), 600);
        for (int value : new int[] {0, 32, 127}) {
            Check.refusedState("type(" + value + ") behind 600", () -> Made.longText(600), music -> music.type(value));
        }
    }

    private static void typeFirstListed() {
        Check.refusedValue("type(128) behind 600", () -> Made.longText(600), music -> music.type(128));
        Check.refusedValue("type(-1) behind 600", () -> Made.longText(600), music -> music.type(-1));
    }

    private static void typeIsNotSaved() {
        for (Supplier<Music> maker : Made.ALL) {
            Check.savesNothing("type()", maker, music -> music.type(' '));
        }
    }

    // ---- promise 22: cut

    private static void removesFromTheEnd() {
        Music music = Made.text("bar 1 end end x");
        music.cut(2);
        Check.equal("fault() behind cut(2)", music.fault(), 10);
        music.cut(4);
        Check.equal("fault() behind cut(4)", music.fault(), Music.NONE);
        music.cut(1);
        Check.equal("fault() behind cut(1)", music.fault(), 6);
        Made.type(music, "d  ");
        Check.equal("fault() behind typing again", music.fault(), Music.NONE);
        music.cut(11);
        Check.equal("fault() behind cutting all", music.fault(), 0);
        Music full = Made.longText(600);
        full.cut(1);
        Check.equal("fault() behind cut(1) of 600", full.fault(), 597);
        full.type('d');
        Check.isTrue("the text of 600 again", full.tells(0));
    }

    private static void fewestAndMost() {
        Check.equal("cut(1) of 1", Made.text("x").cut(1), 0);
        Check.equal("cut(1) of 600", Made.longText(600).cut(1), 599);
        Check.equal("cut(599) of 600", Made.longText(600).cut(599), 1);
        Check.equal("cut(600) of 600", Made.longText(600).cut(600), 0);
        Check.refusedValue("cut(0)", Made::rich, music -> music.cut(0));
        Check.refusedValue("cut(601)", () -> Made.longText(600), music -> music.cut(601));
    }

    private static void cutReturns() {
        Music music = Made.longText(600);
        for (int left = 599; left >= 200; left--) {
            Check.equal("cut(1)", music.cut(1), left);
        }
        Check.equal("cut(199)", music.cut(199), 1);
        Check.equal("cut(1)", music.cut(1), 0);
        Check.equal("whole(8)", music.whole(8), 0);
    }

    private static void manyOutOfRange() {
        for (int many : new int[] {0, -1, 601, 602, 1000, Integer.MIN_VALUE, Integer.MAX_VALUE}) {
            Check.refusedValue("cut(" + many + ") of 600", () -> Made.longText(600), music -> music.cut(many));
            Check.refusedValue("cut(" + many + ")", Made::rich, music -> music.cut(many));
        }
    }

    private static void fewerBytes() {
        int length = Made.RICH_TEXT.length();
        Check.equal("cut() of all", Made.rich().cut(length), 0);
        Check.refusedState("cut() of one more", Made::rich, music -> music.cut(length + 1));
        Check.refusedState("cut(600) of fewer", Made::rich, music -> music.cut(600));
        Check.refusedState("cut(600) of 599", () -> Made.longText(599), music -> music.cut(600));
        Check.equal("cut(599) of 599", Made.longText(599).cut(599), 0);
        Check.refusedState("cut(1) of nothing", Music::new, music -> music.cut(1));
        Check.refusedState("cut(600) of nothing", Made::young, music -> music.cut(600));
        Check.refusedState("cut(2) of one", () -> Made.text("x"), music -> music.cut(2));
    }

    private static void cutFirstListed() {
        Check.refusedValue("cut(0) of nothing", Made::young, music -> music.cut(0));
        Check.refusedValue("cut(-1) of nothing", Made::young, music -> music.cut(-1));
        Check.refusedValue("cut(601) of nothing", Made::young, music -> music.cut(601));
        Check.refusedValue("cut(601) of fewer", Made::rich, music -> music.cut(601));
    }

    private static void cutIsNotSaved() {
        Check.savesNothing("cut(1)", Made::rich, music -> music.cut(1));
        Check.savesNothing("cut() of all", Made::rich, music -> music.cut(Made.RICH_TEXT.length()));
        Check.savesNothing("cut(600)", () -> Made.longText(600), music -> music.cut(600));
    }

    // ---- promise 23: clearText

    private static void empties() {
        Music music = Made.longText(600);
        music.clearText();
        Check.equal("whole(8)", music.whole(8), 0);
        Check.equal("fault()", music.fault(), 0);
        Check.badState("cut(1)", () -> music.cut(1));
        Check.equal("type()", music.type('b'), 1);
        Check.equal("fault() of what is typed then", music.fault(), 0);
        Made.type(music, "ar 1 end");
        Check.equal("fault() of the whole of it", music.fault(), Music.NONE);
    }

    private static void clearTextReturns() {
        Check.equal("clearText() of nothing", new Music().clearText(), 0);
        Check.equal("clearText() of one byte", Made.text("x").clearText(), 1);
        Check.equal("clearText() of 600", Made.longText(600).clearText(), 600);
        Music twice = Made.rich();
        Check.equal("clearText()", twice.clearText(), Made.RICH_TEXT.length());
        Check.equal("clearText() again", twice.clearText(), 0);
    }

    private static void clearTextIsNotSaved() {
        for (Supplier<Music> maker : Made.ALL) {
            Check.savesNothing("clearText()", maker, Music::clearText);
        }
        Music music = Made.rich();
        music.clearText();
        music.undo();
        Check.equal("length of the text behind undo()", music.whole(8), 0);
    }
}

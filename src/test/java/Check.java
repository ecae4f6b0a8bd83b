import java.util.List;
import java.util.function.BiConsumer;
import java.util.function.Consumer;
import java.util.function.Supplier;

/** What the tests compare with: it prints every answer that is not due, and ends with exit code 1 if there was one. */
final class Check {
    interface Call {
        void run();
    }

    private static int wrong = 0;
    private static String sentence = "";

    private Check() {
    }

    static void equal(String what, long got, long due) {
        if (got != due) {
            fail(what + " answered " + got + ", due is " + due);
        }
    }

    static void equal(String what, String got, String due) {
        if (!got.equals(due)) {
            fail(what + " answered \"" + got + "\", due is \"" + due + "\"");
        }
    }

    static void equal(String what, float got, float due) {
        if (Float.floatToIntBits(got) != Float.floatToIntBits(due)) {
            fail(what + " answered " + got + ", due is " + due);
        }
    }

    static void isTrue(String what, boolean got) {
        if (!got) {
            fail(what + " does not hold");
        }
    }

    /** The class is compared exactly: what the machine throws by itself is of a class below the promised one. */
    static void fails(String what, Class<? extends RuntimeException> due, Call call) {
        try {
            call.run();
        } catch (RuntimeException thrown) {
            if (thrown.getClass() != due) {
                fail(what + " threw " + thrown + ", due is " + due.getName());
            }
            return;
        }
        fail(what + " threw nothing, due is " + due.getName());
    }

    static void noPlace(String what, Call call) {
        fails(what, IndexOutOfBoundsException.class, call);
    }

    static void badValue(String what, Call call) {
        fails(what, IllegalArgumentException.class, call);
    }

    static void badState(String what, Call call) {
        fails(what, IllegalStateException.class, call);
    }

    static void fail(String what) {
        wrong++;
        System.out.println(sentence + what);
    }

    static void end() {
        if (wrong != 0) {
            System.out.println(wrong + " answers are not due");
            System.exit(1);
        }
    }

    /** Runs tests of sentences; what fails is printed behind the promise's number and the sentence. */
    static void run(List<Edge> edges) {
        for (Edge edge : edges) {
            sentence = "promise " + edge.promise() + ", \"" + edge.sentence() + "\": ";
            try {
                edge.test().run();
            } catch (RuntimeException thrown) {
                fail("the test threw " + thrown);
            }
        }
        sentence = "";
        end();
    }

    // ---- refused calls, and calls that can be undone

    /** The call throws what is due, and nothing has changed: nothing that can be asked for, no saved state, not the text. */
    static void refused(String what, Class<? extends RuntimeException> due, Supplier<Music> maker, Consumer<Music> call) {
        Music states = maker.get();
        fails(what, due, () -> call.accept(states));
        sameStates("behind " + what, states, maker.get());
        Music text = maker.get();
        fails(what, due, () -> call.accept(text));
        sameText("behind " + what, text, maker.get());
    }

    static void refusedPlace(String what, Supplier<Music> maker, Consumer<Music> call) {
        refused(what, IndexOutOfBoundsException.class, maker, call);
    }

    static void refusedValue(String what, Supplier<Music> maker, Consumer<Music> call) {
        refused(what, IllegalArgumentException.class, maker, call);
    }

    static void refusedState(String what, Supplier<Music> maker, Consumer<Music> call) {
        refused(what, IllegalStateException.class, maker, call);
    }

    /** The call is refused for every number that is no measure's, near and far, and takes the first and the last measure. */
    static void refusesMeasures(String what, BiConsumer<Music, Integer> call) {
        for (Supplier<Music> maker : Made.ALL) {
            int size = maker.get().whole(0);
            for (int measure : new int[] {-1, size, Integer.MIN_VALUE, Integer.MAX_VALUE, -size - 1, size + 1, 16}) {
                refusedPlace(what + " for measure " + measure + " of " + size, maker, music -> call.accept(music, measure));
            }
            if (size > 0) {
                call.accept(maker.get(), 0);
                call.accept(maker.get(), size - 1);
            }
        }
    }

    static void sameStates(String what, Music got, Music due) {
        equal("digest() " + what, got.digest(), due.digest());
        for (int count = 1; count <= 5; count++) {
            equal("undo() " + count + " " + what, undone(got), undone(due));
            equal("digest() " + what + " and undo() " + count, got.digest(), due.digest());
        }
    }

    /** The number of states that are left; -1 if there was none. */
    private static int undone(Music music) {
        try {
            return music.undo();
        } catch (IllegalStateException none) {
            return -1;
        }
    }

    /** The texts can't be asked for: they are compared by what they are read as, and by their faults while they are cut. */
    static void sameText(String what, Music got, Music due) {
        equal("length of the text " + what, got.whole(8), due.whole(8));
        if (due.whole(0) == 0) {
            got.addMeasure();
            due.addMeasure();
        }
        equal("readInto() " + what, got.readInto(0), due.readInto(0));
        equal("digest() " + what + " and readInto()", got.digest(), due.digest());
        int length = Math.min(got.whole(8), due.whole(8));
        for (int left = length - 9; left >= 0; left -= 9) {
            got.cut(9);
            due.cut(9);
            equal("fault() " + what + ", cut to " + left, got.fault(), due.fault());
        }
    }

    /** The call saves the state from before it, once: undo() takes back all that it did, and the states below stay. */
    static void undoable(String what, Supplier<Music> maker, Consumer<Music> call) {
        int states = undone(maker.get()) + 1;
        Music undone = maker.get();
        call.accept(undone);
        equal("undo() of " + what, undone.undo(), Math.min(states, 3));
        // a full stack has lost its oldest state: that is done to what is due as well
        Supplier<Music> due = states < 4 ? maker : () -> undoneBehind(maker, music -> music.set(0, 3, 99));
        sameStates("behind the undo() of " + what, undone, due.get());
        sameText("behind the undo() of " + what, undoneBehind(maker, call), due.get());
    }

    private static Music undoneBehind(Supplier<Music> maker, Consumer<Music> call) {
        Music music = maker.get();
        call.accept(music);
        music.undo();
        return music;
    }

    /** The call saves no state, and leaves all but the text as it is. */
    static void savesNothing(String what, Supplier<Music> maker, Consumer<Music> call) {
        Music got = maker.get();
        call.accept(got);
        Music due = maker.get();
        got.clearText();
        due.clearText();
        sameStates("behind " + what, got, due);
    }

    // ---- helpers over the face

    /** The digest as the document puts it together, asked from as many objects of the same music as that takes. */
    static long digestOf(Supplier<Music> maker, int states) {
        Asked asked = new Asked(maker);
        asked.mix(states);
        for (int what = 0; what <= 8; what++) {
            asked.mix(asked.music().whole(what));
        }
        int measures = asked.music().whole(0);
        for (int measure = 0; measure < measures; measure++) {
            asked.mixMeasure(measure);
        }
        int places = asked.music().whole(6);
        for (int place = 0; place < places; place++) {
            asked.mix(asked.music().order(place));
        }
        asked.mix(asked.music().fault());
        return asked.hash;
    }

    private static final class Asked {
        private final Supplier<Music> maker;
        private Music music;
        private long hash = 43179L;

        Asked(Supplier<Music> maker) {
            this.maker = maker;
            music = maker.get();
        }

        Music music() {
            if (music.calls() == Music.MOST_CALLS) {
                music = maker.get();
            }
            return music;
        }

        void mix(long value) {
            hash = 31 * hash + value;
        }

        void mixMeasure(int measure) {
            for (int what = 0; what <= 11; what++) {
                mix(music().measure(measure, what));
            }
            for (int voice = 0; voice < 2; voice++) {
                int events = music().measure(measure, 8 + voice);
                for (int event = 0; event < events; event++) {
                    for (int what = 0; what <= 9; what++) {
                        mix(music().event(measure, voice, event, what));
                    }
                }
            }
            mix(music().crossings(measure));
            mix(music().timesPlayed(measure));
            int length = music().sentenceLength(measure);
            for (int index = 0; index < length; index++) {
                mix(music().sentenceByte(measure, index));
            }
        }
    }

    /** The sentence is read from several objects, as a long one has more bytes than an object has calls. */
    static String sentence(Supplier<Music> maker, int measure) {
        StringBuilder told = new StringBuilder();
        Asked asked = new Asked(maker);
        int length = asked.music().sentenceLength(measure);
        for (int index = 0; index < length; index++) {
            told.append((char) asked.music().sentenceByte(measure, index));
        }
        return told.toString();
    }

    static String sentence(Music music, int measure) {
        return sentence(() -> music, measure);
    }

    static void typeText(Music music, String text) {
        music.clearText();
        Made.type(music, text);
    }

    static String order(Music music) {
        StringBuilder order = new StringBuilder();
        for (int place = 0; music.order(place) != Music.NONE; place++) {
            order.append(place > 0 ? " " : "").append(music.order(place));
        }
        return order.toString();
    }
}

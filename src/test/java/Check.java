/** What the tests compare with: it prints every answer that is not due, and ends with exit code 1 if there was one. */
final class Check {
    interface Call {
        void run();
    }

    private static int wrong = 0;

    private Check() {
    }

    static void equal(String what, long got, long due) {
        if (got != due) {
            fail(what + " answered " + got + ", due is " + due);
        }
    }

    static void equal(String what, String got, String due) {
        if (!got.equals(due)) {
            fail(what + " answered \"" + got + "\", due is \"" + due + "\"");
        }
    }

    static void equal(String what, float got, float due) {
        if (Float.floatToIntBits(got) != Float.floatToIntBits(due)) {
            fail(what + " answered " + got + ", due is " + due);
        }
    }

    static void isTrue(String what, boolean got) {
        if (!got) {
            fail(what + " does not hold");
        }
    }

    /** The class is compared exactly: what the machine throws by itself is of a class below the promised one. */
    static void fails(String what, Class<? extends RuntimeException> due, Call call) {
        try {
            call.run();
        } catch (RuntimeException thrown) {
            if (thrown.getClass() != due) {
                fail(what + " threw " + thrown + ", due is " + due.getName());
            }
            return;
        }
        fail(what + " threw nothing, due is " + due.getName());
    }

    static void noPlace(String what, Call call) {
        fails(what, IndexOutOfBoundsException.class, call);
    }

    static void badValue(String what, Call call) {
        fails(what, IllegalArgumentException.class, call);
    }

    static void badState(String what, Call call) {
        fails(what, IllegalStateException.class, call);
    }

    static void fail(String what) {
        wrong++;
        System.out.println(what);
    }

    static void end() {
        if (wrong != 0) {
            System.out.println(wrong + " answers are not due");
            System.exit(1);
        }
    }

    // ---- helpers over the face

    static SpokenBars bars(int measures) {
        SpokenBars bars = new SpokenBars();
        for (int count = 0; count < measures; count++) {
            bars.addMeasure();
        }
        return bars;
    }

    static String sentence(SpokenBars bars, int measure) {
        StringBuilder told = new StringBuilder();
        int length = bars.sentenceLength(measure);
        for (int index = 0; index < length; index++) {
            told.append((char) bars.sentenceByte(measure, index));
        }
        return told.toString();
    }

    static void typeText(SpokenBars bars, String text) {
        bars.clearText();
        for (int index = 0; index < text.length(); index++) {
            bars.type(text.charAt(index));
        }
    }

    static String order(SpokenBars bars) {
        StringBuilder order = new StringBuilder();
        for (int place = 0; bars.order(place) != SpokenBars.NONE; place++) {
            order.append(place > 0 ? " " : "").append(bars.order(place));
        }
        return order.toString();
    }
}

import java.util.function.Supplier;

/** Long runs of calls, good ones and wrong ones, on the program and on the model: every answer and exception is compared. */
final class ModelTest {
    private static final int RUNS = 1500;
    private static final int CALLS = 512;
    private static final String[] WORDS = {"bar", "open", "ending", "key", "plain", "sharp", "flat", "natural", "time", "voice",
        "c", "d", "e", "f", "g", "a", "b", "rest", "dotted", "whole", "half", "quarter", "eighth", "sixteenth", "tied", "back",
        "end", "0", "1", "2", "3", "4", "04", "7", "8", "9", "016", "12", "13", "0001", "x", "", "en", "h"};
    private static final int[] EXTREMES = {Integer.MIN_VALUE, Integer.MAX_VALUE, -1, -1000, 16, 24, 63, 64, 200, 600, 601};

    private final Music bars = new Music();
    private final Model model = new Model();
    private final int run;
    private long seed;
    private int calls;

    private ModelTest(int run) {
        this.run = run;
        seed = 1000003L * run + 17;
    }

    public static void main(String[] args) {
        for (int run = 0; run < RUNS; run++) {
            new ModelTest(run).play();
        }
        Check.end();
    }

    private int below(int bound) {
        seed = seed * 6364136223846793005L + 1442695040888963407L;
        return (int) ((seed >>> 33) % bound);
    }

    /** Mostly a number from low to high, now and then one just outside, seldom one far away. */
    private int around(int low, int high) {
        int kind = below(60);
        if (kind == 0) {
            return low - 1;
        }
        if (kind == 1) {
            return high + 1;
        }
        return kind == 2 ? EXTREMES[below(EXTREMES.length)] : low + below(high - low + 1);
    }

    private int measure() {
        return around(0, Math.max(model.whole(0) - 1, 0));
    }

    private void play() {
        int start = 1 + below(run % 3 == 0 ? 16 : 5);
        for (int count = 0; count < start; count++) {
            same("addMeasure()", bars::addMeasure, model::addMeasure);
        }
        while (calls < CALLS - 60) {
            int kind = below(100);
            if (kind < 45) {
                change(kind);
            } else if (kind < 60) {
                write();
            } else {
                ask(kind);
            }
        }
        same("digest()", bars::digest, model::digest);
    }

    private void change(int kind) {
        int measure = measure();
        int voice = around(0, 1);
        // few pitches, so that ties hold and signs are ahead of notes
        int pitch = below(4) == 0 ? around(0, 62) : 30 + below(2);
        int sign = below(2) == 0 ? 0 : around(0, 3);
        int duration = around(0, 9);
        boolean tied = below(2) == 0;
        if (kind < 25) {
            same("addNote(" + measure + ", " + voice + ", " + pitch + ", " + sign + ", " + duration + ", " + tied + ")",
                    () -> bars.addNote(measure, voice, pitch, sign, duration, tied),
                    () -> model.addNote(measure, voice, pitch, sign, duration, tied));
        } else if (kind < 28) {
            same("addRest(" + measure + ", " + voice + ", " + duration + ")",
                    () -> bars.addRest(measure, voice, duration), () -> model.addRest(measure, voice, duration));
        } else if (kind < 30) {
            int event = around(0, 5);
            same("removeEvent(" + measure + ", " + voice + ", " + event + ")",
                    () -> bars.removeEvent(measure, voice, event), () -> model.removeEvent(measure, voice, event));
        } else if (kind < 41) {
            int what = around(0, 6);
            int value = what == 3 ? around(20, 300) : what == 2 ? 1 << around(1, 4) : around(-2, 7) - (what == 0 ? 2 : 0);
            int fit = what > 3 && below(3) > 0 ? Math.floorMod(value, 5) : value;
            same("set(" + measure + ", " + what + ", " + fit + ")",
                    () -> bars.set(measure, what, fit), () -> model.set(measure, what, fit));
        } else if (kind < 42) {
            same("removeMeasure(" + measure + ")", () -> bars.removeMeasure(measure), () -> model.removeMeasure(measure));
        } else if (kind < 44) {
            same("addMeasure()", bars::addMeasure, model::addMeasure);
        } else {
            same("undo()", bars::undo, model::undo);
        }
    }

    private void write() {
        int measure = measure();
        if (below(2) == 0) {
            same("copySentence(" + measure + ")", () -> bars.copySentence(measure), () -> model.copySentence(measure));
            int many = around(1, 1 + below(30));
            if (below(3) > 0) {
                same("cut(" + many + ")", () -> bars.cut(many), () -> model.cut(many));
            }
        } else if (below(6) == 0) {
            same("clearText()", bars::clearText, model::clearText);
        }
        String text = "";
        int words = below(4);
        for (int word = 0; word < words; word++) {
            text += (below(5) > 0 ? " " : "") + WORDS[below(WORDS.length)];
        }
        if (below(3) > 0) {
            text += " end";
        }
        for (int index = 0; index < text.length(); index++) {
            int value = text.charAt(index);
            same("type(" + value + ")", () -> bars.type(value), () -> model.type(value));
        }
        if (below(10) == 0) {
            int value = around(0, 127);
            same("type(" + value + ")", () -> bars.type(value), () -> model.type(value));
        }
        same("fault()", bars::fault, model::fault);
        same("tells(" + measure + ")", () -> bars.tells(measure), () -> model.tells(measure));
        if (below(2) == 0) {
            same("readInto(" + measure + ")", () -> bars.readInto(measure), () -> model.readInto(measure));
            same("tells(" + measure + ")", () -> bars.tells(measure), () -> model.tells(measure));
        }
    }

    private void ask(int kind) {
        int measure = measure();
        int voice = around(0, 1);
        int number = around(0, 11);
        int place = below(3) == 0 ? around(0, 60) : around(0, 8);
        switch (kind) {
            case 60, 61, 62 -> same("measure(" + measure + ", " + number + ")",
                    () -> bars.measure(measure, number), () -> model.measure(measure, number));
            case 63, 64 -> same("eventAt(" + measure + ", " + voice + ", " + 5 * place + ")",
                    () -> bars.eventAt(measure, voice, 5 * place), () -> model.eventAt(measure, voice, 5 * place));
            case 65, 66 -> same("crossings(" + measure + ")",
                    () -> bars.crossings(measure), () -> model.crossings(measure));
            case 67, 68 -> same("whole(" + number + ")", () -> bars.whole(number), () -> model.whole(number));
            case 69, 70, 71 -> same("order(" + place + ")", () -> bars.order(place), () -> model.order(place));
            case 72 -> same("timesPlayed(" + measure + ")",
                    () -> bars.timesPlayed(measure), () -> model.timesPlayed(measure));
            case 73, 74 -> same("seconds(" + place + ")", () -> bars.seconds(place), () -> model.seconds(place));
            case 75, 76 -> same("placeAt(" + place + ")", () -> bars.placeAt(place), () -> model.placeAt(place));
            case 77 -> same("sentenceLength(" + measure + ")",
                    () -> bars.sentenceLength(measure), () -> model.sentenceLength(measure));
            case 78, 79 -> same("sentenceByte(" + measure + ", " + place + ")",
                    () -> bars.sentenceByte(measure, place), () -> model.sentenceByte(measure, place));
            case 80 -> same("words(" + measure + ")", () -> bars.words(measure), () -> model.words(measure));
            case 81, 82, 83 -> same("changedBy(" + measure + ", " + (number - 6) + ")",
                    () -> bars.changedBy(measure, number - 6), () -> model.changedBy(measure, number - 6));
            case 84, 85 -> same("nearestKey(" + measure + ")",
                    () -> bars.nearestKey(measure), () -> model.nearestKey(measure));
            case 86, 87, 88 -> same("needlessSigns(" + measure + ")",
                    () -> bars.needlessSigns(measure), () -> model.needlessSigns(measure));
            case 89 -> same("digest()", bars::digest, model::digest);
            default -> {
                int event = around(0, below(4) == 0 ? 23 : 6);
                int what = around(0, 9);
                same("event(" + measure + ", " + voice + ", " + event + ", " + what + ")",
                        () -> bars.event(measure, voice, event, what), () -> model.event(measure, voice, event, what));
            }
        }
    }

    private void same(String call, Supplier<Object> program, Supplier<Object> due) {
        calls++;
        String got = answer(program);
        String want = answer(due);
        if (!got.equals(want)) {
            Check.fail("run " + run + ", call " + calls + ": " + call + " answered " + got + ", due is " + want);
        }
    }

    private static String answer(Supplier<Object> call) {
        try {
            return call.get().toString();
        } catch (RuntimeException thrown) {
            return thrown.getClass().getName();
        }
    }
}

import java.util.Random;
import java.util.function.ToLongFunction;

/** Long runs of calls, each answer beside that of PlainVoices. The seeds are fixed. */
public final class RunsTest {
    private static final int RUNS = 600;
    // The document promises nothing behind 512 calls.
    private static final int CALLS = 512;
    private static final Check CHECK = new Check("RunsTest");

    private final Random random;
    private final FoldedVoices x = new FoldedVoices();
    private final PlainVoices y = new PlainVoices();
    private final StringBuilder calls = new StringBuilder();
    private final int wildness;
    private int called;
    private boolean isRight = true;

    private RunsTest(int seed) {
        random = new Random(seed);
        wildness = seed % 5;
    }

    public static void main(String[] args) {
        for (int seed = 0; seed < RUNS; seed++) {
            new RunsTest(seed).run();
        }
        CHECK.end();
    }

    private void run() {
        while (called < CALLS && isRight) {
            step();
            due("digest()", FoldedVoices::digest, PlainVoices::digest);
        }
    }

    private void due(String call, ToLongFunction<FoldedVoices> got, ToLongFunction<PlainVoices> want) {
        if (called >= CALLS || !isRight) {
            return;
        }
        called++;
        String due = answer(() -> want.applyAsLong(y));
        String is = answer(() -> got.applyAsLong(x));
        calls.append(call).append(" = ").append(is).append('\n');
        isRight = due.equals(is);
        CHECK.note(isRight, isRight ? "" : "due is " + due + " as the last answer of\n" + calls);
    }

    private interface Asked {
        long ask();
    }

    private static String answer(Asked asked) {
        try {
            return String.valueOf(asked.ask());
        } catch (RuntimeException e) {
            return "throws." + e.getClass().getSimpleName();
        }
    }

    private int pick(int least, int most) {
        return least + random.nextInt(most - least + 1);
    }

    private boolean rarely() {
        return random.nextInt(20) == 0;
    }

    private int voice() {
        return rarely() ? pick(-2, 4) : random.nextInt(3) == 0 ? pick(0, 2) : wildness % 3;
    }

    private int sample() {
        switch (random.nextInt(6)) {
            case 0: return pick(-2000, 2000);
            case 1: return pick(-20, 20);
            case 2: return random.nextBoolean() ? 2000 : -2000;
            case 3: return rarely() ? pick(-2003, 2003) * (pick(0, 3) == 0 ? 1000000 : 1) : pick(-200, 200);
            case 4: return random.nextInt(4) == 0 ? (random.nextBoolean() ? 2001 : -2001) : 0;
            default: return pick(-600, 600);
        }
    }

    // One that is no sample spoils its whole text, so such ones are rarer in texts.
    private int textSample() {
        int sample = sample();
        return rarely() ? sample : Math.max(-2000, Math.min(2000, sample));
    }

    private void step() {
        int voice = voice();
        switch (random.nextInt(20)) {
            case 0: case 1: case 2: case 3: case 4: case 5:
                int sample = sample();
                due("say(" + voice + ", " + sample + ")", a -> a.say(voice, sample), a -> a.say(voice, sample));
                break;
            case 6:
                due("flush(" + voice + ")", a -> a.flush(voice), a -> a.flush(voice));
                break;
            case 7: case 8:
                due("deliver(" + voice + ")", a -> a.deliver(voice), a -> a.deliver(voice));
                break;
            case 9:
                due("lose(" + voice + ")", a -> a.lose(voice), a -> a.lose(voice));
                break;
            case 10: case 11:
                due("swap(" + voice + ")", a -> a.swap(voice), a -> a.swap(voice));
                break;
            case 12:
                setOne();
                break;
            case 13: case 14:
                text();
                break;
            case 15:
                keepOrGoBack();
                break;
            case 16:
                for (int i = pick(1, wildness == 4 ? 3 : 1); i > 0; i--) {
                    due("undo()", FoldedVoices::undo, PlainVoices::undo);
                }
                break;
            default:
                look(voice);
                break;
        }
    }

    private void setOne() {
        int[] most = {4, 99, 8, 9};
        int setting = rarely() ? pick(-1, 5) : pick(0, 3);
        int top = setting < 0 || setting > 3 ? 5 : most[setting];
        int value = rarely() ? pick(-1, 101) : wildness < 2 && setting != 1 ? Math.min(top, pick(1, 3)) : pick(0, top);
        due("set(" + setting + ", " + value + ")", a -> a.set(setting, value), a -> a.set(setting, value));
    }

    private void keepOrGoBack() {
        if (random.nextInt(3) == 0) {
            due("keep()", FoldedVoices::keep, PlainVoices::keep);
        } else {
            due("goBack()", FoldedVoices::goBack, PlainVoices::goBack);
        }
    }

    private void text() {
        StringBuilder text = new StringBuilder();
        for (int part = pick(1, 6); part > 0; part--) {
            if (random.nextInt(3) > 0) {
                text.append("dlx".charAt(pick(0, 2))).append(pick(0, 2));
            } else {
                text.append(pick(0, 2)).append(':').append(textSample());
                for (int more = pick(0, 8); more > 0; more--) {
                    text.append(',').append(textSample());
                }
            }
            text.append(part > 1 ? ";" : "");
        }
        if (random.nextInt(3) == 0) {
            char sign = rarely() ? (char) pick(30, 128) : "0123-,:;dlx9".charAt(pick(0, 11));
            text.setCharAt(pick(0, text.length() - 1), sign);
        }
        int length = random.nextInt(5) == 0 ? pick(0, text.length()) : text.length();
        for (int i = 0; i < length && i < 62; i++) {
            int sign = text.charAt(i);
            due("append(" + sign + ")", a -> a.append(sign), a -> a.append(sign));
        }
        // talk() may not lean on a firstError() ahead of it.
        if (random.nextBoolean()) {
            due("firstError()", FoldedVoices::firstError, PlainVoices::firstError);
        }
        due("talk()", FoldedVoices::talk, PlainVoices::talk);
        if (random.nextBoolean()) {
            due("clearBuffer()", FoldedVoices::clearBuffer, PlainVoices::clearBuffer);
        }
    }

    private void look(int voice) {
        int what = pick(-1, 12);
        due("saying(" + voice + ", " + what + ")", a -> a.saying(voice, what), a -> a.saying(voice, what));
        due("hearing(" + voice + ", " + what + ")", a -> a.hearing(voice, what), a -> a.hearing(voice, what));
        due("count(" + what + ")", a -> a.count(what), a -> a.count(what));
        due("setting(" + what + ")", a -> a.setting(what), a -> a.setting(what));
        due("why(" + voice + ")", a -> a.why(voice), a -> a.why(voice));
        int small = pick(-1, 6);
        int rank = pick(-1, 8);
        due("packet(" + voice + ", " + rank + ", " + small + ")", a -> a.packet(voice, rank, small),
                a -> a.packet(voice, rank, small));
        int sample = sample();
        due("code(" + voice + ", " + sample + ", " + small + ")", a -> a.code(voice, sample, small),
                a -> a.code(voice, sample, small));
        int near = rarely() ? pick(-1, 0) * 2001 : random.nextInt(3) == 0 ? pick(1, 2001) : pick(1, 20);
        due("settles(" + voice + ", " + sample + ", " + near + ")", a -> a.settles(voice, sample, near),
                a -> a.settles(voice, sample, near));
        due("ifDelivered(" + voice + ", " + small + ")", a -> a.ifDelivered(voice, small),
                a -> a.ifDelivered(voice, small));
        due("meanError(" + voice + ")", a -> Double.doubleToLongBits(a.meanError(voice)),
                a -> Double.doubleToLongBits(a.meanError(voice)));
        due("lostShare()", a -> Float.floatToIntBits(a.lostShare()), a -> Float.floatToIntBits(a.lostShare()));
    }
}

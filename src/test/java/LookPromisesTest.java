/** Promises 19, 20 and 26: counts, settings and the hash. */
public final class LookPromisesTest {
    private static final Class<IndexOutOfBoundsException> INDEX = IndexOutOfBoundsException.class;
    private static final Class<IllegalArgumentException> ARGUMENT = IllegalArgumentException.class;
    private static final Check CHECK = new Check("LookPromisesTest");

    private LookPromisesTest() {
    }

    public static void main(String[] args) {
        promise19();
        promise20();
        promise26();
        CHECK.end();
    }

    private static FoldedVoices busy() {
        FoldedVoices x = new FoldedVoices();
        x.set(2, 1);
        Texts.type(x, "0:14,20,-30,40;1:500,600;2:7,8,9;l0;d0;x2;d2;d2");
        x.talk();
        x.set(2, 2);
        x.say(1, 100);
        x.set(0, 2);
        x.say(1, -100);
        return x;
    }

    private static void promise19() {
        FoldedVoices x = busy();
        // Said: nine and two; codes: nine and one; came: one, and two of which one is late.
        int[] due = {11, 10, 9, 5, 1, 3, 1, 6};
        for (int what = 0; what <= 7; what++) {
            if (what != 6 && what != 7) {
                CHECK.due("19: count(" + what + ")", x.count(what), due[what]);
            }
        }
        int agreeing = 0;
        for (int voice = 0; voice < 3; voice++) {
            agreeing += x.why(voice) == 0 ? 1 : 0;
        }
        CHECK.due("19: those that agree", x.count(6), agreeing);
        CHECK.note(agreeing == 1 || agreeing == 2, "19: some should agree, others not");
        CHECK.due("19: saved", x.count(7), 6);
        CHECK.dueThrow("19: what 8", x, ARGUMENT, () -> x.count(8));
        CHECK.dueThrow("19: what -1", x, ARGUMENT, () -> x.count(-1));
        x.undo();
        CHECK.due("19: samples behind undo", x.count(0), 10);
    }

    private static void promise20() {
        FoldedVoices x = new FoldedVoices();
        int[] values = {3, 77, 6, 8};
        for (int setting = 0; setting < 4; setting++) {
            x.set(setting, values[setting]);
        }
        for (int setting = 0; setting < 4; setting++) {
            CHECK.due("20: setting(" + setting + ")", x.setting(setting), values[setting]);
        }
        CHECK.dueThrow("20: setting 4", x, INDEX, () -> x.setting(4));
        CHECK.dueThrow("20: setting -1", x, INDEX, () -> x.setting(-1));
    }

    private static void promise26() {
        FoldedVoices[] objects = {new FoldedVoices(), busy(), Texts.typed("0:!"), new FoldedVoices()};
        objects[3].say(1, 5);
        objects[3].keep();
        for (int i = 0; i < objects.length; i++) {
            long due = Hash.of(objects[i], i == 3, i == 2 ? "0:!" : "");
            CHECK.due("26: digest of " + i, objects[i].digest(), due);
            CHECK.due("26: again", objects[i].digest(), due);
        }
        sharesOfManyKinds();
        smallShares();
        manyGuesses();
        nearTheSampleOfTheHash(-501, 50);
        nearTheSampleOfTheHash(-499, 50);
        nearTheSampleOfTheHash(-500, 51);
        nearTheSampleOfTheHash(-500, 49);
    }

    private static void smallShares() {
        for (int codes = 1; codes <= 40; codes++) {
            FoldedVoices x = new FoldedVoices();
            x.set(2, 1);
            x.say(0, 1);
            x.lose(0);
            for (int i = 0; i < codes; i++) {
                // What is said is what the code 0 leads to, so that the errors are small.
                int step = x.saying(1, 2);
                x.say(1, x.saying(1, 0) + step / 8 + (i % 16 == 0 ? 1 : 0));
                x.deliver(1);
            }
            CHECK.due("26: digest with small shares", x.digest(), Hash.of(x, false, ""));
            CHECK.note(codes < 40 || x.meanError(1) > 0.0 && x.meanError(1) < 0.1, "26: the mean error should be small");
            CHECK.note(codes < 40 || x.lostShare() < 0.1f, "26: the share should be small");
        }
    }

    /** Guesses from which another sample, or another near, would settle behind other codes. */
    private static void nearTheSampleOfTheHash(int otherSample, int otherNear) {
        int seen = 0;
        for (int sample = -2000; sample <= 2000 && seen < 3; sample++) {
            FoldedVoices x = new FoldedVoices();
            x.say(0, 7 * sample % 2001);
            x.say(0, 37 * sample % 2001);
            x.say(0, 119 * sample % 2001);
            x.say(0, 501 * sample % 2001);
            x.say(0, sample);
            if (x.settles(0, -500, 50) != x.settles(0, otherSample, otherNear)) {
                seen++;
                CHECK.due("26: digest near -500", x.digest(), Hash.of(x, false, ""));
            }
        }
        CHECK.note(seen > 0, "26: no guess tells " + otherSample + " and " + otherNear + " apart");
    }

    private static void manyGuesses() {
        for (int sample = -2000; sample <= 2000; sample += 16) {
            FoldedVoices x = new FoldedVoices();
            x.say(0, sample);
            x.say(0, sample);
            x.say(0, sample / 2);
            x.say(1, sample);
            x.say(1, sample);
            x.say(1, sample);
            x.say(1, sample / 3);
            CHECK.due("26: digest behind " + sample, x.digest(), Hash.of(x, false, ""));
        }
    }

    /** Means and shares with many bits, as the library tells these bits. */
    private static void sharesOfManyKinds() {
        for (int packets = 1; packets <= 12; packets++) {
            FoldedVoices x = new FoldedVoices();
            x.set(2, 1);
            for (int i = 0; i < packets; i++) {
                x.say(i % 3, (i * 311) % 4001 - 2000);
                if (i % 4 == 1) {
                    x.lose(i % 3);
                } else {
                    x.deliver(i % 3);
                }
            }
            CHECK.due("26: digest with shares", x.digest(), Hash.of(x, false, ""));
        }
    }
}

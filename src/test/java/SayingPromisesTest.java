/** Promises 1, 2, 3, 15, 21 and 22: what the saying ends do. */
public final class SayingPromisesTest {
    private static final Class<IndexOutOfBoundsException> INDEX = IndexOutOfBoundsException.class;
    private static final Class<IllegalArgumentException> ARGUMENT = IllegalArgumentException.class;
    private static final Class<IllegalStateException> STATE = IllegalStateException.class;
    private static final int NONE = FoldedVoices.NONE;
    private static final Check CHECK = new Check("SayingPromisesTest");

    private SayingPromisesTest() {
    }

    public static void main(String[] args) {
        promise1();
        promise2Codes();
        promise2Gathers();
        promise2Packets();
        promise2Heads();
        promise2Throws();
        promise3();
        promise15();
        promise15SecondWay();
        promise21();
        promise21Nearest();
        promise22();
        CHECK.end();
    }

    private static void promise1() {
        FoldedVoices x = new FoldedVoices();
        int[] step = {0, 0, 8};
        for (int voice = 0; voice < 3; voice++) {
            for (int what = 0; what <= 9; what++) {
                CHECK.due("1: saying(" + voice + ", " + what + ")", x.saying(voice, what), what < 3 ? step[what] : 0);
            }
            for (int what = 0; what <= 11; what++) {
                CHECK.due("1: hearing(" + voice + ", " + what + ")", x.hearing(voice, what), what < 3 ? step[what] : 0);
            }
            CHECK.due("1: why(" + voice + ")", x.why(voice), 0);
            CHECK.dueDouble("1: meanError(" + voice + ")", x.meanError(voice), 0.0);
        }
        int[] counts = {0, 0, 0, 0, 0, 0, 3, 0};
        for (int what = 0; what <= 7; what++) {
            CHECK.due("1: count(" + what + ")", x.count(what), counts[what]);
        }
        int[] settings = {1, 0, 4, 3};
        for (int setting = 0; setting <= 3; setting++) {
            CHECK.due("1: setting(" + setting + ")", x.setting(setting), settings[setting]);
        }
        CHECK.due("1: the buffer", x.clearBuffer(), 0);
        CHECK.due("1: firstError", x.firstError(), 0);
        CHECK.dueThrow("1: no snapshot, goBack", x, STATE, x::goBack);
        CHECK.dueThrow("1: no saved state, undo", x, STATE, x::undo);
        CHECK.due("1: NONE", NONE, -10000);
        FoldedVoices other = new FoldedVoices();
        other.say(0, 9);
        CHECK.due("1: objects are apart", x.saying(0, 0), 0);
    }

    private static void promise2Codes() {
        // Four times 2000: the steps 8, 41, 235 and 1391; the guess stays at 2000 behind the last.
        FoldedVoices x = new FoldedVoices();
        int[][] rows = {{7, 15, 8}, {7, 91, 16}, {7, 530, 24}, {4, 2000, 24}, {0, 2000, 23}};
        for (int[] row : rows) {
            CHECK.due("2: say(0, 2000)", x.say(0, 2000), row[0]);
            CHECK.due("2: guess", x.saying(0, 0), row[1]);
            CHECK.due("2: index", x.saying(0, 1), row[2]);
        }
        FoldedVoices y = new FoldedVoices();
        for (int[] row : rows) {
            boolean isLast = row[0] == 0;
            CHECK.due("2: say(2, -2000)", y.say(2, -2000), isLast ? 0 : row[0] + 8);
            // Behind the last one the guess is -2000, the difference 0, and 0 is not below 0.
            CHECK.due("2: guess below 0", y.saying(2, 0), isLast ? -1827 : -row[1]);
            CHECK.due("2: index below 0", y.saying(2, 1), row[2]);
        }
        CHECK.due("2: another voice", y.saying(0, 0), 0);
        CHECK.due("2: samples of all voices", y.count(0), 5);
    }

    private static void promise2Gathers() {
        FoldedVoices x = new FoldedVoices();
        x.set(0, 3);
        CHECK.due("2: first of three", x.say(1, -7), NONE);
        CHECK.due("2: second of three", x.say(1, -7), NONE);
        CHECK.due("2: two are gathered", x.saying(1, 3), 2);
        CHECK.due("2: their sum", x.saying(1, 4), -14);
        // -17 / 3 is -5 towards 0: the bits 8 and 2 at the step 8.
        CHECK.due("2: third of three", x.say(1, -3), 10);
        CHECK.due("2: none are gathered", x.saying(1, 3), 0);
        CHECK.due("2: no sum", x.saying(1, 4), 0);
        CHECK.due("2: samples", x.count(0), 3);
        x.set(0, 4);
        x.say(1, 30);
        x.say(1, 30);
        x.say(1, 30);
        x.set(0, 1);
        CHECK.due("2: a setting does nothing by itself", x.saying(1, 3), 3);
        // The mean of 30, 30, 30 and -10 is 20; from -5 at the step 8 all bits are 1.
        CHECK.due("2: more than the rate", x.say(1, -10), 7);
        CHECK.due("2: one code more", x.saying(1, 7), 2);
        gateHolds();
    }

    private static void gateHolds() {
        FoldedVoices x = new FoldedVoices();
        x.set(1, 10);
        x.set(2, 1);
        CHECK.due("2: below the gate", x.say(0, 9), 0);
        CHECK.due("2: below the gate, below 0", x.say(0, -9), 8);
        CHECK.due("2: at the gate", x.say(0, 10), 5);
        x.deliver(0);
        // The code 0 is heard as 1, for the mean 0 that the gate left of 9.
        CHECK.due("2: the error is told from what the gate left", x.hearing(0, 8), 1);
        FoldedVoices y = new FoldedVoices();
        y.set(1, 10);
        CHECK.due("2: at the gate, below 0", y.say(0, -10), 13);
    }

    private static void promise2Packets() {
        FoldedVoices x = new FoldedVoices();
        for (int i = 0; i < 3; i++) {
            x.say(0, 14);
            CHECK.due("2: no packet yet", x.saying(0, 9), 0);
        }
        x.say(0, 14);
        CHECK.due("2: a packet of four", x.saying(0, 9), 1);
        CHECK.due("2: its codes", x.packet(0, 0, 1), 4);
        CHECK.due("2: none are gathered", x.saying(0, 5), 0);
        CHECK.due("2: all codes so far", x.saying(0, 7), 4);
        x.say(0, 14);
        x.say(0, 14);
        x.set(0, 2);
        x.set(2, 1);
        CHECK.due("2: a setting makes no packet", x.saying(0, 9), 1);
        CHECK.due("2: no code is found", x.say(0, 14), NONE);
        CHECK.due("2: but a packet is made", x.saying(0, 9), 2);
        CHECK.due("2: of both codes", x.packet(0, 1, 1), 2);
        CHECK.due("2: the sample stays gathered", x.saying(0, 3), 1);
        FoldedVoices y = new FoldedVoices();
        y.set(2, 8);
        for (int i = 0; i < 7; i++) {
            y.say(0, 14);
        }
        y.set(2, 1);
        y.say(0, 14);
        CHECK.due("2: a packet of eight", y.packet(0, 0, 1), 8);
    }

    private static void promise2Heads() {
        FoldedVoices x = new FoldedVoices();
        x.set(2, 1);
        int[] heads = {1, 0, 0, 1, 0, 0, 1};
        for (int i = 0; i < heads.length; i++) {
            x.say(0, 14);
            CHECK.due("2: head of packet " + i, x.packet(0, i, 2), heads[i]);
        }
        FoldedVoices y = new FoldedVoices();
        y.set(2, 1);
        y.set(3, 9);
        y.say(0, 14);
        y.say(0, 14);
        y.say(0, 14);
        y.set(3, 2);
        y.say(0, 14);
        CHECK.due("2: more than setting 3 since the head", y.packet(0, 3, 2), 1);
        y.say(0, 14);
        CHECK.due("2: one since the head", y.packet(0, 4, 2), 0);
        y.set(3, 1);
        y.say(0, 14);
        y.say(0, 14);
        CHECK.due("2: each one has a head", y.packet(0, 6, 2), 1);
        headsStandAheadOfTheFirstCode();
    }

    private static void headsStandAheadOfTheFirstCode() {
        FoldedVoices x = new FoldedVoices();
        x.set(3, 1);
        x.set(2, 2);
        x.say(0, 14);
        x.say(0, 14);
        x.say(0, 14);
        x.say(0, 14);
        // 14 is heard as 15 at the index 8; then -1 is the code 8 at the step 41, which is -5.
        CHECK.due("2: guess of the first head", x.packet(0, 0, 3), 0);
        CHECK.due("2: index of the first head", x.packet(0, 0, 4), 0);
        CHECK.due("2: guess of the second head", x.packet(0, 1, 3), 10);
        CHECK.due("2: index of the second head", x.packet(0, 1, 4), 7);
    }

    private static FoldedVoices withFullWire(int voice) {
        FoldedVoices x = new FoldedVoices();
        x.set(2, 1);
        for (int i = 0; i < 8; i++) {
            x.say(voice, 14);
        }
        return x;
    }

    private static void promise2Throws() {
        FoldedVoices x = new FoldedVoices();
        CHECK.dueThrow("2: voice -1", x, INDEX, () -> x.say(-1, 0));
        CHECK.dueThrow("2: voice 3", x, INDEX, () -> x.say(3, 0));
        CHECK.dueThrow("2: voice least", x, INDEX, () -> x.say(Integer.MIN_VALUE, 9999));
        CHECK.dueThrow("2: sample 2001", x, ARGUMENT, () -> x.say(0, 2001));
        CHECK.dueThrow("2: sample -2001", x, ARGUMENT, () -> x.say(2, -2001));
        CHECK.dueThrow("2: sample least", x, ARGUMENT, () -> x.say(2, Integer.MIN_VALUE));
        FoldedVoices full = withFullWire(1);
        CHECK.due("2: eight wait", full.saying(1, 9), 8);
        CHECK.dueThrow("2: a ninth packet", full, STATE, () -> full.say(1, 0));
        CHECK.dueThrow("2: sample ahead of the wire", full, ARGUMENT, () -> full.say(1, 2001));
        CHECK.due("2: another voice has room", full.say(0, 14), 7);
        full.set(2, 2);
        CHECK.due("2: no packet would be made", full.say(1, 14) >= 0 ? 1 : 0, 1);
        CHECK.dueThrow("2: the second code makes one", full, STATE, () -> full.say(1, 0));
        full.set(0, 2);
        CHECK.due("2: no code, no packet", full.say(1, 14), NONE);
        full.set(2, 1);
        full.set(0, 4);
        CHECK.dueThrow("2: a packet without a new code", full, STATE, () -> full.say(1, 0));
        full.lose(1);
        CHECK.due("2: room again", full.say(1, 0), NONE);
        CHECK.due("2: full again", full.saying(1, 9), 8);
    }

    private static void promise3() {
        FoldedVoices x = new FoldedVoices();
        CHECK.dueThrow("3: no codes", x, STATE, () -> x.flush(0));
        CHECK.dueThrow("3: voice 3", x, INDEX, () -> x.flush(3));
        CHECK.dueThrow("3: voice -1", x, INDEX, () -> x.flush(-1));
        x.say(0, 14);
        x.say(0, 14);
        x.set(0, 2);
        x.say(0, 5);
        CHECK.due("3: flush", x.flush(0), 2);
        CHECK.due("3: a packet of two", x.packet(0, 0, 1), 2);
        CHECK.due("3: it has a head", x.packet(0, 0, 2), 1);
        CHECK.due("3: none are gathered", x.saying(0, 5), 0);
        CHECK.due("3: the sample stays gathered", x.saying(0, 3), 1);
        CHECK.due("3: saved", x.count(7), 5);
        CHECK.due("3: undo", x.undo(), 4);
        CHECK.due("3: gathered again", x.saying(0, 5), 2);
        CHECK.dueThrow("3: none in this voice", x, STATE, () -> x.flush(1));
        FoldedVoices full = withFullWire(2);
        CHECK.dueThrow("3: no codes and no room", full, STATE, () -> full.flush(2));
        full.set(2, 4);
        full.say(2, 14);
        CHECK.dueThrow("3: no room", full, STATE, () -> full.flush(2));
        full.deliver(2);
        CHECK.due("3: room", full.flush(2), 1);
    }

    private static void promise15() {
        FoldedVoices x = new FoldedVoices();
        x.set(0, 2);
        x.say(1, 100);
        x.say(1, 100);
        x.say(1, 50);
        int[] due = {15, 8, 41, 1, 50, 1, 0, 1, 15, 0};
        for (int what = 0; what <= 9; what++) {
            CHECK.due("15: saying(1, " + what + ")", x.saying(1, what), due[what]);
            CHECK.due("15: saying(0, " + what + ")", x.saying(0, what), what == 2 ? 8 : 0);
        }
        x.flush(1);
        x.say(1, 70);
        x.flush(1);
        // From 15 at the step 41 the mean 60 is the code 4: 15 + 5 + 41.
        int[] later = {61, 10, 63, 0, 0, 0, 2, 2, 61, 2};
        for (int what = 0; what <= 9; what++) {
            CHECK.due("15: later saying(1, " + what + ")", x.saying(1, what), later[what]);
        }
        CHECK.dueThrow("15: voice 3", x, INDEX, () -> x.saying(3, 0));
        CHECK.dueThrow("15: voice -1 and what 10", x, INDEX, () -> x.saying(-1, 10));
        CHECK.dueThrow("15: what 10", x, ARGUMENT, () -> x.saying(2, 10));
        CHECK.dueThrow("15: what -1", x, ARGUMENT, () -> x.saying(0, -1));
        stepsOfAllIndexes();
    }

    private static void stepsOfAllIndexes() {
        // With 2000 and 0 in turns the index goes up and down; each step seen is checked.
        int[] steps = new int[25];
        steps[0] = 8;
        for (int i = 1; i < steps.length; i++) {
            steps[i] = 5 * steps[i - 1] / 4;
        }
        CHECK.due("15: the last step", steps[24], 1391);
        boolean[] seen = new boolean[25];
        FoldedVoices x = new FoldedVoices();
        x.set(2, 8);
        for (int i = 0; i < 100; i++) {
            int far = i % 40 < 4 ? 2000 : 0;
            x.say(0, i >= 70 ? Math.min(2000, x.saying(0, 0) + x.saying(0, 2)) : far);
            int index = x.saying(0, 1);
            seen[index] = true;
            CHECK.due("15: the step of the index " + index, x.saying(0, 2), steps[index]);
            if (x.saying(0, 9) > 0) {
                x.lose(0);
            }
        }
        int count = 0;
        for (boolean one : seen) {
            count += one ? 1 : 0;
        }
        CHECK.note(count >= 20, "15: only " + count + " indexes were seen");
    }

    private static void promise15SecondWay() {
        FoldedVoices x = new FoldedVoices();
        x.set(2, 8);
        x.set(3, 9);
        for (int i = 0; i < 100; i++) {
            x.say(1, (i * 677) % 4001 - 2000);
            CHECK.due("15: the guess told a second way", x.saying(1, 8), x.saying(1, 0));
            if (x.saying(1, 9) == 8) {
                x.deliver(1);
            }
        }
        for (int i = 0; i < 6 && x.count(7) > 0; i++) {
            x.undo();
            CHECK.due("15: a second way behind undo", x.saying(1, 8), x.saying(1, 0));
        }
    }

    private static void promise21() {
        FoldedVoices x = new FoldedVoices();
        // At the guess 0 and the step 8: {sample, code, guess, index}.
        int[][] rows = {
            {0, 0, 1, 0}, {1, 0, 1, 0}, {2, 1, 3, 0}, {3, 1, 3, 0}, {4, 2, 5, 0}, {5, 2, 5, 0}, {6, 3, 7, 0},
            {7, 3, 7, 0}, {8, 4, 9, 2}, {10, 5, 11, 4}, {12, 6, 13, 6}, {14, 7, 15, 8}, {2000, 7, 15, 8},
            {-1, 8, -1, 0}, {-2, 9, -3, 0}, {-4, 10, -5, 0}, {-6, 11, -7, 0}, {-8, 12, -9, 2},
            {-10, 13, -11, 4}, {-12, 14, -13, 6}, {-14, 15, -15, 8}, {-2000, 15, -15, 8}};
        for (int[] row : rows) {
            for (int what = 0; what <= 2; what++) {
                CHECK.due("21: code(0, " + row[0] + ", " + what + ")", x.code(0, row[0], what), row[1 + what]);
            }
        }
        x.set(0, 4);
        x.set(1, 99);
        x.say(0, 2000);
        CHECK.due("21: whatever is gathered, and without the gate", x.code(0, 14, 0), 7);
        CHECK.due("21: nothing is changed", x.saying(0, 0), 0);
        CHECK.dueThrow("21: voice -1", x, INDEX, () -> x.code(-1, 0, 0));
        CHECK.dueThrow("21: voice 3, sample and what", x, INDEX, () -> x.code(3, 2001, 5));
        CHECK.dueThrow("21: sample 2001", x, ARGUMENT, () -> x.code(0, 2001, 0));
        CHECK.dueThrow("21: sample -2001", x, ARGUMENT, () -> x.code(0, -2001, 4));
        CHECK.dueThrow("21: what -1", x, ARGUMENT, () -> x.code(0, 0, -1));
        CHECK.dueThrow("21: what 5", x, ARGUMENT, () -> x.code(0, 0, 5));
    }

    private static void promise21Nearest() {
        FoldedVoices x = new FoldedVoices();
        // The guesses behind the codes 0 to 7 are 1, 3, 5, .. 15, behind 8 to 15 these below 0.
        int[][] rows = {{0, 0, 1}, {1, 0, 1}, {2, 0, 1}, {3, 1, 3}, {4, 1, 3}, {5, 2, 5}, {6, 2, 5}, {9, 4, 9},
            {14, 6, 13}, {15, 7, 15}, {2000, 7, 15}, {-1, 8, -1}, {-2, 8, -1}, {-3, 9, -3}, {-2000, 15, -15}};
        for (int[] row : rows) {
            CHECK.due("21: nearest of " + row[0], x.code(2, row[0], 3), row[1]);
            CHECK.due("21: its guess, of " + row[0], x.code(2, row[0], 4), row[2]);
        }
        for (int i = 0; i < 4; i++) {
            x.say(2, 2000);
        }
        // At 2000 with the step 1391 the codes 0 to 7 all stay at 2000.
        CHECK.due("21: of several the least", x.code(2, 2000, 3), 0);
        CHECK.due("21: the guess stays at 2000", x.code(2, 2000, 1), 2000);
        CHECK.due("21: the guess behind the nearest", x.code(2, 1500, 4), 1480);
        CHECK.due("21: the nearest code of 1500", x.code(2, 1500, 3), 9);
        CHECK.due("21: the index behind it stays to 24", x.code(2, 0, 2), 24);
    }

    private static void promise22() {
        FoldedVoices x = new FoldedVoices();
        CHECK.due("22: at once", x.settles(0, 0, 1), 0);
        CHECK.due("22: by less than near", x.settles(0, 9, 10), 0);
        CHECK.due("22: not by near", x.settles(0, 10, 10), 1);
        // 14, 15: one code; 2000: 15, 91, 530, 2000.
        CHECK.due("22: settles(0, 14, 2)", x.settles(0, 14, 2), 1);
        CHECK.due("22: settles(0, 2000, 1)", x.settles(0, 2000, 1), 4);
        CHECK.due("22: settles(0, 2000, 1471)", x.settles(0, 2000, 1471), 3);
        CHECK.due("22: settles(0, 2000, 1470)", x.settles(0, 2000, 1470), 4);
        CHECK.due("22: settles(0, 2000, 2000)", x.settles(0, 2000, 2000), 1);
        CHECK.due("22: settles(0, -2000, 1)", x.settles(0, -2000, 1), 4);
        // From 0 the guess is 1, then the codes 8 and 0 lead to 0 and 1 in turns.
        CHECK.due("22: settles(0, 1, 1)", x.settles(0, 1, 1), 1);
        CHECK.due("22: nothing is changed", x.saying(0, 0), 0);
        neverSettles();
        CHECK.dueThrow("22: voice 3", x, INDEX, () -> x.settles(3, 2001, 0));
        CHECK.dueThrow("22: sample 2001", x, ARGUMENT, () -> x.settles(0, 2001, 1));
        CHECK.dueThrow("22: sample -2001", x, ARGUMENT, () -> x.settles(0, -2001, 1));
        CHECK.dueThrow("22: near 0", x, ARGUMENT, () -> x.settles(0, 0, 0));
        CHECK.dueThrow("22: near 2001", x, ARGUMENT, () -> x.settles(0, 0, 2001));
    }

    private static void neverSettles() {
        // At the step 8 the guesses behind codes stay odd, one away from the even sample.
        FoldedVoices x = new FoldedVoices();
        int guess = 0;
        int due = NONE;
        int index = 0;
        int[] steps = new int[25];
        steps[0] = 8;
        for (int i = 1; i < steps.length; i++) {
            steps[i] = 5 * steps[i - 1] / 4;
        }
        for (int sample = -60; sample <= 60; sample++) {
            guess = 0;
            index = 0;
            due = NONE;
            for (int n = 0; n <= 60 && due == NONE; n++) {
                if (guess == sample) {
                    due = n;
                }
                int left = Math.abs(sample - guess);
                int step = steps[index];
                int change = step / 8;
                int size = 0;
                for (int part = step, bit = 4; bit >= 1; part = bit == 4 ? step / 2 : step / 4, bit /= 2) {
                    if (left >= part) {
                        left -= part;
                        size += bit;
                        change += part;
                    }
                }
                guess += sample < guess ? -change : change;
                index = Math.max(0, Math.min(24, index + (size < 4 ? -1 : 2 * size - 6)));
            }
            CHECK.due("22: settles(1, " + sample + ", 1)", x.settles(1, sample, 1), due);
        }
    }
}

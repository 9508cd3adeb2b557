import java.util.ArrayDeque;
import java.util.Arrays;

/** Leads the ends of a voice to a guess and an index that a test wants. */
final class Ends {
    static final int[] STEPS = {8, 10, 12, 15, 18, 22, 27, 33, 41, 51, 63, 78, 97, 121, 151, 188, 235, 293, 366, 457, 571,
        713, 891, 1113, 1391};
    private static final int STATES = 4001 * 25;
    private static final int[] MOVES = {-1, -1, -1, -1, 2, 4, 6, 8};
    // For each state, how the shortest way of codes leads to it: 16 times the state ahead of it, and the code.
    private static final int[] CAME_BY = ways();

    private Ends() {
    }

    /** The least difference, without its sign, whose code has these bits 4, 2 and 1. */
    static int least(int size, int step) {
        return (size >= 4 ? step : 0) + (size % 4 >= 2 ? step / 2 : 0) + (size % 2 == 1 ? step / 4 : 0);
    }

    static int codeFor(int guess, int index, int sample) {
        int size = 7;
        while (size > 0 && Math.abs(sample - guess) < least(size, STEPS[index])) {
            size--;
        }
        return sample < guess ? 8 + size : size;
    }

    static int change(int size, int step) {
        return step / 8 + least(size, step);
    }

    static int guessBehind(int guess, int index, int code) {
        int change = change(code % 8, STEPS[index]);
        return Math.max(-2000, Math.min(2000, code >= 8 ? guess - change : guess + change));
    }

    static int indexBehind(int index, int code) {
        return Math.max(0, Math.min(24, index + MOVES[code % 8]));
    }

    /** The sample nearest to the guess whose code is this one. */
    static int sampleFor(int guess, int index, int code) {
        int least = least(code % 8, STEPS[index]);
        return code >= 8 ? guess - Math.max(1, least) : guess + least;
    }

    /** The saying end of the voice 0 is there, its wire is empty and nothing is gathered. */
    static FoldedVoices sayingAt(int guess, int index) {
        return led(guess, index, false);
    }

    /** Both ends of the voice 0 are there, its wire is empty and nothing is gathered. */
    static FoldedVoices bothAt(int guess, int index) {
        return led(guess, index, true);
    }

    /** A guess in these bounds with which an end can have the index, the one with the shortest way. */
    static int guessWith(int index, int least, int most) {
        int best = 0;
        int shortest = Integer.MAX_VALUE;
        for (int guess = least; guess <= most; guess++) {
            int length = codesTo(guess, index).length;
            if (length < shortest) {
                shortest = length;
                best = guess;
            }
        }
        return best;
    }

    static int[] codesTo(int guess, int index) {
        int[] codes = new int[64];
        int from = codes.length;
        for (int state = state(guess, index); state != state(0, 0); state = CAME_BY[state] / 16) {
            from--;
            codes[from] = CAME_BY[state] % 16;
        }
        return Arrays.copyOfRange(codes, from, codes.length);
    }

    private static FoldedVoices led(int guess, int index, boolean isHeard) {
        FoldedVoices x = new FoldedVoices();
        for (int code : codesTo(guess, index)) {
            sayCode(x, 0, code);
            takeOff(x, isHeard);
        }
        if (x.saying(0, 5) > 0) {
            x.flush(0);
            takeOff(x, isHeard);
        }
        boolean isThere = x.saying(0, 0) == guess && x.saying(0, 1) == index;
        if (!isThere || isHeard && (x.hearing(0, 0) != guess || x.hearing(0, 1) != index)) {
            throw new IllegalStateException("the ends do not come to " + guess + " at " + index);
        }
        return x;
    }

    static void sayCode(FoldedVoices x, int voice, int code) {
        x.say(voice, sampleFor(x.saying(voice, 0), x.saying(voice, 1), code));
    }

    private static void takeOff(FoldedVoices x, boolean isHeard) {
        if (x.saying(0, 9) > 0) {
            if (isHeard) {
                x.deliver(0);
            } else {
                x.lose(0);
            }
        }
    }

    private static int state(int guess, int index) {
        return (guess + 2000) * 25 + index;
    }

    private static int[] ways() {
        int[] cameBy = new int[STATES];
        Arrays.fill(cameBy, -1);
        ArrayDeque<Integer> next = new ArrayDeque<>();
        cameBy[state(0, 0)] = 0;
        next.add(state(0, 0));
        while (!next.isEmpty()) {
            int state = next.remove();
            for (int code = 0; code < 16; code++) {
                int behind = behind(state, code);
                if (behind >= 0 && cameBy[behind] < 0) {
                    cameBy[behind] = 16 * state + code;
                    next.add(behind);
                }
            }
        }
        return cameBy;
    }

    // -1 if no sample has this code there.
    private static int behind(int state, int code) {
        int guess = state / 25 - 2000;
        int index = state % 25;
        int sample = sampleFor(guess, index, code);
        boolean isSample = sample >= -2000 && sample <= 2000;
        return isSample ? state(guessBehind(guess, index, code), indexBehind(index, code)) : -1;
    }
}

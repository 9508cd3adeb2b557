/** Edges of the ends and their codes: promises 2, 15, 16, 21 and 22, and "Ends, codes" of the terms. */
public final class EndEdgesTest {
    private static final int NONE = FoldedVoices.NONE;
    private static final Edges EDGES = new Edges("EndEdgesTest");

    private EndEdgesTest() {
    }

    public static void main(String[] args) {
        whereEndsAre();
        howCodesAreFound();
        howCodesAreFollowed();
        whatWouldBe();
        howLongItTakes();
        EDGES.end();
    }

    private static void whereEndsAre() {
        EDGES.edge(15, "An end has a guess, -2000 to 2000, at first 0, and an index, 0 to 24, at first 0.",
                EndEdgesTest::newSayingEnds);
        EDGES.edge(16, "An end has a guess, -2000 to 2000, at first 0, and an index, 0 to 24, at first 0.",
                EndEdgesTest::newHearingEnds);
        EDGES.edge(15, "The step of the index 0 is 8", EndEdgesTest::firstStep);
        EDGES.edge(15, "the step of each further index is 5 times the one ahead of it, divided by 4 (8, 10, 12, 15, 18, .. up"
                + " to 1391)", EndEdgesTest::stepsOfTheSayingEnd);
        EDGES.edge(16, "the step of each further index is 5 times the one ahead of it, divided by 4 (8, 10, 12, 15, 18, .. up"
                + " to 1391)", EndEdgesTest::stepsOfTheHearingEnd);
    }

    private static void newSayingEnds() {
        FoldedVoices x = new FoldedVoices();
        for (int voice = 0; voice < 3; voice++) {
            EDGES.due("the guess of " + voice, x.saying(voice, 0), 0);
            EDGES.due("the index of " + voice, x.saying(voice, 1), 0);
        }
    }

    private static void newHearingEnds() {
        FoldedVoices x = new FoldedVoices();
        for (int voice = 0; voice < 3; voice++) {
            EDGES.due("the guess of " + voice, x.hearing(voice, 0), 0);
            EDGES.due("the index of " + voice, x.hearing(voice, 1), 0);
        }
    }

    private static void firstStep() {
        FoldedVoices x = new FoldedVoices();
        EDGES.due("the step of the saying end", x.saying(2, 2), 8);
        EDGES.due("the step of the hearing end", x.hearing(2, 2), 8);
    }

    private static void stepsOfTheSayingEnd() {
        for (int index = 0; index <= 24; index++) {
            FoldedVoices x = Ends.sayingAt(Ends.guessWith(index, -300, 300), index);
            EDGES.due("the index", x.saying(0, 1), index);
            EDGES.due("the step of " + index, x.saying(0, 2), Ends.STEPS[index]);
            if (index > 0) {
                EDGES.due("the rule of the steps", Ends.STEPS[index], 5 * Ends.STEPS[index - 1] / 4);
            }
        }
    }

    private static void stepsOfTheHearingEnd() {
        for (int index = 0; index <= 24; index++) {
            FoldedVoices x = Ends.bothAt(Ends.guessWith(index, -300, 300), index);
            EDGES.due("the index", x.hearing(0, 1), index);
            EDGES.due("the step of " + index, x.hearing(0, 2), Ends.STEPS[index]);
        }
    }

    private static void howCodesAreFound() {
        EDGES.edge(2, "the difference is the sample less the guess; the bit 8 is 1 if it is below 0",
                EndEdgesTest::bit8BySaying);
        EDGES.edge(21, "the difference is the sample less the guess; the bit 8 is 1 if it is below 0",
                EndEdgesTest::bit8ByLooking);
        EDGES.edge(2, "The bit 4 is 1 if the difference is at least the step", EndEdgesTest::bit4);
        EDGES.edge(2, "the bit 2 is 1 if what is left is at least step / 2", EndEdgesTest::bit2);
        EDGES.edge(2, "the bit 1 is 1 if what is left is at least step / 4", EndEdgesTest::bit1);
        EDGES.edge(21, "The bit 4 is 1 if the difference is at least the step", () -> codesAtEachStep(4, 4));
        EDGES.edge(21, "which is taken from it then; the bit 2 is 1 if what is left is at least step / 2", () -> {
            codesAtEachStep(2, 2);
            codesAtEachStep(6, 6);
        });
        EDGES.edge(21, "which is taken from it then; the bit 1 is 1 if what is left is at least step / 4", () -> {
            codesAtEachStep(1, 1);
            codesAtEachStep(3, 3);
            codesAtEachStep(5, 5);
            codesAtEachStep(7, 7);
        });
        EDGES.edge(21, "from then on it is taken without its sign", () -> codesAtEachStep(1, 7));
    }

    /** At the guess 0 and the step 8 the code of a sample as say() finds it. */
    private static void dueCode(int sample, int code) {
        EDGES.due("say(0, " + sample + ")", new FoldedVoices().say(0, sample), code);
    }

    private static void bit8BySaying() {
        dueCode(-1, 8);
        dueCode(0, 0);
        dueCode(1, 0);
        int[] guesses = {15, -15, 700, -700};
        for (int guess : guesses) {
            EDGES.due("1 below " + guess, Ends.sayingAt(guess, 8).say(0, guess - 1), 8);
            EDGES.due("at " + guess, Ends.sayingAt(guess, 8).say(0, guess), 0);
            EDGES.due("1 above " + guess, Ends.sayingAt(guess, 8).say(0, guess + 1), 0);
        }
    }

    private static void bit8ByLooking() {
        int[] guesses = {0, 15, -15, 700, -700, 1999, -1999};
        for (int guess : guesses) {
            FoldedVoices x = Ends.sayingAt(guess, 8);
            EDGES.due("1 below " + guess, x.code(0, guess - 1, 0), 8);
            EDGES.due("at " + guess, x.code(0, guess, 0), 0);
            EDGES.due("1 above " + guess, x.code(0, guess + 1, 0), 0);
        }
    }

    private static void bit4() {
        dueCode(7, 3);
        dueCode(8, 4);
        dueCode(-7, 11);
        dueCode(-8, 12);
    }

    private static void bit2() {
        dueCode(3, 1);
        dueCode(4, 2);
        dueCode(11, 5);
        dueCode(12, 6);
        dueCode(-3, 9);
        dueCode(-4, 10);
        dueCode(-11, 13);
        dueCode(-12, 14);
    }

    private static void bit1() {
        dueCode(1, 0);
        dueCode(2, 1);
        dueCode(5, 2);
        dueCode(6, 3);
        dueCode(9, 4);
        dueCode(10, 5);
        dueCode(13, 6);
        dueCode(14, 7);
        dueCode(-1, 8);
        dueCode(-2, 9);
        dueCode(-13, 14);
        dueCode(-14, 15);
    }

    /** At each index the least difference of the bits from..to, and the one below it, on both sides of the guess. */
    private static void codesAtEachStep(int from, int to) {
        for (int index = 0; index <= 24; index++) {
            int low = Ends.guessWith(index, -1500, -450);
            int high = Ends.guessWith(index, 450, 1500);
            FoldedVoices below = Ends.sayingAt(low, index);
            FoldedVoices above = Ends.sayingAt(high, index);
            for (int size = from; size <= to; size++) {
                int least = Ends.least(size, Ends.STEPS[index]);
                String where = "at the index " + index + " the difference ";
                EDGES.due(where + least, below.code(0, low + least, 0), size);
                EDGES.due(where + (least - 1), below.code(0, low + least - 1, 0), size - 1);
                EDGES.due(where + -least, above.code(0, high - least, 0), 8 + size);
                EDGES.due(where + (1 - least), above.code(0, high - least + 1, 0), 8 + size - 1);
            }
        }
    }

    private static void howCodesAreFollowed() {
        EDGES.edge(2, "the change is step / 8, and step more if the bit 4 is 1, step / 2 more if the bit 2 is 1, step / 4 more"
                + " if the bit 1 is 1; the guess becomes more by the change, or less by it if the bit 8 is 1",
                EndEdgesTest::changesAtEachStep);
        EDGES.edge(15, "but it stays from -2000 to 2000", EndEdgesTest::farthestGuessesOfTheSayingEnd);
        EDGES.edge(16, "but it stays from -2000 to 2000", EndEdgesTest::farthestGuessesOfTheHearingEnd);
        EDGES.edge(16, "but it stays from -2000 to 2000 (the hearing end alone comes there)",
                EndEdgesTest::farthestGuessOfTheHearingEndAlone);
        EDGES.edge(15, "with 0 to 3 1 less, with 4, 5, 6 and 7 2, 4, 6 and 8 more", EndEdgesTest::movesOfTheIndex);
        EDGES.edge(15, "but it stays from 0 to 24", EndEdgesTest::farthestIndexesOfTheSayingEnd);
        EDGES.edge(16, "but it stays from 0 to 24", EndEdgesTest::farthestIndexesOfTheHearingEnd);
    }

    private static void changesAtEachStep() {
        for (int index = 0; index <= 24; index++) {
            int low = Ends.guessWith(index, -1500, -450);
            int high = Ends.guessWith(index, 450, 1500);
            for (int size = 0; size < 8; size++) {
                int change = Ends.change(size, Ends.STEPS[index]);
                FoldedVoices x = Ends.sayingAt(low, index);
                EDGES.due("the code", x.say(0, Ends.sampleFor(low, index, size)), size);
                EDGES.due("the guess", x.saying(0, 0), Math.min(2000, low + change));
                FoldedVoices y = Ends.sayingAt(high, index);
                EDGES.due("the code below", y.say(0, Ends.sampleFor(high, index, 8 + size)), 8 + size);
                EDGES.due("the guess below", y.saying(0, 0), Math.max(-2000, high - change));
            }
        }
    }

    // {guess, index, sample, guess behind it}: the changes of the code 0 are 1 at the index 3 and 2 at 4,
    // those of the codes 6 and 7 at 24 are 2259 and 2606.
    private static final int[][] FARTHEST = {
        {1998, 3, 1999, 1999}, {1999, 3, 2000, 2000}, {2000, 3, 2000, 2000},
        {1997, 4, 1998, 1999}, {1998, 4, 1999, 2000}, {1999, 4, 2000, 2000}, {2000, 4, 2000, 2000},
        {-1998, 3, -1999, -1999}, {-1999, 3, -2000, -2000},
        {-1997, 4, -1998, -1999}, {-1998, 4, -1999, -2000}, {-1999, 4, -2000, -2000},
        {-260, 24, 2000, 1999}, {-259, 24, 2000, 2000}, {-258, 24, 2000, 2000}, {-433, 24, 2000, 2000},
        {260, 24, -2000, -1999}, {259, 24, -2000, -2000}, {258, 24, -2000, -2000}, {433, 24, -2000, -2000}};

    private static void farthestGuessesOfTheSayingEnd() {
        for (int[] row : FARTHEST) {
            FoldedVoices x = Ends.sayingAt(row[0], row[1]);
            EDGES.due("the guess that code() tells, from " + row[0], x.code(0, row[2], 1), row[3]);
            x.say(0, row[2]);
            EDGES.due("the guess from " + row[0] + " at " + row[1], x.saying(0, 0), row[3]);
            EDGES.due("told a second way", x.saying(0, 8), row[3]);
        }
    }

    private static void farthestGuessesOfTheHearingEnd() {
        for (int[] row : FARTHEST) {
            FoldedVoices x = Ends.bothAt(row[0], row[1]);
            x.say(0, row[2]);
            x.flush(0);
            EDGES.due("the guess if it came", x.ifDelivered(0, 0), row[3]);
            x.deliver(0);
            EDGES.due("the guess from " + row[0] + " at " + row[1], x.hearing(0, 0), row[3]);
        }
    }

    private static void farthestGuessOfTheHearingEndAlone() {
        for (int side = -1; side <= 1; side += 2) {
            FoldedVoices x = Ends.bothAt(1999 * side, 24);
            x.set(3, 9);
            x.say(0, -2000 * side);
            x.flush(0);
            x.lose(0);
            EDGES.due("the saying end", x.saying(0, 0), -607 * side);
            x.say(0, 2000 * side);
            EDGES.due("the saying end is back", x.saying(0, 0), 1999 * side);
            x.flush(0);
            x.deliver(0);
            // 1999 fades to 1499, and 2606 more would be 4105.
            EDGES.due("the hearing end", x.hearing(0, 0), 2000 * side);
        }
    }

    private static void movesOfTheIndex() {
        int[] due = {9, 9, 9, 9, 12, 14, 16, 18};
        for (int code = 0; code < 16; code++) {
            FoldedVoices x = Ends.sayingAt(0, 10);
            int sample = Ends.sampleFor(0, 10, code);
            EDGES.due("the index that code() tells, for the code " + code, x.code(0, sample, 2), due[code % 8]);
            EDGES.due("the code", x.say(0, sample), code);
            EDGES.due("the index behind the code " + code, x.saying(0, 1), due[code % 8]);
        }
    }

    // {index, bits 4, 2 and 1 of the code, index behind it}
    private static final int[][] FARTHEST_INDEXES = {
        {0, 0, 0}, {0, 1, 0}, {0, 2, 0}, {0, 3, 0}, {1, 0, 0}, {1, 3, 0}, {2, 0, 1}, {2, 3, 1},
        {21, 4, 23}, {22, 4, 24}, {23, 4, 24}, {24, 4, 24}, {19, 5, 23}, {20, 5, 24}, {21, 5, 24}, {24, 5, 24},
        {17, 6, 23}, {18, 6, 24}, {19, 6, 24}, {24, 6, 24}, {15, 7, 23}, {16, 7, 24}, {17, 7, 24}, {24, 7, 24},
        {24, 3, 23}, {24, 0, 23}};

    private static void farthestIndexesOfTheSayingEnd() {
        for (int[] row : FARTHEST_INDEXES) {
            for (int side = -1; side <= 1; side += 2) {
                int guess = Ends.guessWith(row[0], side < 0 ? 450 : -1500, side < 0 ? 1500 : -450);
                FoldedVoices x = Ends.sayingAt(guess, row[0]);
                int sample = Ends.sampleFor(guess, row[0], side < 0 ? 8 + row[1] : row[1]);
                EDGES.due("the index that code() tells, from " + row[0], x.code(0, sample, 2), row[2]);
                x.say(0, sample);
                EDGES.due("the index from " + row[0] + " by " + row[1], x.saying(0, 1), row[2]);
            }
        }
    }

    private static void farthestIndexesOfTheHearingEnd() {
        for (int[] row : FARTHEST_INDEXES) {
            int guess = Ends.guessWith(row[0], -1500, -450);
            FoldedVoices x = Ends.bothAt(guess, row[0]);
            x.say(0, Ends.sampleFor(guess, row[0], row[1]));
            x.flush(0);
            x.deliver(0);
            EDGES.due("the index from " + row[0] + " by " + row[1], x.hearing(0, 1), row[2]);
        }
    }

    private static void whatWouldBe() {
        EDGES.edge(21, "`sample`: -2000 to 2000", EndEdgesTest::codesOfTheFarthestSamples);
        EDGES.edge(21, "`what`: 0: its code; .. 4: the guess behind that", EndEdgesTest::firstAndLastOfCode);
        EDGES.edge(21, "whatever is gathered", EndEdgesTest::codesWhateverIsGathered);
        EDGES.edge(21, "and without the gate", EndEdgesTest::codesWithoutTheGate);
        EDGES.edge(21, "the nearest code: the one behind which the guess is nearest to the sample",
                EndEdgesTest::nearestCodes);
        EDGES.edge(21, "of several the least", EndEdgesTest::leastOfTheNearest);
        EDGES.edge(21, "of several the least (at the farthest guesses, where codes lead to the same)",
                EndEdgesTest::leastOfTheNearestAtTheEdge);
    }

    private static void codesOfTheFarthestSamples() {
        FoldedVoices x = new FoldedVoices();
        EDGES.due("code(0, 2000, 0)", x.code(0, 2000, 0), 7);
        EDGES.due("code(2, -2000, 0)", x.code(2, -2000, 0), 15);
        EDGES.due("code(2, -2000, 3)", x.code(2, -2000, 3), 15);
    }

    private static void firstAndLastOfCode() {
        FoldedVoices x = new FoldedVoices();
        // 14 has the code 7, which leads to 15; the code 6 leads to 13, which is as near.
        int[] due = {7, 15, 8, 6, 13};
        for (int what = 0; what <= 4; what++) {
            EDGES.due("code(1, 14, " + what + ")", x.code(1, 14, what), due[what]);
        }
    }

    private static void codesWhateverIsGathered() {
        FoldedVoices x = new FoldedVoices();
        x.set(0, 4);
        x.say(0, -2000);
        x.say(0, -2000);
        x.say(0, -2000);
        EDGES.due("code(0, 14, 0)", x.code(0, 14, 0), 7);
        EDGES.due("code(0, 14, 1)", x.code(0, 14, 1), 15);
        EDGES.due("settles(0, 14, 2)", x.settles(0, 14, 2), 1);
    }

    private static void codesWithoutTheGate() {
        FoldedVoices x = new FoldedVoices();
        x.set(1, 99);
        EDGES.due("code(0, 14, 0)", x.code(0, 14, 0), 7);
        EDGES.due("code(0, -98, 1)", x.code(0, -98, 1), -15);
        EDGES.due("code(0, 14, 3)", x.code(0, 14, 3), 6);
    }

    private static void nearestCodes() {
        FoldedVoices x = new FoldedVoices();
        // The codes 0 to 7 lead to 1, 3, 5, 7, 9, 11, 13 and 15, the codes 8 to 15 to the same below 0.
        for (int code = 0; code < 8; code++) {
            int guess = 2 * code + 1;
            EDGES.due("the nearest to " + guess, x.code(0, guess, 3), code);
            EDGES.due("the guess behind it", x.code(0, guess, 4), guess);
            EDGES.due("the nearest to " + -guess, x.code(0, -guess, 3), 8 + code);
            EDGES.due("the guess behind it", x.code(0, -guess, 4), -guess);
        }
        EDGES.due("the nearest to 2000", x.code(0, 2000, 3), 7);
        EDGES.due("the nearest to -2000", x.code(0, -2000, 3), 15);
        nearestCodesAtAnotherStep();
    }

    private static void nearestCodesAtAnotherStep() {
        // At 0 with the step 41 the codes 0 and 1 lead to 5 and 15, 8 and 9 to -5 and -15, 3 and 4 to 35 and 46.
        FoldedVoices x = Ends.sayingAt(0, 8);
        int[][] rows = {{9, 0, 5}, {11, 1, 15}, {-9, 8, -5}, {-11, 9, -15}, {40, 3, 35}, {41, 4, 46}, {1, 0, 5}, {-1, 8, -5}};
        for (int[] row : rows) {
            EDGES.due("the nearest to " + row[0], x.code(0, row[0], 3), row[1]);
            EDGES.due("the guess behind it", x.code(0, row[0], 4), row[2]);
        }
    }

    private static void leastOfTheNearest() {
        FoldedVoices x = new FoldedVoices();
        EDGES.due("between 1 and -1", x.code(0, 0, 3), 0);
        for (int code = 0; code < 7; code++) {
            int between = 2 * code + 2;
            EDGES.due("the nearest to " + between, x.code(0, between, 3), code);
            EDGES.due("the nearest to " + -between, x.code(0, -between, 3), 8 + code);
        }
    }

    private static void leastOfTheNearestAtTheEdge() {
        FoldedVoices top = Ends.sayingAt(2000, 4);
        EDGES.due("at 2000", top.code(0, 2000, 3), 0);
        EDGES.due("its guess", top.code(0, 2000, 4), 2000);
        EDGES.due("the code 8 leads to 1998", top.code(0, 1998, 3), 8);
        EDGES.due("as near to 1999 as 2000 is", top.code(0, 1999, 3), 0);
        FoldedVoices bottom = Ends.sayingAt(-2000, 4);
        EDGES.due("at -2000", bottom.code(0, -2000, 3), 8);
        EDGES.due("its guess", bottom.code(0, -2000, 4), -2000);
        EDGES.due("the code 0 leads to -1998", bottom.code(0, -1998, 3), 0);
        EDGES.due("as near to -1999 as -2000 is", bottom.code(0, -1999, 3), 0);
        FoldedVoices near = Ends.sayingAt(1990, 4);
        // 18: the codes 1, 2, 3 .. would lead to 1996, 2001, 2005 ..
        EDGES.due("the first that leads to 2000", near.code(0, 2000, 3), 2);
        EDGES.due("the one ahead of it", near.code(0, 1997, 3), 1);
    }

    private static void howLongItTakes() {
        EDGES.edge(22, "`near`: 1 to 2000", EndEdgesTest::leastAndMostNear);
        EDGES.edge(22, "`sample`: -2000 to 2000", EndEdgesTest::settlesAtTheFarthestSamples);
        EDGES.edge(22, "the guess differs from it by less than near", EndEdgesTest::differsByLessThanNear);
        EDGES.edge(22, "Returns behind how many codes of this sample, 0 to 60, .. for the first time",
                EndEdgesTest::noneOneAndManyCodes);
        EDGES.edge(22, "Tells how long the saying end needs (whatever is gathered, and without the gate)",
                EndEdgesTest::settlesWithoutTheGate);
    }

    private static void leastAndMostNear() {
        FoldedVoices x = new FoldedVoices();
        EDGES.due("settles(0, 0, 1)", x.settles(0, 0, 1), 0);
        EDGES.due("settles(0, 1999, 2000)", x.settles(0, 1999, 2000), 0);
        EDGES.due("settles(0, 2000, 2000)", x.settles(0, 2000, 2000), 1);
        EDGES.due("settles(0, -1999, 2000)", x.settles(0, -1999, 2000), 0);
        EDGES.due("settles(0, -2000, 2000)", x.settles(0, -2000, 2000), 1);
    }

    private static void settlesAtTheFarthestSamples() {
        FoldedVoices x = new FoldedVoices();
        // By the steps 8, 41, 235 and 1391: 15, 91, 530 and 2000.
        EDGES.due("settles(2, 2000, 1)", x.settles(2, 2000, 1), 4);
        EDGES.due("settles(0, -2000, 1)", x.settles(0, -2000, 1), 4);
    }

    private static void differsByLessThanNear() {
        FoldedVoices x = new FoldedVoices();
        EDGES.due("9 is less than 10", x.settles(0, 9, 10), 0);
        EDGES.due("10 is not less than 10", x.settles(0, 10, 10), 1);
        EDGES.due("-9, without its sign, is less than 10", x.settles(0, -9, 10), 0);
        EDGES.due("-10, without its sign, is not", x.settles(0, -10, 10), 1);
        // Behind three codes the guess 530 differs by 1470.
        EDGES.due("1470 is less than 1471", x.settles(0, 2000, 1471), 3);
        EDGES.due("1470 is not less than 1470", x.settles(0, 2000, 1470), 4);
    }

    private static void noneOneAndManyCodes() {
        FoldedVoices x = Ends.sayingAt(15, 8);
        EDGES.due("none", x.settles(0, 15, 1), 0);
        EDGES.due("one", x.settles(0, 20, 1), 1);
        // No end needs more than these, wherever it stands: all 100025 places were tried with all samples.
        FoldedVoices longest = Ends.sayingAt(1459, 0);
        EDGES.due("the most", longest.settles(0, -1968, 1), longestWay(1459, 0, -1968));
        EDGES.due("the most, as a number", longestWay(1459, 0, -1968), 26);
        for (int sample = -2000; sample <= 2000; sample += 25) {
            EDGES.note(longest.settles(0, sample, 1) != NONE, "settles(0, " + sample + ", 1) answered NONE");
        }
    }

    private static int longestWay(int guess, int index, int sample) {
        int codes = 0;
        int nowAt = guess;
        int nowIndex = index;
        while (nowAt != sample && codes < 100) {
            int code = Ends.codeFor(nowAt, nowIndex, sample);
            nowAt = Ends.guessBehind(nowAt, nowIndex, code);
            nowIndex = Ends.indexBehind(nowIndex, code);
            codes++;
        }
        return codes;
    }

    private static void settlesWithoutTheGate() {
        FoldedVoices x = new FoldedVoices();
        x.set(1, 99);
        x.set(0, 4);
        x.say(0, -2000);
        // With the gate the guess would stay near 0.
        EDGES.due("settles(0, 98, 4)", x.settles(0, 98, 4), new FoldedVoices().settles(0, 98, 4));
        EDGES.note(x.settles(0, 98, 4) > 0, "98 is not near 0");
    }
}

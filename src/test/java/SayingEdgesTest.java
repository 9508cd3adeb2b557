/** Edges of saying: promises 1, 2, 3 and 15, and "Saying" of the terms. */
public final class SayingEdgesTest {
    private static final Class<IllegalStateException> STATE = IllegalStateException.class;
    private static final int NONE = FoldedVoices.NONE;
    private static final Edges EDGES = new Edges("SayingEdgesTest");

    private SayingEdgesTest() {
    }

    public static void main(String[] args) {
        newObjects();
        samplesAreGathered();
        theGateHolds();
        codesAreGathered();
        packetsHaveHeads();
        theWireIsFull();
        packetsAreClosed();
        whatIsTold();
        EDGES.end();
    }

    private static void newObjects() {
        EDGES.edge(1, "Creates silent voices with empty wires, with an empty buffer and no snapshot.",
                SayingEdgesTest::newObject);
        EDGES.edge(1, "with an empty buffer", SayingEdgesTest::newBuffer);
        EDGES.edge(1, "and no snapshot", SayingEdgesTest::noSnapshot);
        EDGES.edge(1, "There are 3 voices, numbered from 0; each has a saying end and a hearing end.",
                SayingEdgesTest::voicesAreApart);
        EDGES.edge(1, "An object is used for at most 512 calls after it has been made", SayingEdgesTest::all512Calls);
    }

    private static void newObject() {
        FoldedVoices x = new FoldedVoices();
        for (int voice = 0; voice < 3; voice++) {
            for (int what = 0; what <= 9; what++) {
                EDGES.due("saying(" + voice + ", " + what + ")", x.saying(voice, what), what == 2 ? 8 : 0);
            }
            for (int what = 0; what <= 11; what++) {
                EDGES.due("hearing(" + voice + ", " + what + ")", x.hearing(voice, what), what == 2 ? 8 : 0);
            }
        }
        for (int what = 0; what <= 7; what++) {
            EDGES.due("count(" + what + ")", x.count(what), what == 6 ? 3 : 0);
        }
    }

    private static void newBuffer() {
        FoldedVoices x = new FoldedVoices();
        EDGES.due("firstError()", x.firstError(), 0);
        EDGES.due("append('!')", x.append('!'), 1);
        EDGES.due("clearBuffer() of another one", new FoldedVoices().clearBuffer(), 0);
    }

    private static void noSnapshot() {
        FoldedVoices other = new FoldedVoices();
        other.keep();
        FoldedVoices x = new FoldedVoices();
        EDGES.dueThrow("goBack()", STATE, x::goBack);
    }

    private static void voicesAreApart() {
        for (int voice = 0; voice < 3; voice++) {
            FoldedVoices x = new FoldedVoices();
            x.say(voice, 14);
            x.flush(voice);
            x.deliver(voice);
            for (int other = 0; other < 3; other++) {
                EDGES.due("the saying end of " + other, x.saying(other, 0), other == voice ? 15 : 0);
                EDGES.due("the hearing end of " + other, x.hearing(other, 0), other == voice ? 15 : 0);
            }
        }
    }

    private static void all512Calls() {
        FoldedVoices x = new FoldedVoices();
        x.set(2, 1);
        for (int i = 0; i < 254; i++) {
            EDGES.due("say", x.say(2, 0) >= 0 ? 1 : 0, 1);
            EDGES.due("lose", x.lose(2), i);
        }
        x.say(2, 0);
        EDGES.due("the 511th call", x.deliver(2), 254);
        EDGES.due("the 512th call", x.hearing(2, 5), 254);
    }

    private static void samplesAreGathered() {
        EDGES.edge(2, "A sample, -2000 to 2000, is said in a voice.", SayingEdgesTest::farthestSamples);
        EDGES.edge(2, "When setting 0 samples or more were gathered", SayingEdgesTest::justEnoughSamples);
        EDGES.edge(2, "When setting 0 samples or more were gathered (more, as the setting became less)",
                SayingEdgesTest::moreSamplesThanTheRate);
        EDGES.edge(2, "their sum divided by their number is their mean", SayingEdgesTest::meanOfAllGathered);
        EDGES.edge(2, "Divisions of numbers that can be below 0 are rounded towards 0", SayingEdgesTest::meansTowards0);
        EDGES.edge(2, "and none are gathered any more", SayingEdgesTest::noneGatheredAnyMore);
        EDGES.edge(2, "Returns the code that is found, NONE if none is.", SayingEdgesTest::codeOrNone);
    }

    private static void farthestSamples() {
        FoldedVoices x = new FoldedVoices();
        x.set(0, 4);
        x.say(0, 2000);
        EDGES.due("the sum of 2000", x.saying(0, 4), 2000);
        x.say(0, 2000);
        x.say(0, 2000);
        EDGES.due("the sum of three", x.saying(0, 4), 6000);
        x.say(2, -2000);
        x.say(2, -2000);
        x.say(2, -2000);
        EDGES.due("the sum of three below 0", x.saying(2, 4), -6000);
        EDGES.due("the code of the mean", x.say(0, 2000), 7);
        EDGES.due("the code of the mean below 0", x.say(2, -2000), 15);
    }

    private static void justEnoughSamples() {
        for (int rate = 1; rate <= 4; rate++) {
            FoldedVoices x = new FoldedVoices();
            x.set(0, rate);
            for (int i = 1; i < rate; i++) {
                EDGES.due("sample " + i + " of " + rate, x.say(1, 14), NONE);
                EDGES.due("gathered", x.saying(1, 3), i);
                EDGES.due("codes", x.saying(1, 7), 0);
            }
            EDGES.due("the last sample of " + rate, x.say(1, 14), 7);
            EDGES.due("codes", x.saying(1, 7), 1);
        }
    }

    private static void moreSamplesThanTheRate() {
        for (int rate = 1; rate <= 3; rate++) {
            FoldedVoices x = new FoldedVoices();
            x.set(0, 4);
            x.say(0, 14);
            x.say(0, 14);
            x.say(0, 14);
            x.set(0, rate);
            EDGES.due("the fourth sample at the rate " + rate, x.say(0, 14), 7);
            EDGES.due("gathered", x.saying(0, 3), 0);
            EDGES.due("one code, not more", x.saying(0, 7), 1);
        }
    }

    private static void meanOfAllGathered() {
        FoldedVoices x = new FoldedVoices();
        x.set(0, 3);
        // 1, 1 and 2 are 4, and 4 / 3 is 1; each one divided would be 0. 3, 3 and 0 are 6, and the mean is 2.
        EDGES.due("the mean 1", saidIn(x, 0, 1, 1, 2), 0);
        EDGES.due("the mean 2", saidIn(x, 1, 3, 3, 0), 1);
        x.set(0, 4);
        x.say(2, 2);
        x.say(2, 2);
        x.say(2, 2);
        x.set(0, 1);
        // 8 / 4 is 2, of the code 1; by the setting it would be 8, by three 2.
        EDGES.due("divided by four", x.say(2, 2), 1);
        FoldedVoices y = new FoldedVoices();
        y.set(0, 4);
        EDGES.due("7 / 4", saidIn(y, 0, 2000, -2000, 4, 3), 0);
        EDGES.due("8 / 4", saidIn(y, 1, 2000, -2000, 4, 4), 1);
    }

    private static int saidIn(FoldedVoices x, int voice, int... samples) {
        int answer = NONE;
        for (int sample : samples) {
            answer = x.say(voice, sample);
        }
        return answer;
    }

    private static void meansTowards0() {
        FoldedVoices x = new FoldedVoices();
        x.set(0, 2);
        // 7 / 2 is 3, and -7 / 2 is -3; 4 and -4 would have the codes 2 and 10.
        EDGES.due("7 / 2", saidIn(x, 0, 4, 3), 1);
        EDGES.due("-7 / 2", saidIn(x, 1, -4, -3), 9);
        // -1 / 2 is 0, which is not below 0.
        EDGES.due("-1 / 2", saidIn(x, 2, -1, 0), 0);
    }

    private static void noneGatheredAnyMore() {
        FoldedVoices x = new FoldedVoices();
        x.set(0, 2);
        saidIn(x, 0, 100, 50);
        EDGES.due("samples", x.saying(0, 3), 0);
        EDGES.due("their sum", x.saying(0, 4), 0);
        EDGES.due("the next one is the first", x.say(0, 30), NONE);
        EDGES.due("samples", x.saying(0, 3), 1);
        EDGES.due("their sum", x.saying(0, 4), 30);
    }

    private static void codeOrNone() {
        FoldedVoices x = new FoldedVoices();
        EDGES.due("the code 0 is one", x.say(0, 0), 0);
        EDGES.due("the code 15", x.say(1, -14), 15);
        x.set(0, 2);
        EDGES.due("none", x.say(1, 5), -10000);
    }

    private static void theGateHolds() {
        EDGES.edge(2, "if the mean without its sign is below setting 1, it is 0 instead", SayingEdgesTest::atTheGate);
        EDGES.edge(2, "if the mean without its sign is below setting 1 (the gate 0, and 1)", SayingEdgesTest::leastGates);
        EDGES.edge(2, "if the mean without its sign is below setting 1 (the gate 99)", SayingEdgesTest::mostGate);
        EDGES.edge(2, "if the mean without its sign is below setting 1 (the mean, not the samples)",
                SayingEdgesTest::meansNotSamples);
        EDGES.edge(2, "it is 0 instead (from another guess the code leads to 0)", SayingEdgesTest::gateLeadsTo0);
        EDGES.edge(16, "The error of a code is what is heard, less the mean for which it was found (that the gate left)",
                SayingEdgesTest::errorBehindTheGate);
    }

    private static void atTheGate() {
        int[][] rows = {{9, 0}, {10, 5}, {11, 5}, {-9, 0}, {-10, 13}, {-11, 13}};
        for (int[] row : rows) {
            FoldedVoices x = new FoldedVoices();
            x.set(1, 10);
            EDGES.due("say(0, " + row[0] + ")", x.say(0, row[0]), row[1]);
        }
    }

    private static void leastGates() {
        for (int gate = 0; gate <= 1; gate++) {
            FoldedVoices x = new FoldedVoices();
            x.set(1, gate);
            x.set(2, 1);
            EDGES.due("0 at the gate " + gate, x.say(0, 0), 0);
            EDGES.due("1 at the gate " + gate, x.say(1, 1), 0);
            EDGES.due("-1 at the gate " + gate, x.say(2, -1), 8);
            x.deliver(1);
            EDGES.due("1 is heard as 1, without an error", x.hearing(1, 8), 0);
        }
    }

    private static void mostGate() {
        int[][] rows = {{98, 0}, {99, 7}, {-98, 0}, {-99, 15}};
        for (int[] row : rows) {
            FoldedVoices x = new FoldedVoices();
            x.set(1, 99);
            EDGES.due("say(0, " + row[0] + ")", x.say(0, row[0]), row[1]);
        }
    }

    private static void meansNotSamples() {
        FoldedVoices x = new FoldedVoices();
        x.set(0, 2);
        x.set(1, 10);
        EDGES.due("the mean of 30 and -11 is 9", saidIn(x, 0, 30, -11), 0);
        EDGES.due("the mean of 2 and 18 is 10", saidIn(x, 1, 2, 18), 5);
        // -19 / 2 is -9.
        EDGES.due("the mean of -9 and -10", saidIn(x, 2, -9, -10), 0);
        FoldedVoices y = new FoldedVoices();
        y.set(0, 2);
        y.set(1, 10);
        y.say(0, 5);
        EDGES.due("5 is gathered as 5", y.saying(0, 4), 5);
    }

    private static void gateLeadsTo0() {
        FoldedVoices x = new FoldedVoices();
        x.say(0, 14);
        x.set(1, 40);
        // From 15 with the step 41 the code of 0 is 9, of 39 it is 2.
        EDGES.due("say(0, 39)", x.say(0, 39), 9);
    }

    private static void errorBehindTheGate() {
        FoldedVoices x = new FoldedVoices();
        x.set(1, 10);
        x.set(2, 1);
        x.say(0, 9);
        x.deliver(0);
        EDGES.due("heard", x.hearing(0, 10), 1);
        EDGES.due("1 less 0", x.hearing(0, 8), 1);
        x.say(1, 10);
        x.deliver(1);
        EDGES.due("11 less 10", x.hearing(1, 8), 1);
        EDGES.due("heard", x.hearing(1, 10), 11);
    }

    private static void codesAreGathered() {
        EDGES.edge(2, "When setting 2 codes or more were gathered, they become a packet", SayingEdgesTest::justEnoughCodes);
        EDGES.edge(2, "When setting 2 codes or more were gathered (more, as the setting became less)",
                SayingEdgesTest::moreCodesThanThePacketSize);
        EDGES.edge(2, "which is put to the end of the wire of the voice", SayingEdgesTest::toTheEndOfTheWire);
        EDGES.edge(2, "Both are looked at, one behind the other, with each sample that is said",
                SayingEdgesTest::oneBehindTheOther);
        EDGES.edge(2, "also one by which no code is found", SayingEdgesTest::packetsWithoutANewCode);
        EDGES.edge(2, "a setting that changes does nothing by itself (the rate)", SayingEdgesTest::ratesDoNothing);
        EDGES.edge(2, "a setting that changes does nothing by itself (the gate)", SayingEdgesTest::gatesDoNothing);
        EDGES.edge(2, "a setting that changes does nothing by itself (the codes of a packet)", SayingEdgesTest::sizesDoNothing);
        EDGES.edge(2, "a setting that changes does nothing by itself (the heads)", SayingEdgesTest::headsDoNotChange);
    }

    private static void justEnoughCodes() {
        for (int size = 1; size <= 8; size++) {
            FoldedVoices x = new FoldedVoices();
            x.set(2, size);
            for (int i = 1; i < size; i++) {
                x.say(0, 14);
                EDGES.due("packets behind code " + i + " of " + size, x.saying(0, 9), 0);
                EDGES.due("codes that are gathered", x.saying(0, 5), i);
            }
            x.say(0, 14);
            EDGES.due("packets behind the last code of " + size, x.saying(0, 9), 1);
            EDGES.due("its codes", x.packet(0, 0, 1), size);
            EDGES.due("codes that are gathered", x.saying(0, 5), 0);
        }
    }

    private static void moreCodesThanThePacketSize() {
        for (int size = 1; size <= 7; size++) {
            FoldedVoices x = new FoldedVoices();
            x.set(2, 8);
            for (int i = 0; i < 7; i++) {
                x.say(2, 14);
            }
            x.set(2, size);
            x.say(2, 14);
            EDGES.due("one packet at the size " + size, x.saying(2, 9), 1);
            EDGES.due("its codes", x.packet(2, 0, 1), 8);
        }
    }

    private static void toTheEndOfTheWire() {
        FoldedVoices x = new FoldedVoices();
        x.set(2, 1);
        for (int i = 0; i < 8; i++) {
            x.say(1, 14);
            EDGES.due("the last one", x.packet(1, i, 0), i);
            EDGES.due("the first one", x.packet(1, 0, 0), 0);
        }
        x.swap(1);
        x.deliver(1);
        x.say(1, 14);
        EDGES.due("the last one behind a swap", x.packet(1, 7, 0), 8);
    }

    private static void oneBehindTheOther() {
        FoldedVoices x = new FoldedVoices();
        x.set(2, 1);
        EDGES.due("the code", x.say(0, 14), 7);
        EDGES.due("is in a packet at once", x.saying(0, 9), 1);
        EDGES.due("that has it", x.packet(0, 0, 5), 7);
        x.say(0, 14);
        EDGES.due("one packet for each", x.saying(0, 9), 2);
    }

    private static void packetsWithoutANewCode() {
        FoldedVoices x = new FoldedVoices();
        x.say(0, 14);
        x.say(0, 14);
        x.set(0, 3);
        x.set(2, 3);
        EDGES.due("no code, and two are fewer than three", x.say(0, 14), NONE);
        EDGES.due("no packet", x.saying(0, 9), 0);
        x.set(2, 2);
        EDGES.due("no code, and two are enough", x.say(0, 14), NONE);
        EDGES.due("a packet", x.saying(0, 9), 1);
        EDGES.due("its codes", x.packet(0, 0, 1), 2);
        EDGES.due("the samples stay", x.saying(0, 3), 2);
        EDGES.due("the codes do not", x.saying(0, 5), 0);
        x.set(2, 1);
        x.set(0, 4);
        EDGES.due("no code, and none is gathered", x.say(0, 14), NONE);
        EDGES.due("no packet of none", x.saying(0, 9), 1);
    }

    private static void ratesDoNothing() {
        FoldedVoices x = new FoldedVoices();
        x.set(0, 4);
        saidIn(x, 0, 5, 6, 7);
        x.set(0, 1);
        EDGES.due("codes", x.count(1), 0);
        EDGES.due("samples", x.saying(0, 3), 3);
        EDGES.due("their sum", x.saying(0, 4), 18);
    }

    private static void gatesDoNothing() {
        FoldedVoices x = new FoldedVoices();
        x.set(0, 2);
        x.say(0, 20);
        x.set(1, 99);
        EDGES.due("the sum", x.saying(0, 4), 20);
        EDGES.due("the gate of then holds", x.say(0, 20), 0);
        x.set(1, 0);
        EDGES.due("and the next one", saidIn(x, 1, 20, 20), 7);
    }

    private static void sizesDoNothing() {
        FoldedVoices x = new FoldedVoices();
        saidIn(x, 0, 14, 14, 14);
        x.set(2, 1);
        EDGES.due("packets", x.saying(0, 9), 0);
        EDGES.due("codes that are gathered", x.saying(0, 5), 3);
        EDGES.due("packets so far", x.count(2), 0);
    }

    private static void headsDoNotChange() {
        FoldedVoices x = new FoldedVoices();
        x.set(2, 1);
        saidIn(x, 0, 14, 14, 14);
        x.set(3, 1);
        EDGES.due("the second of then", x.packet(0, 1, 2), 0);
        EDGES.due("the third of then", x.packet(0, 2, 2), 0);
        x.set(3, 9);
        EDGES.due("the first of then", x.packet(0, 0, 2), 1);
    }

    private static void packetsHaveHeads() {
        EDGES.edge(2, "The packets of a voice are numbered from 0.", SayingEdgesTest::numbersFrom0);
        EDGES.edge(2, "A packet has a head if it is the first one of its voice", SayingEdgesTest::firstOnesHaveHeads);
        EDGES.edge(2, "or if, with this one, setting 3 or more packets were made since the latest one with a head",
                SayingEdgesTest::headsFromHeadToHead);
        EDGES.edge(2, "setting 3 or more packets were made (more, as the setting became less)",
                SayingEdgesTest::morePacketsThanTheDistance);
        EDGES.edge(2, "setting 3 or more packets were made (the setting became more)",
                SayingEdgesTest::fewerPacketsThanTheDistance);
        EDGES.edge(2, "packets were made (flush() makes some, and lost ones were made too)",
                SayingEdgesTest::madeByFlushOrLost);
        EDGES.edge(2, "The head is the guess and the index that the saying end had ahead of the first code of the packet.",
                SayingEdgesTest::headsAheadOfTheFirstCode);
    }

    private static void numbersFrom0() {
        FoldedVoices x = new FoldedVoices();
        x.set(2, 1);
        for (int voice = 0; voice < 3; voice++) {
            EDGES.due("the number of the next one", x.saying(voice, 6), 0);
            x.say(voice, 14);
            EDGES.due("the first one", x.packet(voice, 0, 0), 0);
            x.say(voice, 14);
            EDGES.due("the second one", x.packet(voice, 1, 0), 1);
            EDGES.due("the number of the next one", x.saying(voice, 6), 2);
        }
    }

    private static void firstOnesHaveHeads() {
        FoldedVoices x = new FoldedVoices();
        x.set(3, 9);
        x.set(2, 1);
        for (int voice = 0; voice < 3; voice++) {
            x.say(voice, 14);
            x.say(voice, 14);
            EDGES.due("the first one of " + voice, x.packet(voice, 0, 2), 1);
            EDGES.due("the guess of its head", x.packet(voice, 0, 3), 0);
            EDGES.due("the index of its head", x.packet(voice, 0, 4), 0);
            EDGES.due("the second one of " + voice, x.packet(voice, 1, 2), 0);
        }
    }

    private static void headsFromHeadToHead() {
        for (int distance = 1; distance <= 9; distance++) {
            FoldedVoices x = new FoldedVoices();
            x.set(3, distance);
            x.set(2, 1);
            for (int number = 0; number < 20; number++) {
                x.say(0, 14);
                EDGES.due("the head of " + number + " at " + distance, x.packet(0, 0, 2), number % distance == 0 ? 1 : 0);
                x.lose(0);
            }
        }
    }

    private static void morePacketsThanTheDistance() {
        FoldedVoices x = new FoldedVoices();
        x.set(2, 1);
        x.set(3, 9);
        saidIn(x, 0, 14, 14, 14);
        x.set(3, 2);
        saidIn(x, 0, 14, 14, 14, 14);
        // The third one behind the head of 0 is more than enough; then they are counted from it.
        int[] heads = {1, 0, 0, 1, 0, 1, 0};
        for (int rank = 0; rank < heads.length; rank++) {
            EDGES.due("the head of " + rank, x.packet(0, rank, 2), heads[rank]);
        }
    }

    private static void fewerPacketsThanTheDistance() {
        FoldedVoices x = new FoldedVoices();
        x.set(2, 1);
        x.set(3, 2);
        saidIn(x, 0, 14, 14);
        x.set(3, 4);
        saidIn(x, 0, 14, 14, 14);
        int[] heads = {1, 0, 0, 0, 1};
        for (int rank = 0; rank < heads.length; rank++) {
            EDGES.due("the head of " + rank, x.packet(0, rank, 2), heads[rank]);
        }
    }

    private static void madeByFlushOrLost() {
        FoldedVoices x = new FoldedVoices();
        x.say(0, 14);
        x.flush(0);
        x.lose(0);
        x.say(0, 14);
        x.flush(0);
        x.lose(0);
        x.say(0, 14);
        x.flush(0);
        EDGES.due("the second behind the head", x.packet(0, 0, 2), 0);
        x.say(0, 14);
        x.flush(0);
        EDGES.due("the third behind the head", x.packet(0, 1, 2), 1);
        x.say(1, 14);
        x.flush(1);
        EDGES.due("another voice has its own", x.packet(1, 0, 2), 1);
    }

    private static void headsAheadOfTheFirstCode() {
        FoldedVoices x = new FoldedVoices();
        x.set(3, 1);
        x.set(2, 2);
        saidIn(x, 0, 14, 14);
        // 15 at the index 8, then 10 at 7; the head of the second packet stands between its codes and these.
        EDGES.due("the guess ahead of the second packet", x.saying(0, 0), 10);
        EDGES.due("the index ahead of the second packet", x.saying(0, 1), 7);
        x.say(0, 500);
        x.set(0, 2);
        x.say(0, 500);
        EDGES.due("flush", x.flush(0), 1);
        EDGES.due("the guess of the head of the first", x.packet(0, 0, 3), 0);
        EDGES.due("the index of the head of the first", x.packet(0, 0, 4), 0);
        EDGES.due("the guess of the head of the second", x.packet(0, 1, 3), 10);
        EDGES.due("the index of the head of the second", x.packet(0, 1, 4), 7);
    }

    private static FoldedVoices withFullWire(int voice) {
        FoldedVoices x = new FoldedVoices();
        x.set(2, 1);
        for (int i = 0; i < 8; i++) {
            x.say(voice, 14);
        }
        return x;
    }

    private static void theWireIsFull() {
        EDGES.edge(2, "On the wire of a voice at most 8 packets wait.", SayingEdgesTest::eightPacketsWait);
        EDGES.edge(2, "On the wire of a voice at most 8 packets wait. (each voice has its own)",
                SayingEdgesTest::eightInEachVoice);
        EDGES.edge(2, "if 8 packets wait on the wire, and another one would be put to it",
                SayingEdgesTest::anotherOneWouldBePut);
        EDGES.edge(2, "if 8 packets wait on the wire, and another one would be put to it (without a new code)",
                SayingEdgesTest::anotherOneWithoutACode);
        EDGES.edge(2, "and another one would be put to it (none would)", SayingEdgesTest::noOtherOneWouldBePut);
    }

    private static void eightPacketsWait() {
        FoldedVoices x = withFullWire(0);
        EDGES.due("eight wait", x.saying(0, 9), 8);
        EDGES.dueThrow("a ninth", STATE, () -> x.say(0, 14));
        EDGES.due("eight wait", x.saying(0, 9), 8);
        x.deliver(0);
        EDGES.due("room for one", x.say(0, 14) >= 0 ? 1 : 0, 1);
        EDGES.dueThrow("but not for two", STATE, () -> x.say(0, 14));
        x.lose(0);
        EDGES.due("room for one", x.say(0, 14) >= 0 ? 1 : 0, 1);
        EDGES.dueThrow("but not for two", STATE, () -> x.say(0, 14));
        x.swap(0);
        EDGES.dueThrow("a swap makes no room", STATE, () -> x.say(0, 14));
    }

    private static void eightInEachVoice() {
        FoldedVoices x = withFullWire(1);
        for (int voice = 0; voice < 3; voice += 2) {
            for (int i = 0; i < 8; i++) {
                x.say(voice, 14);
            }
        }
        EDGES.due("packets that wait", x.count(3), 24);
        for (int voice = 0; voice < 3; voice++) {
            int full = voice;
            EDGES.due("packets of " + voice, x.saying(voice, 9), 8);
            EDGES.dueThrow("a ninth of " + voice, STATE, () -> x.say(full, 14));
        }
    }

    private static void anotherOneWouldBePut() {
        FoldedVoices x = withFullWire(0);
        x.set(2, 3);
        x.say(0, 14);
        x.say(0, 14);
        EDGES.due("two are gathered", x.saying(0, 5), 2);
        EDGES.dueThrow("the third would make a packet", STATE, () -> x.say(0, 14));
        EDGES.due("two are gathered still", x.saying(0, 5), 2);
        EDGES.due("samples", x.count(0), 10);
        x.set(0, 2);
        x.say(0, 14);
        EDGES.dueThrow("the second sample would find the third code", STATE, () -> x.say(0, 14));
        EDGES.due("one sample is gathered still", x.saying(0, 3), 1);
        x.set(2, 4);
        EDGES.due("the third of four", x.say(0, 14) >= 0 ? 1 : 0, 1);
    }

    private static void anotherOneWithoutACode() {
        FoldedVoices x = withFullWire(0);
        x.set(2, 2);
        x.say(0, 14);
        x.set(0, 4);
        EDGES.due("one code is fewer than two", x.say(0, 14), NONE);
        x.set(2, 1);
        EDGES.dueThrow("one code is enough, without a new one", STATE, () -> x.say(0, 14));
        EDGES.due("one sample is gathered still", x.saying(0, 3), 1);
        EDGES.due("one code is gathered still", x.saying(0, 5), 1);
        x.deliver(0);
        EDGES.due("with room it answers", x.say(0, 14), NONE);
        EDGES.due("eight wait again", x.saying(0, 9), 8);
        EDGES.due("the last one has the code", x.packet(0, 7, 1), 1);
    }

    private static void noOtherOneWouldBePut() {
        FoldedVoices x = withFullWire(0);
        x.set(2, 8);
        for (int i = 1; i <= 7; i++) {
            EDGES.due("a code", x.say(0, 14) >= 0 ? 1 : 0, 1);
            EDGES.due("is gathered", x.saying(0, 5), i);
        }
        x.set(0, 2);
        EDGES.due("a sample without a code", x.say(0, 14), NONE);
        EDGES.dueThrow("the eighth code", STATE, () -> x.say(0, 14));
        FoldedVoices y = withFullWire(1);
        y.set(0, 2);
        EDGES.due("no codes are gathered, and none is found", y.say(1, 14), NONE);
    }

    private static void packetsAreClosed() {
        EDGES.edge(3, "the gathered codes become a packet, though they are fewer", SayingEdgesTest::fewerCodes);
        EDGES.edge(3, "the gathered codes become a packet (more than setting 2, as it became less)",
                SayingEdgesTest::flushOfMoreCodes);
        EDGES.edge(3, "the gathered codes become a packet (the gathered samples stay)", SayingEdgesTest::samplesStay);
        EDGES.edge(3, "Returns how many codes it has.", SayingEdgesTest::oneToSevenCodes);
        EDGES.edge(3, "Throws `IllegalStateException` if no codes were gathered", SayingEdgesTest::noCodesToFlush);
        EDGES.edge(3, "or 8 packets wait", SayingEdgesTest::flushToAFullWire);
    }

    private static void fewerCodes() {
        FoldedVoices x = new FoldedVoices();
        x.say(1, 14);
        EDGES.due("flush", x.flush(1), 1);
        EDGES.due("packets", x.saying(1, 9), 1);
        EDGES.due("its codes", x.packet(1, 0, 1), 1);
        EDGES.due("its code", x.packet(1, 0, 5), 7);
        EDGES.due("codes that are gathered", x.saying(1, 5), 0);
    }

    private static void flushOfMoreCodes() {
        FoldedVoices x = new FoldedVoices();
        saidIn(x, 0, 14, 14, 14);
        x.set(2, 1);
        EDGES.due("flush", x.flush(0), 3);
        EDGES.due("one packet", x.saying(0, 9), 1);
    }

    private static void samplesStay() {
        FoldedVoices x = new FoldedVoices();
        x.say(0, 14);
        x.set(0, 4);
        saidIn(x, 0, 5, 6, 7);
        x.flush(0);
        EDGES.due("samples", x.saying(0, 3), 3);
        EDGES.due("their sum", x.saying(0, 4), 18);
        EDGES.due("codes", x.saying(0, 7), 1);
    }

    private static void oneToSevenCodes() {
        for (int codes = 1; codes <= 7; codes++) {
            FoldedVoices x = new FoldedVoices();
            x.set(2, 8);
            for (int i = 0; i < codes; i++) {
                x.say(2, 14);
            }
            EDGES.due("flush", x.flush(2), codes);
            EDGES.due("its codes", x.packet(2, 0, 1), codes);
        }
    }

    private static void noCodesToFlush() {
        FoldedVoices x = new FoldedVoices();
        EDGES.dueThrow("nothing said", STATE, () -> x.flush(0));
        x.say(0, 14);
        EDGES.dueThrow("another voice said nothing", STATE, () -> x.flush(1));
        x.flush(0);
        EDGES.dueThrow("flushed just now", STATE, () -> x.flush(0));
        saidIn(x, 0, 14, 14, 14, 14);
        EDGES.dueThrow("all codes are in packets", STATE, () -> x.flush(0));
        x.set(0, 4);
        saidIn(x, 0, 14, 14, 14);
        EDGES.dueThrow("samples without a code", STATE, () -> x.flush(0));
        EDGES.due("packets", x.saying(0, 9), 2);
    }

    private static void flushToAFullWire() {
        FoldedVoices x = withFullWire(2);
        EDGES.dueThrow("none gathered, and eight wait", STATE, () -> x.flush(2));
        x.set(2, 4);
        x.say(2, 14);
        EDGES.dueThrow("eight wait", STATE, () -> x.flush(2));
        x.lose(2);
        EDGES.due("seven wait", x.flush(2), 1);
        EDGES.due("eight wait again", x.saying(2, 9), 8);
        x.say(2, 14);
        EDGES.dueThrow("eight wait again", STATE, () -> x.flush(2));
        x.say(0, 14);
        EDGES.due("the wire of another voice", x.flush(0), 1);
    }

    private static void whatIsTold() {
        EDGES.edge(15, "a guess and an index of 0 if there was no packet yet", SayingEdgesTest::noPacketYet);
        EDGES.edge(15, "which then follows all codes since then: those of that packet, of the packets behind it, and those that"
                + " are gathered", SayingEdgesTest::mostCodesSinceTheHead);
        EDGES.edge(15, "by the head of the latest packet that has one (also a lost one)", SayingEdgesTest::headsOfLostPackets);
        EDGES.edge(15, "`what`: 0: its guess; .. 9: packets that wait on the wire", SayingEdgesTest::allOfSaying);
    }

    private static void noPacketYet() {
        FoldedVoices x = new FoldedVoices();
        EDGES.due("without a code", x.saying(0, 8), 0);
        x.set(2, 8);
        // 2000: by the steps 8, 41, 235 and 1391.
        int[] due = {15, 91, 530, 2000, 2000, 2000, 2000};
        for (int guess : due) {
            x.say(0, 2000);
            EDGES.due("without a packet", x.saying(0, 8), guess);
        }
        EDGES.due("packets", x.saying(0, 6), 0);
        EDGES.due("another voice", x.saying(1, 8), 0);
    }

    private static void mostCodesSinceTheHead() {
        FoldedVoices x = new FoldedVoices();
        x.set(2, 8);
        x.set(3, 9);
        for (int i = 1; i <= 119; i++) {
            x.say(0, i * 677 % 4001 - 2000);
            EDGES.due("the guess behind code " + i, x.saying(0, 8), x.saying(0, 0));
            if (x.saying(0, 9) > 0) {
                x.lose(0);
            }
        }
        EDGES.due("packets", x.saying(0, 6), 14);
    }

    private static void headsOfLostPackets() {
        FoldedVoices x = new FoldedVoices();
        x.set(2, 1);
        x.set(3, 2);
        for (int i = 0; i < 12; i++) {
            x.say(1, 300 * i - 1500);
            EDGES.due("told a second way", x.saying(1, 8), x.saying(1, 0));
            x.lose(1);
            EDGES.due("told a second way, the packet lost", x.saying(1, 8), x.saying(1, 0));
        }
    }

    private static void allOfSaying() {
        FoldedVoices x = new FoldedVoices();
        x.say(2, 14);
        x.flush(2);
        x.say(2, 14);
        x.set(0, 3);
        x.say(2, 40);
        x.say(2, 50);
        // 15 at the index 8, then the code 8 at the step 41: 10 at 7.
        int[] due = {10, 7, 33, 2, 90, 1, 1, 2, 10, 1};
        for (int what = 0; what <= 9; what++) {
            EDGES.due("saying(2, " + what + ")", x.saying(2, what), due[what]);
        }
    }
}

/** Edges of the wire and of hearing: promises 4 to 6, 16 to 18 and 23 to 25, and "The wire, hearing" of the terms. */
public final class WireEdgesTest {
    private static final Class<IllegalStateException> STATE = IllegalStateException.class;
    private static final Class<IndexOutOfBoundsException> INDEX = IndexOutOfBoundsException.class;
    private static final int NONE = FoldedVoices.NONE;
    private static final Edges EDGES = new Edges("WireEdgesTest");

    private WireEdgesTest() {
    }

    public static void main(String[] args) {
        packetsCome();
        packetsAreMissing();
        headsMakeJumps();
        packetsGetLostOrChangePlaces();
        whatWasHeard();
        packetsThatWait();
        endsAgree();
        whatWouldBeHeard();
        shares();
        EDGES.end();
    }

    /** Packets of one code each: 15, 10 and 14 is what the first three are heard as, if all come. */
    private static FoldedVoices withPackets(int voice, int packets, int headDistance) {
        FoldedVoices x = new FoldedVoices();
        x.set(2, 1);
        x.set(3, headDistance);
        for (int i = 0; i < packets; i++) {
            x.say(voice, 14);
        }
        return x;
    }

    private static void sayCodes(FoldedVoices x, int... codes) {
        for (int code : codes) {
            Ends.sayCode(x, 0, code);
        }
    }

    private static void dueHearing(FoldedVoices x, int voice, int... due) {
        for (int what = 0; what < due.length; what++) {
            EDGES.due("hearing(" + voice + ", " + what + ")", x.hearing(voice, what), due[what]);
        }
    }

    private static void packetsCome() {
        EDGES.edge(4, "The hearing end has a number that it awaits, at first 0.", WireEdgesTest::awaitsAtFirst0);
        EDGES.edge(4, "if its number is below the awaited one, it is late", WireEdgesTest::belowTheAwaitedOne);
        EDGES.edge(4, "and thrown away", WireEdgesTest::lateOnesAreThrownAway);
        EDGES.edge(4, "and thrown away (with its head)", WireEdgesTest::lateHeadsAreThrownAway);
        EDGES.edge(4, "Then the hearing end follows all codes of the packet, one after the other", WireEdgesTest::allCodes);
        EDGES.edge(4, "and the awaited number is 1 more than its number", WireEdgesTest::oneMoreThanItsNumber);
        EDGES.edge(4, "Returns how many packets were missing ahead of it; NONE if it is late.",
                WireEdgesTest::missingOnesOrNone);
        EDGES.edge(4, "Throws `IllegalStateException` if no packet waits", WireEdgesTest::noneToDeliver);
    }

    private static void awaitsAtFirst0() {
        for (int voice = 0; voice < 3; voice++) {
            EDGES.due("awaited", new FoldedVoices().hearing(voice, 3), 0);
            EDGES.due("the packet 0 is the awaited one", withPackets(voice, 1, 3).deliver(voice), 0);
        }
        FoldedVoices x = withPackets(0, 2, 3);
        x.lose(0);
        EDGES.due("the packet 1 is not", x.deliver(0), 1);
    }

    private static void belowTheAwaitedOne() {
        FoldedVoices x = withPackets(0, 5, 9);
        x.swap(0);
        EDGES.due("the packet 1", x.deliver(0), 1);
        EDGES.due("awaited", x.hearing(0, 3), 2);
        EDGES.due("the packet 0 is two below it", x.deliver(0), NONE);
        EDGES.due("the packet 2 is the awaited one", x.deliver(0), 0);
        x.swap(0);
        EDGES.due("the packet 4", x.deliver(0), 1);
        EDGES.due("the packet 3 is two below 5", x.deliver(0), NONE);
        EDGES.due("late so far", x.hearing(0, 6), 2);
        EDGES.due("another voice", x.hearing(1, 6), 0);
    }

    private static void lateOnesAreThrownAway() {
        FoldedVoices x = withPackets(0, 3, 9);
        x.swap(0);
        x.deliver(0);
        int[] before = new int[12];
        for (int what = 0; what <= 11; what++) {
            before[what] = x.hearing(0, what);
        }
        x.deliver(0);
        for (int what = 0; what <= 11; what++) {
            EDGES.due("hearing(0, " + what + ")", x.hearing(0, what), what == 6 ? 1 : before[what]);
        }
        EDGES.due("one waits", x.saying(0, 9), 1);
        EDGES.due("the packet 2", x.packet(0, 0, 0), 2);
        EDGES.due("it is not lost", x.count(4), 0);
        EDGES.due("it came", x.count(5), 2);
    }

    private static void lateHeadsAreThrownAway() {
        FoldedVoices x = withPackets(0, 3, 1);
        x.swap(0);
        x.deliver(0);
        EDGES.due("the packet 0 has a head", x.packet(0, 0, 2), 1);
        int guess = x.hearing(0, 0);
        x.deliver(0);
        EDGES.due("guess", x.hearing(0, 0), guess);
        EDGES.due("jumps", x.hearing(0, 7), 1);
    }

    private static void allCodes() {
        FoldedVoices x = new FoldedVoices();
        x.set(2, 8);
        int sum = 0;
        for (int i = 0; i < 8; i++) {
            x.say(0, 250 * i - 1000);
            sum += x.saying(0, 0);
        }
        EDGES.due("heard ahead of it", x.hearing(0, 4), 0);
        x.deliver(0);
        EDGES.due("codes", x.hearing(0, 4), 8);
        EDGES.due("guess", x.hearing(0, 0), x.saying(0, 0));
        EDGES.due("index", x.hearing(0, 1), x.saying(0, 1));
        EDGES.due("the sum of what was heard", x.hearing(0, 10), sum);
        x.say(0, 0);
        x.flush(0);
        x.deliver(0);
        EDGES.due("one code", x.hearing(0, 4), 9);
    }

    private static void oneMoreThanItsNumber() {
        FoldedVoices x = withPackets(0, 6, 9);
        x.deliver(0);
        EDGES.due("behind the packet 0", x.hearing(0, 3), 1);
        x.lose(0);
        EDGES.due("a lost one changes nothing", x.hearing(0, 3), 1);
        x.lose(0);
        x.lose(0);
        x.deliver(0);
        EDGES.due("behind the packet 4, three missing", x.hearing(0, 3), 5);
        x.deliver(0);
        EDGES.due("behind the packet 5", x.hearing(0, 3), 6);
    }

    private static void missingOnesOrNone() {
        for (int lost = 0; lost <= 7; lost++) {
            FoldedVoices x = withPackets(1, 8, 9);
            for (int i = 0; i < lost; i++) {
                x.lose(1);
            }
            EDGES.due("deliver behind " + lost + " that were lost", x.deliver(1), lost);
        }
        FoldedVoices y = withPackets(1, 2, 9);
        y.swap(1);
        EDGES.due("one is missing", y.deliver(1), 1);
        EDGES.due("one is late", y.deliver(1), -10000);
    }

    private static void noneToDeliver() {
        FoldedVoices x = new FoldedVoices();
        EDGES.dueThrow("nothing said", STATE, () -> x.deliver(0));
        x.say(0, 14);
        EDGES.dueThrow("a code is gathered", STATE, () -> x.deliver(0));
        x.flush(0);
        EDGES.dueThrow("one waits in another voice", STATE, () -> x.deliver(1));
        EDGES.due("one waits", x.deliver(0), 0);
        EDGES.dueThrow("it came", STATE, () -> x.deliver(0));
    }

    private static void packetsAreMissing() {
        EDGES.edge(4, "for each number from the awaited one up to the one ahead of its own, a packet is missing",
                WireEdgesTest::numbersThatAreMissing);
        EDGES.edge(4, "the guess of the hearing end becomes 3 times itself, divided by 4, each time",
                WireEdgesTest::guessesFade);
        EDGES.edge(4, "divided by 4 (a guess below 0, rounded towards 0)", WireEdgesTest::guessesBelow0Fade);
        EDGES.edge(4, "divided by 4 (down to 0, and at 0)", WireEdgesTest::guessesFadeTo0);
        EDGES.edge(4, "the guess of the hearing end becomes .. (its index stays)", WireEdgesTest::indexesDoNotFade);
    }

    private static void numbersThatAreMissing() {
        FoldedVoices x = withPackets(0, 8, 9);
        x.deliver(0);
        EDGES.due("none", x.hearing(0, 5), 0);
        x.lose(0);
        x.deliver(0);
        EDGES.due("the packet 1", x.hearing(0, 5), 1);
        x.lose(0);
        x.lose(0);
        x.deliver(0);
        EDGES.due("the packets 3 and 4 too", x.hearing(0, 5), 3);
        x.deliver(0);
        EDGES.due("none more", x.hearing(0, 5), 3);
        x.lose(0);
        EDGES.due("one that is lost is not missing yet", x.hearing(0, 5), 3);
    }

    /** The guess of the hearing end from this place, behind so many lost packets and one with the code 0 or 8. */
    private static int guessBehindLost(int guess, int index, int lost) {
        FoldedVoices x = Ends.bothAt(guess, index);
        x.set(3, 9);
        x.set(2, 1);
        for (int i = 0; i < lost; i++) {
            Ends.sayCode(x, 0, i % 2 == 0 ? 0 : 8);
            x.lose(0);
        }
        Ends.sayCode(x, 0, lost % 2 == 0 ? 0 : 8);
        EDGES.due("no head", x.packet(0, 0, 2), 0);
        x.deliver(0);
        EDGES.due("missing", x.hearing(0, 5), lost);
        return x.hearing(0, 0);
    }

    private static void guessesFade() {
        // At the index 0 the codes 0 and 8 change a guess by 1, and the index stays 0.
        EDGES.due("none missing", guessBehindLost(100, 0, 0), 101);
        EDGES.due("100 fades to 75", guessBehindLost(100, 0, 1), 74);
        EDGES.due("and to 56", guessBehindLost(100, 0, 2), 57);
        EDGES.due("and to 42", guessBehindLost(100, 0, 3), 41);
        EDGES.due("15 fades to 11", guessBehindLost(15, 0, 1), 10);
        EDGES.due("and to 8", guessBehindLost(15, 0, 2), 9);
        EDGES.due("1999 fades to 1499", guessBehindLost(1999, 0, 1), 1498);
    }

    private static void guessesBelow0Fade() {
        EDGES.due("-15 fades to -11", guessBehindLost(-15, 0, 1), -12);
        EDGES.due("and to -8", guessBehindLost(-15, 0, 2), -7);
        EDGES.due("-1998 fades to -1498", guessBehindLost(-1998, 0, 1), -1499);
        EDGES.due("-1 fades to 0", guessBehindLost(-1, 0, 1), -1);
        EDGES.due("-2 fades to -1", guessBehindLost(-2, 0, 1), -2);
    }

    private static void guessesFadeTo0() {
        EDGES.due("1 fades to 0", guessBehindLost(1, 0, 1), -1);
        EDGES.due("2 fades to 1", guessBehindLost(2, 0, 1), 0);
        EDGES.due("and to 0", guessBehindLost(2, 0, 2), 1);
        EDGES.due("0 stays", guessBehindLost(0, 0, 1), -1);
        EDGES.due("0 stays twice", guessBehindLost(0, 0, 2), 1);
    }

    private static void indexesDoNotFade() {
        FoldedVoices x = Ends.bothAt(0, 10);
        x.set(3, 9);
        x.set(2, 1);
        sayCodes(x, 0, 0, 0, 0);
        x.lose(0);
        x.lose(0);
        x.lose(0);
        x.deliver(0);
        EDGES.due("the saying end", x.saying(0, 1), 6);
        EDGES.due("the hearing end, by one code", x.hearing(0, 1), 9);
    }

    private static void headsMakeJumps() {
        EDGES.edge(4, "if the packet has a head, the guess and the index of the hearing end become those of the head",
                WireEdgesTest::headsAreTaken);
        EDGES.edge(16, "this is a jump if one of them was another one (none was)", WireEdgesTest::noJump);
        EDGES.edge(16, "this is a jump if one of them was another one (the guess)", WireEdgesTest::jumpOfTheGuess);
        EDGES.edge(16, "this is a jump if one of them was another one (the index)", WireEdgesTest::jumpOfTheIndex);
        EDGES.edge(16, "this is a jump if one of them was another one (both)", WireEdgesTest::jumpOfBoth);
        EDGES.edge(16, "Then .. this is a jump (looked at behind the missing ones)", WireEdgesTest::jumpsBehindMissingOnes);
        EDGES.edge(16, "if the packet has a head (without one there is no jump)", WireEdgesTest::noHeadNoJump);
    }

    private static void headsAreTaken() {
        FoldedVoices x = withPackets(0, 4, 3);
        x.lose(0);
        x.lose(0);
        x.lose(0);
        int guess = x.packet(0, 0, 3);
        int index = x.packet(0, 0, 4);
        EDGES.due("the guess of the head", guess, 14);
        EDGES.due("the index of the head", index, 6);
        x.deliver(0);
        EDGES.due("the guess behind its code", x.hearing(0, 0), x.saying(0, 0));
        EDGES.due("the index behind its code", x.hearing(0, 1), x.saying(0, 1));
        FoldedVoices y = withPackets(0, 3, 3);
        y.lose(0);
        y.lose(0);
        y.deliver(0);
        // Without a head the code 0 stands at the guess 0 and the step 8.
        EDGES.due("without a head, the guess", y.hearing(0, 0), 1);
        EDGES.due("without a head, the index", y.hearing(0, 1), 0);
    }

    private static void noJump() {
        FoldedVoices x = withPackets(0, 8, 1);
        for (int i = 0; i < 8; i++) {
            x.deliver(0);
            EDGES.due("jumps behind " + i, x.hearing(0, 7), 0);
        }
    }

    /** The hearing end is at 0 and 0, and the codes of a lost packet lead to where a head stands. */
    private static int jumpsTo(int guess, int index) {
        FoldedVoices x = new FoldedVoices();
        x.set(2, 8);
        x.set(3, 1);
        sayCodes(x, Ends.codesTo(guess, index));
        if (x.saying(0, 5) > 0) {
            x.flush(0);
        }
        for (int i = 0; i < 8 && x.saying(0, 9) > 0; i++) {
            x.lose(0);
        }
        Ends.sayCode(x, 0, 0);
        x.flush(0);
        EDGES.due("the guess of the head", x.packet(0, 0, 3), guess);
        EDGES.due("the index of the head", x.packet(0, 0, 4), index);
        EDGES.due("jumps if it came", x.ifDelivered(0, 3), guess == 0 && index == 0 ? 0 : 1);
        x.deliver(0);
        EDGES.due("the guess", x.hearing(0, 0), x.saying(0, 0));
        EDGES.due("the index", x.hearing(0, 1), x.saying(0, 1));
        return x.hearing(0, 7);
    }

    private static void jumpOfTheGuess() {
        EDGES.due("jumps to 1 and 0", jumpsTo(1, 0), 1);
        EDGES.due("jumps to -1 and 0", jumpsTo(-1, 0), 1);
        EDGES.due("jumps to 2000 and 0", jumpsTo(2000, 0), 1);
        EDGES.due("jumps to 0 and 0", jumpsTo(0, 0), 0);
    }

    private static void jumpOfTheIndex() {
        EDGES.due("jumps to 0 and 1", jumpsTo(0, 1), 1);
        EDGES.due("jumps to 0 and 24", jumpsTo(0, 24), 1);
    }

    private static void jumpOfBoth() {
        EDGES.due("jumps to 15 and 8, counted once", jumpsTo(15, 8), 1);
    }

    private static void jumpsBehindMissingOnes() {
        FoldedVoices same = Ends.bothAt(100, 0);
        same.set(3, 1);
        sayCodes(same, 0, 8);
        same.flush(0);
        same.lose(0);
        Ends.sayCode(same, 0, 0);
        same.flush(0);
        EDGES.due("the head is where the hearing end was", same.packet(0, 0, 3), 100);
        same.deliver(0);
        EDGES.due("but it faded to 75", same.hearing(0, 7), 1);
        FoldedVoices faded = Ends.bothAt(100, 0);
        faded.set(3, 1);
        faded.set(2, 8);
        sayCodes(faded, 11, 11, 11, 9, 8);
        faded.flush(0);
        faded.lose(0);
        Ends.sayCode(faded, 0, 0);
        faded.flush(0);
        EDGES.due("the head is where the hearing end fades to", faded.packet(0, 0, 3), 75);
        faded.deliver(0);
        EDGES.due("so there is no jump", faded.hearing(0, 7), 0);
    }

    private static void noHeadNoJump() {
        FoldedVoices x = withPackets(0, 8, 9);
        x.deliver(0);
        x.lose(0);
        x.deliver(0);
        EDGES.due("jumps", x.hearing(0, 7), 0);
        EDGES.note(x.hearing(0, 0) != x.saying(0, 0), "the guess should be another one");
    }

    private static void packetsGetLostOrChangePlaces() {
        EDGES.edge(5, "The first one can come to the hearing end, or get lost", WireEdgesTest::firstOneGetsLost);
        EDGES.edge(5, "Returns its number.", WireEdgesTest::numbersOfLostOnes);
        EDGES.edge(5, "Throws `IllegalStateException` if no packet waits", WireEdgesTest::noneToLose);
        EDGES.edge(6, "the first two can change places", WireEdgesTest::firstTwoChangePlaces);
        EDGES.edge(6, "Returns the number of the one that is the first then.", WireEdgesTest::numbersOfSwappedOnes);
        EDGES.edge(6, "Throws `IllegalStateException` if fewer than two packets wait", WireEdgesTest::tooFewToSwap);
    }

    private static void firstOneGetsLost() {
        FoldedVoices x = withPackets(0, 8, 9);
        x.lose(0);
        EDGES.due("seven wait", x.saying(0, 9), 7);
        for (int rank = 0; rank < 7; rank++) {
            EDGES.due("the number of rank " + rank, x.packet(0, rank, 0), rank + 1);
        }
        EDGES.dueThrow("the last place", INDEX, () -> x.packet(0, 7, 0));
        EDGES.due("lost in this voice", x.hearing(0, 11), 1);
        EDGES.due("lost in another voice", x.hearing(1, 11), 0);
        dueHearing(x, 0, 0, 0, 8, 0, 0, 0, 0, 0, 0, 0, 0, 1);
    }

    private static void numbersOfLostOnes() {
        FoldedVoices x = withPackets(2, 3, 3);
        EDGES.due("the first", x.lose(2), 0);
        x.swap(2);
        EDGES.due("behind a swap", x.lose(2), 2);
        EDGES.due("the last", x.lose(2), 1);
    }

    private static void noneToLose() {
        FoldedVoices x = new FoldedVoices();
        EDGES.dueThrow("nothing said", STATE, () -> x.lose(0));
        x.say(0, 14);
        EDGES.dueThrow("a code is gathered", STATE, () -> x.lose(0));
        x.flush(0);
        EDGES.dueThrow("one waits in another voice", STATE, () -> x.lose(2));
        EDGES.due("one waits", x.lose(0), 0);
        EDGES.dueThrow("it is lost", STATE, () -> x.lose(0));
        EDGES.due("lost so far", x.count(4), 1);
    }

    private static void firstTwoChangePlaces() {
        FoldedVoices x = withPackets(0, 8, 2);
        int[] codes = new int[8];
        for (int rank = 0; rank < 8; rank++) {
            codes[rank] = x.packet(0, rank, 5);
        }
        x.swap(0);
        int[] order = {1, 0, 2, 3, 4, 5, 6, 7};
        for (int rank = 0; rank < 8; rank++) {
            EDGES.due("the number of rank " + rank, x.packet(0, rank, 0), order[rank]);
            EDGES.due("the code of rank " + rank, x.packet(0, rank, 5), codes[order[rank]]);
            EDGES.due("the head of rank " + rank, x.packet(0, rank, 2), order[rank] % 2 == 0 ? 1 : 0);
        }
        EDGES.due("awaited", x.hearing(0, 3), 0);
    }

    private static void numbersOfSwappedOnes() {
        FoldedVoices x = withPackets(1, 3, 3);
        EDGES.due("the second one", x.swap(1), 1);
        EDGES.due("back again", x.swap(1), 0);
        x.lose(1);
        EDGES.due("just two wait", x.swap(1), 2);
    }

    private static void tooFewToSwap() {
        FoldedVoices x = new FoldedVoices();
        EDGES.dueThrow("none waits", STATE, () -> x.swap(0));
        x.set(2, 1);
        x.say(0, 14);
        EDGES.dueThrow("one waits", STATE, () -> x.swap(0));
        x.say(1, 14);
        EDGES.dueThrow("one waits in each of two voices", STATE, () -> x.swap(0));
        x.say(0, 14);
        EDGES.due("two wait", x.swap(0), 1);
        x.deliver(0);
        EDGES.dueThrow("one waits again", STATE, () -> x.swap(0));
    }

    private static void whatWasHeard() {
        EDGES.edge(16, "The error of a code is what is heard, less the mean for which it was found, without its sign.",
                WireEdgesTest::errorsOnBothSides);
        EDGES.edge(16, "9: the greatest error so far, 0 without codes", WireEdgesTest::greatestErrors);
        EDGES.edge(16, "10: the sum of what was heard so far (below 0, and far)", WireEdgesTest::farSums);
        EDGES.edge(16, "8: the sum of the errors so far (far)", WireEdgesTest::farErrors);
        EDGES.edge(16, "4: codes heard so far (without late ones, and without lost ones)", WireEdgesTest::codesThatWereHeard);
        EDGES.edge(16, "`what`: 0: its guess; .. 11: packets lost so far", WireEdgesTest::allOfHearing);
    }

    private static void errorsOnBothSides() {
        // The codes 0, 2 and 8 lead from 0 to 1, 5 and -1.
        int[][] rows = {{1, 0}, {0, 1}, {4, 1}, {5, 0}, {-1, 0}, {-4, 1}, {2000, 1985}, {-2000, 1985}};
        for (int[] row : rows) {
            FoldedVoices x = new FoldedVoices();
            x.set(2, 1);
            x.say(0, row[0]);
            x.deliver(0);
            EDGES.due("the error of " + row[0], x.hearing(0, 8), row[1]);
            EDGES.due("the greatest error", x.hearing(0, 9), row[1]);
        }
        FoldedVoices y = new FoldedVoices();
        y.set(0, 2);
        y.set(2, 1);
        y.say(0, 7);
        y.say(0, -5);
        y.deliver(0);
        EDGES.due("the mean of 7 and -5 is heard as 1", y.hearing(0, 8), 0);
    }

    private static void greatestErrors() {
        FoldedVoices x = new FoldedVoices();
        x.set(2, 1);
        EDGES.due("without codes", x.hearing(0, 9), 0);
        x.say(0, 14);
        EDGES.due("without codes heard", x.hearing(0, 9), 0);
        x.deliver(0);
        EDGES.due("1", x.hearing(0, 9), 1);
        x.say(0, 14);
        x.deliver(0);
        EDGES.due("4, as it is more", x.hearing(0, 9), 4);
        x.say(0, 14);
        x.deliver(0);
        EDGES.due("4 still, as 0 is less", x.hearing(0, 9), 4);
        EDGES.due("their sum", x.hearing(0, 8), 5);
    }

    private static void farSums() {
        FoldedVoices x = new FoldedVoices();
        x.set(2, 8);
        long heard = 0;
        long errors = 0;
        for (int round = 0; round < 28; round++) {
            for (int i = 0; i < 8; i++) {
                x.say(0, -2000);
                int guess = x.saying(0, 0);
                heard += guess;
                errors += guess + 2000;
            }
            x.deliver(0);
        }
        EDGES.due("codes", x.hearing(0, 4), 224);
        EDGES.due("the sum of what was heard", x.hearing(0, 10), heard);
        EDGES.due("the sum of the errors", x.hearing(0, 8), errors);
        EDGES.note(heard < -400000, "the sum should be far below 0");
    }

    private static void farErrors() {
        FoldedVoices x = new FoldedVoices();
        x.set(2, 8);
        long errors = 0;
        long greatest = 0;
        for (int round = 0; round < 28; round++) {
            for (int i = 0; i < 8; i++) {
                int sample = i % 2 == 0 ? 2000 : -2000;
                x.say(0, sample);
                long error = Math.abs(x.saying(0, 0) - sample);
                errors += error;
                greatest = Math.max(greatest, error);
            }
            x.deliver(0);
        }
        EDGES.due("the sum of the errors", x.hearing(0, 8), errors);
        EDGES.due("the greatest error", x.hearing(0, 9), greatest);
        EDGES.note(errors > 100000, "the sum should be far");
    }

    private static void codesThatWereHeard() {
        FoldedVoices x = withPackets(0, 6, 9);
        EDGES.due("on the wire", x.hearing(0, 4), 0);
        x.deliver(0);
        EDGES.due("one came", x.hearing(0, 4), 1);
        x.lose(0);
        EDGES.due("one got lost", x.hearing(0, 4), 1);
        x.swap(0);
        x.deliver(0);
        EDGES.due("one came ahead of its time", x.hearing(0, 4), 2);
        x.deliver(0);
        EDGES.due("one was late", x.hearing(0, 4), 2);
    }

    private static void allOfHearing() {
        FoldedVoices x = withPackets(1, 5, 2);
        x.deliver(1);
        x.swap(1);
        x.deliver(1);
        x.deliver(1);
        x.lose(1);
        // The packet 0 is heard as 15. The packet 1 is missing: 15 fades to 11; the packet 2 has a head, 10 and 7, and
        // the code 0 at the step 33 leads to 14 and 6.
        dueHearing(x, 1, 14, 6, 27, 3, 2, 1, 1, 1, 1, 1, 29, 1);
        EDGES.due("one waits", x.packet(1, 0, 0), 4);
    }

    private static void packetsThatWait() {
        EDGES.edge(17, "`rank`: 0 for the first packet on the wire", WireEdgesTest::ranksFrom0);
        EDGES.edge(17, "Throws `IndexOutOfBoundsException` if there is no such voice or rank", WireEdgesTest::ranksBeyond);
        EDGES.edge(17, "3: the guess of its head, NONE without one; 4: the index of its head, NONE without one",
                WireEdgesTest::headsOrNone);
        EDGES.edge(17, "for each code, in their order, 16 times the number and the code", WireEdgesTest::codesAsOneNumber);
        EDGES.edge(17, "Returns the number (for 5 with int overflow).", WireEdgesTest::codesWithOverflow);
    }

    private static void ranksFrom0() {
        FoldedVoices x = withPackets(2, 8, 3);
        for (int rank = 0; rank < 8; rank++) {
            EDGES.due("the number of rank " + rank, x.packet(2, rank, 0), rank);
        }
    }

    private static void ranksBeyond() {
        FoldedVoices x = new FoldedVoices();
        x.set(2, 1);
        EDGES.dueThrow("none waits", INDEX, () -> x.packet(0, 0, 0));
        for (int waiting = 1; waiting <= 8; waiting++) {
            x.say(0, 14);
            int beyond = waiting;
            EDGES.due("the last of " + waiting, x.packet(0, waiting - 1, 0), waiting - 1);
            EDGES.dueThrow("the rank " + waiting, INDEX, () -> x.packet(0, beyond, 0));
            EDGES.dueThrow("the rank -1", INDEX, () -> x.packet(0, -1, 0));
        }
        x.deliver(0);
        EDGES.dueThrow("seven wait", INDEX, () -> x.packet(0, 7, 0));
        EDGES.dueThrow("none in another voice", INDEX, () -> x.packet(1, 0, 0));
    }

    private static void headsOrNone() {
        FoldedVoices x = withPackets(0, 3, 2);
        int[][] due = {{1, 0, 0}, {0, NONE, NONE}, {1, 10, 7}};
        for (int rank = 0; rank < 3; rank++) {
            EDGES.due("has a head, " + rank, x.packet(0, rank, 2), due[rank][0]);
            EDGES.due("its guess, " + rank, x.packet(0, rank, 3), due[rank][1]);
            EDGES.due("its index, " + rank, x.packet(0, rank, 4), due[rank][2]);
        }
    }

    private static void codesAsOneNumber() {
        FoldedVoices x = new FoldedVoices();
        x.say(0, 2000);
        x.say(0, 2000);
        x.say(0, 2000);
        x.say(0, 2000);
        EDGES.due("the codes 7, 7, 7 and 4", x.packet(0, 0, 5), 0x7774);
        x.say(1, 0);
        x.flush(1);
        EDGES.due("the code 0", x.packet(1, 0, 5), 0);
        x.say(1, 0);
        x.say(1, 14);
        x.flush(1);
        EDGES.due("in their order: 8 and 7", x.packet(1, 1, 5), 0x87);
    }

    private static void codesWithOverflow() {
        FoldedVoices x = new FoldedVoices();
        x.set(2, 8);
        sayCodes(x, 15, 1, 8, 12, 4, 5, 2);
        x.flush(0);
        EDGES.due("seven codes", x.packet(0, 0, 5), 0xF18C452);
        FoldedVoices y = new FoldedVoices();
        y.set(2, 8);
        sayCodes(y, 7, 15, 1, 8, 12, 4, 5, 2);
        EDGES.due("eight codes, just below the overflow", y.packet(0, 0, 5), 0x7F18C452);
        FoldedVoices z = new FoldedVoices();
        z.set(2, 8);
        sayCodes(z, 8, 15, 1, 8, 12, 4, 5, 2);
        EDGES.due("eight codes, with overflow", z.packet(0, 0, 5), 0x8F18C452);
        EDGES.note(z.packet(0, 0, 5) < 0, "the number should be below 0");
    }

    private static void endsAgree() {
        EDGES.edge(18, "Both ends agree if .. both ends have the same guess and the same index then.",
                WireEdgesTest::sameGuessAndIndex);
        EDGES.edge(18, "the same guess and the same index (the guess alone is another one)", WireEdgesTest::anotherGuess);
        EDGES.edge(18, "the same guess and the same index (the index alone is another one)", WireEdgesTest::anotherIndex);
        EDGES.edge(18, "supposing that all packets on the wire come one after the other as they wait",
                WireEdgesTest::asTheyWait);
        EDGES.edge(18, "Codes that were gathered, but are in no packet yet, are followed by the hearing end behind these",
                WireEdgesTest::gatheredCodesAreFollowed);
        EDGES.edge(18, "Returns 0 if they agree; otherwise .. (whatever was late, missing or awaited)",
                WireEdgesTest::agreeNonetheless);
        EDGES.edge(18, "1 if .. one of them would be late", WireEdgesTest::oneWouldBeLate);
        EDGES.edge(18, "1 if .. some would be missing", WireEdgesTest::someWouldBeMissing);
        EDGES.edge(18, "1 if .. the awaited number would not be that of the next packet then",
                WireEdgesTest::anotherNumberWouldBeAwaited);
        EDGES.edge(18, "otherwise 2", WireEdgesTest::neitherOfThese);
        EDGES.edge(19, "6: voices whose ends agree", WireEdgesTest::voicesThatAgree);
    }

    private static void sameGuessAndIndex() {
        FoldedVoices x = withPackets(0, 8, 9);
        EDGES.due("all wait", x.why(0), 0);
        for (int i = 0; i < 8; i++) {
            x.deliver(0);
            EDGES.due("some came", x.why(0), 0);
        }
        EDGES.due("nothing said", x.why(2), 0);
    }

    /** The hearing end is at 0 and 0, the saying end elsewhere; the way there came to nobody. */
    private static int whyAt(int guess, int index) {
        return Ends.sayingAt(guess, index).why(0);
    }

    private static void anotherGuess() {
        EDGES.due("1 and 0", whyAt(1, 0), 1);
        EDGES.due("-1 and 0", whyAt(-1, 0), 1);
        EDGES.due("0 and 0", whyAt(0, 0), 0);
    }

    private static void anotherIndex() {
        EDGES.due("0 and 1", whyAt(0, 1), 1);
        EDGES.due("0 and 24", whyAt(0, 24), 1);
    }

    private static void asTheyWait() {
        FoldedVoices x = withPackets(0, 3, 9);
        EDGES.due("in their order", x.why(0), 0);
        x.swap(0);
        EDGES.due("not in their order", x.why(0), 1);
        x.swap(0);
        EDGES.due("in their order again", x.why(0), 0);
        EDGES.due("nothing came", x.hearing(0, 3), 0);
    }

    private static void gatheredCodesAreFollowed() {
        FoldedVoices x = new FoldedVoices();
        x.say(0, 500);
        EDGES.due("gathered alone", x.why(0), 0);
        x.flush(0);
        x.say(0, 500);
        x.say(0, 500);
        EDGES.due("behind a packet", x.why(0), 0);
        EDGES.due("they are not heard", x.ifDelivered(0, 0), 15);
        x.lose(0);
        EDGES.due("the packet is lost", x.why(0), 1);
        FoldedVoices same = new FoldedVoices();
        same.set(2, 8);
        sayCodes(same, 0);
        same.flush(0);
        same.lose(0);
        sayCodes(same, 8);
        EDGES.due("the saying end is where the hearing end is", same.saying(0, 0), 0);
        EDGES.due("but not behind the gathered code", same.why(0), 1);
    }

    private static void agreeNonetheless() {
        FoldedVoices late = withPackets(0, 2, 1);
        late.swap(0);
        late.deliver(0);
        EDGES.due("one would be late", late.why(0), 0);
        FoldedVoices missing = withPackets(0, 3, 2);
        missing.lose(0);
        EDGES.due("some would be missing", missing.why(0), 0);
        FoldedVoices awaited = new FoldedVoices();
        sayCodes(awaited, 0, 8);
        awaited.flush(0);
        awaited.lose(0);
        EDGES.due("the awaited number", awaited.hearing(0, 3), 0);
        EDGES.due("is not that of the next packet", awaited.saying(0, 6), 1);
        EDGES.due("but they agree", awaited.why(0), 0);
    }

    private static void oneWouldBeLate() {
        FoldedVoices x = withPackets(0, 2, 9);
        x.swap(0);
        x.deliver(0);
        EDGES.due("none would be missing", x.ifDelivered(0, 2), 0);
        EDGES.due("awaited", x.hearing(0, 3), x.saying(0, 6));
        EDGES.due("but the packet 0 would be late", x.why(0), 1);
        x.deliver(0);
        EDGES.due("it came, and was late", x.why(0), 2);
    }

    private static void someWouldBeMissing() {
        FoldedVoices x = withPackets(0, 3, 9);
        x.lose(0);
        EDGES.due("one would be missing", x.ifDelivered(0, 2), 1);
        EDGES.due("why", x.why(0), 1);
        x.deliver(0);
        EDGES.due("it was missing already", x.why(0), 2);
        EDGES.due("none more would be missing", x.ifDelivered(0, 2), 0);
    }

    private static void anotherNumberWouldBeAwaited() {
        FoldedVoices x = withPackets(0, 1, 9);
        x.lose(0);
        EDGES.due("none waits", x.saying(0, 9), 0);
        EDGES.due("0 is awaited, 1 is next", x.why(0), 1);
        FoldedVoices y = withPackets(0, 2, 9);
        y.deliver(0);
        y.lose(0);
        EDGES.due("1 is awaited, 2 is next", y.why(0), 1);
    }

    private static void neitherOfThese() {
        FoldedVoices x = withPackets(1, 4, 9);
        x.lose(1);
        x.deliver(1);
        EDGES.due("two wait, in their order", x.why(1), 2);
        x.deliver(1);
        x.deliver(1);
        EDGES.due("none waits", x.why(1), 2);
        x.set(3, 1);
        x.say(1, 14);
        EDGES.due("a head mends it", x.why(1), 0);
    }

    private static void voicesThatAgree() {
        FoldedVoices x = new FoldedVoices();
        x.set(2, 1);
        for (int voice = 0; voice < 3; voice++) {
            EDGES.due("voices that agree", x.count(6), 3 - voice);
            x.say(voice, 14);
            x.lose(voice);
        }
        EDGES.due("none agrees", x.count(6), 0);
    }

    private static void whatWouldBeHeard() {
        EDGES.edge(23, "if all packets of a wire came, one after the other as they wait (none waits)",
                WireEdgesTest::nothingWouldCome);
        EDGES.edge(23, "if all packets of a wire came, one after the other as they wait (eight wait)",
                WireEdgesTest::eightWouldCome);
        EDGES.edge(23, "1: the errors in them, together; 2: packets that would be missing in them; 3: jumps in them (not"
                + " those so far)", WireEdgesTest::onlyWhatIsInThem);
        EDGES.edge(23, "as they wait (late ones are thrown away)", WireEdgesTest::lateOnesWouldBeThrownAway);
        EDGES.edge(23, "the guess of the hearing end then (gathered codes are in no packet)",
                WireEdgesTest::gatheredCodesWouldNotCome);
    }

    private static void dueIfDelivered(FoldedVoices x, int voice, int... due) {
        for (int what = 0; what <= 3; what++) {
            EDGES.due("ifDelivered(" + voice + ", " + what + ")", x.ifDelivered(voice, what), due[what]);
        }
    }

    private static void nothingWouldCome() {
        FoldedVoices x = new FoldedVoices();
        dueIfDelivered(x, 2, 0, 0, 0, 0);
        x.say(2, 14);
        x.flush(2);
        x.deliver(2);
        dueIfDelivered(x, 2, 15, 0, 0, 0);
    }

    private static void eightWouldCome() {
        FoldedVoices x = withPackets(1, 8, 3);
        int guess = x.ifDelivered(1, 0);
        int errors = x.ifDelivered(1, 1);
        EDGES.due("missing", x.ifDelivered(1, 2), 0);
        EDGES.due("the guess then", guess, x.saying(1, 0));
        EDGES.due("nothing came", x.hearing(1, 4), 0);
        for (int i = 0; i < 8; i++) {
            x.deliver(1);
        }
        EDGES.due("the guess", x.hearing(1, 0), guess);
        EDGES.due("the errors", x.hearing(1, 8), errors);
        EDGES.note(errors > 0, "there should be errors");
    }

    private static void onlyWhatIsInThem() {
        FoldedVoices x = withPackets(0, 6, 2);
        x.lose(0);
        x.lose(0);
        x.deliver(0);
        int errors = x.hearing(0, 8);
        EDGES.note(errors == 0 && x.hearing(0, 5) == 2 && x.hearing(0, 7) == 1, "two were missing, and one jumped");
        x.lose(0);
        // The packets 4 and 5 wait; the 3 would be missing, and the head of 4 would be a jump.
        EDGES.due("missing", x.ifDelivered(0, 2), 1);
        EDGES.due("jumps", x.ifDelivered(0, 3), 1);
        FoldedVoices y = withPackets(0, 2, 9);
        y.deliver(0);
        EDGES.due("the error so far", y.hearing(0, 8), 1);
        EDGES.due("the error to come", y.ifDelivered(0, 1), 4);
    }

    private static void lateOnesWouldBeThrownAway() {
        FoldedVoices x = withPackets(0, 2, 1);
        x.swap(0);
        // The packet 1 has the head 15 and 8 and is heard as 10 for 14; the packet 0 is late then.
        dueIfDelivered(x, 0, 10, 4, 1, 1);
        x.deliver(0);
        dueIfDelivered(x, 0, 10, 0, 0, 0);
    }

    private static void gatheredCodesWouldNotCome() {
        FoldedVoices x = new FoldedVoices();
        x.say(0, 14);
        dueIfDelivered(x, 0, 0, 0, 0, 0);
        x.flush(0);
        dueIfDelivered(x, 0, 15, 1, 0, 0);
    }

    private static void shares() {
        EDGES.edge(24, "0.0 without any", WireEdgesTest::noMeanError);
        EDGES.edge(24, "the sum of its errors so far, as a double, divided by its codes heard so far",
                WireEdgesTest::meanErrors);
        EDGES.edge(25, "0.0f without any", WireEdgesTest::noShare);
        EDGES.edge(25, "the packets lost so far, as a float, divided by all packets so far", WireEdgesTest::lostShares);
    }

    private static void noMeanError() {
        FoldedVoices x = new FoldedVoices();
        EDGES.dueDouble("nothing said", x.meanError(0), 0.0);
        x.say(0, 14);
        EDGES.dueDouble("a code is gathered", x.meanError(0), 0.0);
        x.flush(0);
        EDGES.dueDouble("a packet waits", x.meanError(0), 0.0);
        x.lose(0);
        EDGES.dueDouble("it is lost", x.meanError(0), 0.0);
    }

    private static void meanErrors() {
        FoldedVoices x = withPackets(2, 3, 9);
        x.deliver(2);
        EDGES.dueDouble("one code", x.meanError(2), 1.0);
        EDGES.dueDouble("another voice", x.meanError(1), 0.0);
        x.deliver(2);
        EDGES.dueDouble("two codes", x.meanError(2), 2.5);
        x.deliver(2);
        EDGES.dueDouble("three codes", x.meanError(2), 5.0 / 3.0);
        FoldedVoices y = new FoldedVoices();
        y.set(2, 1);
        y.say(0, 1);
        y.deliver(0);
        EDGES.dueDouble("a code without an error", y.meanError(0), 0.0);
    }

    private static void noShare() {
        FoldedVoices x = new FoldedVoices();
        EDGES.dueDouble("nothing said", x.lostShare(), 0.0f);
        x.say(0, 14);
        EDGES.dueDouble("a code is gathered", x.lostShare(), 0.0f);
        x.flush(0);
        EDGES.dueDouble("a packet waits", x.lostShare(), 0.0f);
        x.deliver(0);
        EDGES.dueDouble("it came", x.lostShare(), 0.0f);
    }

    private static void lostShares() {
        FoldedVoices x = withPackets(1, 3, 9);
        x.lose(1);
        EDGES.dueDouble("one of three", x.lostShare(), 1.0f / 3.0f);
        x.say(0, 14);
        x.lose(0);
        EDGES.dueDouble("two of four, of two voices", x.lostShare(), 0.5f);
        FoldedVoices y = withPackets(0, 2, 9);
        y.lose(0);
        y.lose(0);
        EDGES.dueDouble("all", y.lostShare(), 1.0f);
        FoldedVoices z = new FoldedVoices();
        z.say(0, 14);
        z.say(0, 14);
        z.flush(0);
        z.lose(0);
        EDGES.dueDouble("packets, not codes", z.lostShare(), 1.0f);
    }
}

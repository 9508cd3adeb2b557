/** Promises 4 to 7, 16 to 18 and 23 to 25: the wire, the settings, and what is heard. */
public final class WirePromisesTest {
    private static final Class<IndexOutOfBoundsException> INDEX = IndexOutOfBoundsException.class;
    private static final Class<IllegalArgumentException> ARGUMENT = IllegalArgumentException.class;
    private static final Class<IllegalStateException> STATE = IllegalStateException.class;
    private static final int NONE = FoldedVoices.NONE;
    private static final Check CHECK = new Check("WirePromisesTest");

    private WirePromisesTest() {
    }

    public static void main(String[] args) {
        promise4();
        promise4Fades();
        promise4Jumps();
        promise4Throws();
        promise5();
        promise6();
        wireIsUsedAgain();
        promise7();
        promise16();
        promise17();
        promise18();
        promise23();
        promise24And25();
        CHECK.end();
    }

    /** Packets of one code each: 15, 10, 15, 20 .. is heard if all of them come. */
    private static FoldedVoices withPackets(int voice, int packets, int headDistance) {
        FoldedVoices x = new FoldedVoices();
        x.set(2, 1);
        x.set(3, headDistance);
        for (int i = 0; i < packets; i++) {
            x.say(voice, 14);
        }
        return x;
    }

    private static void dueHearing(String what, FoldedVoices x, int voice, int... due) {
        for (int i = 0; i < due.length; i++) {
            CHECK.due(what + ", hearing(" + voice + ", " + i + ")", x.hearing(voice, i), due[i]);
        }
    }

    private static void promise4() {
        FoldedVoices x = withPackets(1, 3, 3);
        // Codes: 7 to 15 at 8 (41); 8 to 10 at 7 (33); from 10 the left 4 is below 33 / 4: 0, to 14 at 6.
        CHECK.due("4: deliver", x.deliver(1), 0);
        dueHearing("4: the first", x, 1, 15, 8, 41, 1, 1, 0, 0, 0, 1, 1, 15, 0);
        CHECK.due("4: deliver", x.deliver(1), 0);
        dueHearing("4: the second", x, 1, 10, 7, 33, 2, 2, 0, 0, 0, 5, 4, 25, 0);
        CHECK.due("4: deliver", x.deliver(1), 0);
        dueHearing("4: the third", x, 1, 14, 6, 27, 3, 3, 0, 0, 0, 5, 4, 39, 0);
        CHECK.due("4: the same guess", x.saying(1, 0), 14);
        CHECK.due("4: none wait", x.saying(1, 9), 0);
        CHECK.due("4: came", x.count(5), 3);
        CHECK.due("4: saved", x.count(7), 6);
        dueHearing("4: another voice", x, 0, 0, 0, 8, 0, 0, 0, 0, 0, 0, 0, 0, 0);
    }

    private static void promise4Fades() {
        FoldedVoices x = withPackets(0, 4, 9);
        x.deliver(0);
        x.lose(0);
        x.lose(0);
        // 15 fades to 11 and to 8, the index stays at 8. The fourth code is 0 at the step 27: 5 more.
        CHECK.due("4: the fourth code", x.packet(0, 0, 5), 0);
        CHECK.due("4: two are missing", x.deliver(0), 2);
        dueHearing("4: behind the missing ones", x, 0, 13, 7, 33, 4, 2, 2, 0, 0, 2, 1, 28, 2);
        FoldedVoices y = new FoldedVoices();
        y.set(2, 1);
        y.set(3, 9);
        y.say(0, -14);
        y.say(0, -14);
        y.say(0, -14);
        y.deliver(0);
        y.lose(0);
        // -15 fades to -11, towards 0; the code of the third is 8, the step still 41.
        CHECK.due("4: the code below 0", y.packet(0, 0, 5), 8);
        CHECK.due("4: one is missing", y.deliver(0), 1);
        CHECK.due("4: below 0", y.hearing(0, 0), -16);
        CHECK.due("4: its index", y.hearing(0, 1), 7);
    }

    private static void promise4Jumps() {
        FoldedVoices x = withPackets(0, 4, 3);
        x.deliver(0);
        x.lose(0);
        x.lose(0);
        CHECK.due("4: the fourth has a head", x.packet(0, 0, 2), 1);
        x.deliver(0);
        CHECK.due("4: a jump", x.hearing(0, 7), 1);
        CHECK.due("4: the guess of the head", x.hearing(0, 0), x.saying(0, 0));
        CHECK.due("4: the index of the head", x.hearing(0, 1), x.saying(0, 1));
        FoldedVoices y = withPackets(0, 4, 1);
        for (int i = 0; i < 4; i++) {
            y.deliver(0);
        }
        CHECK.due("4: no jump to the same", y.hearing(0, 7), 0);
        y.say(0, 14);
        y.say(0, 14);
        y.swap(0);
        CHECK.due("4: ahead of its time", y.deliver(0), 1);
        CHECK.due("4: late", y.deliver(0), NONE);
        CHECK.due("4: late so far", y.hearing(0, 6), 1);
        CHECK.due("4: awaited", y.hearing(0, 3), 6);
        CHECK.due("4: came, late ones too", y.count(5), 6);
        CHECK.due("4: codes heard, without late ones", y.hearing(0, 4), 5);
        jumpsByOneOfBoth();
    }

    private static void jumpsByOneOfBoth() {
        // The guess 0 stays 0 when it fades, and only the index is another one.
        FoldedVoices x = new FoldedVoices();
        x.set(2, 2);
        x.set(3, 1);
        x.say(0, 6);
        x.say(0, 0);
        CHECK.due("4: guess 0 behind the first packet", x.saying(0, 0), 0);
        x.say(0, 14);
        x.say(0, 14);
        CHECK.due("4: a head with the guess 0", x.packet(0, 1, 3), 0);
        CHECK.due("4: and the index 0", x.packet(0, 1, 4), 0);
        x.lose(0);
        x.deliver(0);
        CHECK.due("4: no jump, both are the same", x.hearing(0, 7), 0);
        FoldedVoices y = new FoldedVoices();
        y.set(2, 1);
        y.set(3, 1);
        y.say(0, 8);
        y.say(0, 8);
        y.lose(0);
        y.deliver(0);
        CHECK.due("4: a jump of the guess and the index", y.hearing(0, 7), 1);
    }

    private static void promise4Throws() {
        FoldedVoices x = new FoldedVoices();
        CHECK.dueThrow("4: none waits", x, STATE, () -> x.deliver(0));
        CHECK.dueThrow("4: voice 3", x, INDEX, () -> x.deliver(3));
        CHECK.dueThrow("4: voice -1", x, INDEX, () -> x.deliver(-1));
        x.say(0, 14);
        CHECK.dueThrow("4: gathered codes do not wait", x, STATE, () -> x.deliver(0));
    }

    private static void promise5() {
        FoldedVoices x = withPackets(2, 3, 3);
        CHECK.due("5: lose", x.lose(2), 0);
        CHECK.due("5: lose the next", x.lose(2), 1);
        CHECK.due("5: one waits", x.saying(2, 9), 1);
        CHECK.due("5: lost in the voice", x.hearing(2, 11), 2);
        CHECK.due("5: lost in all", x.count(4), 2);
        CHECK.due("5: none came", x.count(5), 0);
        CHECK.due("5: nothing awaited more", x.hearing(2, 3), 0);
        CHECK.due("5: undo", x.undo(), 5);
        CHECK.due("5: lost in all then", x.count(4), 1);
        CHECK.due("5: two wait then", x.packet(2, 0, 0), 1);
        FoldedVoices y = new FoldedVoices();
        CHECK.dueThrow("5: none waits", y, STATE, () -> y.lose(0));
        CHECK.dueThrow("5: voice 3", y, INDEX, () -> y.lose(3));
        CHECK.dueThrow("5: voice -1", y, INDEX, () -> y.lose(-1));
    }

    private static void promise6() {
        FoldedVoices x = withPackets(0, 3, 1);
        CHECK.due("6: swap", x.swap(0), 1);
        int[] order = {1, 0, 2};
        for (int rank = 0; rank < 3; rank++) {
            CHECK.due("6: rank " + rank, x.packet(0, rank, 0), order[rank]);
        }
        CHECK.due("6: the head goes along", x.packet(0, 0, 3), 15);
        CHECK.due("6: the code goes along", x.packet(0, 0, 5), 8);
        CHECK.due("6: swap back", x.swap(0), 0);
        CHECK.due("6: saved", x.count(7), 6);
        x.deliver(0);
        x.deliver(0);
        CHECK.dueThrow("6: one waits", x, STATE, () -> x.swap(0));
        x.deliver(0);
        CHECK.dueThrow("6: none waits", x, STATE, () -> x.swap(0));
        CHECK.dueThrow("6: voice 3", x, INDEX, () -> x.swap(3));
        CHECK.dueThrow("6: voice -1", x, INDEX, () -> x.swap(-1));
    }

    /** Packets keep apart, however often the wire was full. */
    private static void wireIsUsedAgain() {
        FoldedVoices x = withPackets(1, 8, 1);
        for (int round = 0; round < 9; round++) {
            x.deliver(1);
            x.lose(1);
            x.say(1, 100 * round);
            x.say(1, -150 * round);
            x.swap(1);
            x.swap(1);
            for (int rank = 0; rank < 8; rank++) {
                CHECK.due("6: number at " + rank, x.packet(1, rank, 0), 2 * round + 2 + rank);
                CHECK.due("6: codes at " + rank, x.packet(1, rank, 1), 1);
            }
        }
        CHECK.due("6: lost", x.hearing(1, 11), 9);
        CHECK.due("6: missing", x.hearing(1, 5), 8);
    }

    private static void promise7() {
        FoldedVoices x = new FoldedVoices();
        int[] first = {1, 0, 4, 3};
        int[] least = {1, 0, 1, 1};
        int[] most = {4, 99, 8, 9};
        for (int setting = 0; setting < 4; setting++) {
            int which = setting;
            CHECK.due("7: previous of " + setting, x.set(setting, most[setting]), first[setting]);
            CHECK.due("7: the most of " + setting, x.setting(setting), most[setting]);
            CHECK.due("7: previous of " + setting, x.set(setting, least[setting]), most[setting]);
            CHECK.due("7: the least of " + setting, x.setting(setting), least[setting]);
            CHECK.dueThrow("7: too much", x, ARGUMENT, () -> x.set(which, most[which] + 1));
            CHECK.dueThrow("7: too little", x, ARGUMENT, () -> x.set(which, least[which] - 1));
        }
        CHECK.dueThrow("7: setting 4", x, INDEX, () -> x.set(4, 1));
        CHECK.dueThrow("7: setting -1 and value", x, INDEX, () -> x.set(-1, -5));
        FoldedVoices y = new FoldedVoices();
        y.set(3, 3);
        CHECK.due("7: saved, though nothing changes", y.count(7), 1);
        y.set(3, 5);
        y.undo();
        CHECK.due("7: undone", y.setting(3), 3);
    }

    private static void promise16() {
        FoldedVoices x = withPackets(2, 8, 9);
        x.deliver(2);
        x.deliver(2);
        x.swap(2);
        x.deliver(2);
        x.deliver(2);
        x.lose(2);
        x.deliver(2);
        // Heard: 15, 10, then 7 with the code 0 (11), then 8 (fade) with the code 0 (11).
        CHECK.due("16: awaited", x.hearing(2, 3), 6);
        CHECK.due("16: codes", x.hearing(2, 4), 4);
        CHECK.due("16: missing", x.hearing(2, 5), 2);
        CHECK.due("16: late", x.hearing(2, 6), 1);
        CHECK.due("16: jumps", x.hearing(2, 7), 0);
        CHECK.due("16: lost", x.hearing(2, 11), 1);
        CHECK.due("16: step", x.hearing(2, 2), 22);
        CHECK.due("16: index", x.hearing(2, 1), 5);
        FoldedVoices y = new FoldedVoices();
        y.set(2, 1);
        y.say(0, -2000);
        y.say(0, -14);
        y.deliver(0);
        y.deliver(0);
        // -15 for -2000; then the code 0 at the step 41: -10 for -14.
        CHECK.due("16: the sum of the errors", y.hearing(0, 8), 1985 + 4);
        CHECK.due("16: the greatest error", y.hearing(0, 9), 1985);
        CHECK.due("16: the sum of what was heard", y.hearing(0, 10), -25);
        CHECK.dueThrow("16: voice 3 and what", x, INDEX, () -> x.hearing(3, 12));
        CHECK.dueThrow("16: voice -1", x, INDEX, () -> x.hearing(-1, 0));
        CHECK.dueThrow("16: what 12", x, ARGUMENT, () -> x.hearing(0, 12));
        CHECK.dueThrow("16: what -1", x, ARGUMENT, () -> x.hearing(0, -1));
    }

    private static void promise17() {
        FoldedVoices x = new FoldedVoices();
        x.set(2, 8);
        int[] samples = {-2000, -2000, -2000, -2000, 2000, 2000, 2000, 2000};
        int number = 0;
        for (int sample : samples) {
            number = 16 * number + x.say(0, sample);
        }
        CHECK.due("17: with int overflow", x.packet(0, 0, 5), number);
        CHECK.note(number < 0, "17: the number should overflow");
        CHECK.due("17: its number", x.packet(0, 0, 0), 0);
        CHECK.due("17: its codes", x.packet(0, 0, 1), 8);
        x.set(2, 1);
        x.say(0, 5);
        int[] due = {1, 1, 0, NONE, NONE};
        for (int what = 0; what < due.length; what++) {
            CHECK.due("17: without a head, " + what, x.packet(0, 1, what), due[what]);
        }
        CHECK.dueThrow("17: rank 2", x, INDEX, () -> x.packet(0, 2, 0));
        CHECK.dueThrow("17: rank -1 and what", x, INDEX, () -> x.packet(0, -1, 6));
        CHECK.dueThrow("17: rank 8", x, INDEX, () -> x.packet(0, 8, 0));
        CHECK.dueThrow("17: voice without packets", x, INDEX, () -> x.packet(1, 0, 0));
        CHECK.dueThrow("17: voice 3", x, INDEX, () -> x.packet(3, 0, 0));
        CHECK.dueThrow("17: voice -1", x, INDEX, () -> x.packet(-1, 0, 0));
        CHECK.dueThrow("17: what 6", x, ARGUMENT, () -> x.packet(0, 0, 6));
        CHECK.dueThrow("17: what -1", x, ARGUMENT, () -> x.packet(0, 0, -1));
    }

    private static void promise18() {
        FoldedVoices x = withPackets(0, 2, 9);
        CHECK.due("18: both on the wire", x.why(0), 0);
        x.lose(0);
        CHECK.due("18: one would be missing", x.why(0), 1);
        x.lose(0);
        CHECK.due("18: the awaited number is another one", x.why(0), 1);
        x.say(0, 14);
        x.deliver(0);
        CHECK.due("18: all came in order", x.why(0), 2);
        CHECK.due("18: another voice", x.why(1), 0);
        FoldedVoices y = withPackets(0, 3, 9);
        y.swap(0);
        CHECK.due("18: one would be late", y.why(0), 1);
        y.deliver(0);
        CHECK.due("18: the first would be late still", y.why(0), 1);
        y.deliver(0);
        CHECK.due("18: late ones that came do not count", y.why(0), 2);
        CHECK.due("18: voices that agree", y.count(6), 2);
        agreesByAHeadAndByGatheredCodes();
        CHECK.dueThrow("18: voice 3", x, INDEX, () -> x.why(3));
        CHECK.dueThrow("18: voice -1", x, INDEX, () -> x.why(-1));
    }

    private static void agreesByAHeadAndByGatheredCodes() {
        FoldedVoices x = withPackets(0, 3, 2);
        x.lose(0);
        CHECK.due("18: a head mends it", x.why(0), 0);
        x.set(2, 4);
        x.say(0, 500);
        CHECK.due("18: gathered codes are followed", x.why(0), 0);
        CHECK.due("18: but not heard", x.hearing(0, 4), 0);
        sameGuessAndAnotherIndex();
    }

    private static void sameGuessAndAnotherIndex() {
        // The hearing end stays at 0 and the index 0, as all packets are lost.
        FoldedVoices x = new FoldedVoices();
        x.set(2, 1);
        x.set(3, 9);
        for (int i = 0; i < 100; i++) {
            x.say(0, (i * 37) % 29 - 14);
            x.lose(0);
            if (x.saying(0, 0) == 0 && x.saying(0, 1) != 0) {
                CHECK.due("18: the same guess, another index", x.why(0), 1);
                return;
            }
        }
        CHECK.note(false, "18: no guess of 0 with another index was found");
    }

    private static void promise23() {
        FoldedVoices x = withPackets(0, 4, 3);
        int[] due = {x.saying(0, 0), 1 + 4 + 0 + 3, 0, 0};
        for (int what = 0; what < due.length; what++) {
            CHECK.due("23: all in order, " + what, x.ifDelivered(0, what), due[what]);
        }
        x.deliver(0);
        x.lose(0);
        // 15 fades to 11, and the code 0 at 41 is heard as 16; then the head of the fourth, 14 and 6, jumps.
        int[] later = {17, 2 + 3, 1, 1};
        for (int what = 0; what < later.length; what++) {
            CHECK.due("23: with a missing one, " + what, x.ifDelivered(0, what), later[what]);
        }
        CHECK.due("23: nothing came", x.count(5), 1);
        CHECK.due("23: nothing was heard", x.hearing(0, 4), 1);
        x.swap(0);
        CHECK.due("23: a late one is not heard", x.ifDelivered(0, 1), 3);
        CHECK.due("23: missing ahead of the fourth", x.ifDelivered(0, 2), 2);
        CHECK.due("23: a voice without packets", x.ifDelivered(1, 0), 0);
        x.set(2, 4);
        int guess = x.ifDelivered(0, 0);
        x.say(0, 2000);
        CHECK.due("23: gathered codes are not heard", x.ifDelivered(0, 0), guess);
        FoldedVoices y = withPackets(2, 8, 3);
        y.lose(2);
        y.lose(2);
        y.lose(2);
        y.deliver(2);
        CHECK.due("23: a jump and three missing ones are no more", y.hearing(2, 7) * 10 + y.hearing(2, 5), 13);
        CHECK.due("23: none missing in those that wait", y.ifDelivered(2, 2), 0);
        CHECK.due("23: no jumps in those that wait", y.ifDelivered(2, 3), 0);
        CHECK.dueThrow("23: voice 3 and what", x, INDEX, () -> x.ifDelivered(3, 4));
        CHECK.dueThrow("23: voice -1", x, INDEX, () -> x.ifDelivered(-1, 0));
        CHECK.dueThrow("23: what 4", x, ARGUMENT, () -> x.ifDelivered(0, 4));
        CHECK.dueThrow("23: what -1", x, ARGUMENT, () -> x.ifDelivered(0, -1));
    }

    private static void promise24And25() {
        FoldedVoices x = withPackets(1, 3, 9);
        CHECK.dueDouble("24: nothing heard", x.meanError(1), 0.0);
        CHECK.dueDouble("25: none lost", x.lostShare(), 0.0f);
        x.deliver(1);
        CHECK.dueDouble("24: 1", x.meanError(1), 1.0);
        x.deliver(1);
        CHECK.dueDouble("24: 1 and 4", x.meanError(1), 2.5);
        x.deliver(1);
        CHECK.dueDouble("24: 1, 4 and 0", x.meanError(1), 5.0 / 3.0);
        CHECK.dueDouble("24: another voice", x.meanError(0), 0.0);
        CHECK.dueThrow("24: voice 3", x, INDEX, () -> x.meanError(3));
        CHECK.dueThrow("24: voice -1", x, INDEX, () -> x.meanError(-1));
        CHECK.dueDouble("25: of nothing", new FoldedVoices().lostShare(), 0.0f);
        x.say(0, 14);
        x.say(0, 14);
        x.say(2, 14);
        x.lose(0);
        CHECK.dueDouble("25: one of six", x.lostShare(), 1.0f / 6.0f);
        x.lose(2);
        CHECK.dueDouble("25: two of six, of two voices", x.lostShare(), 2.0f / 6.0f);
        FoldedVoices y = new FoldedVoices();
        Texts.type(y, "0:1,2,3,4,5;l0");
        y.talk();
        CHECK.dueDouble("25: of packets, not of codes; one of one", y.lostShare(), 1.0f);
    }
}

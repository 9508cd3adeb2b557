/** Edges of the settings and the looks: promises 7, 19, 20 and 26, and "Settings" of the terms. */
public final class LookEdgesTest {
    private static final Class<IndexOutOfBoundsException> INDEX = IndexOutOfBoundsException.class;
    private static final Class<IllegalArgumentException> ARGUMENT = IllegalArgumentException.class;
    private static final Edges EDGES = new Edges("LookEdgesTest");

    private LookEdgesTest() {
    }

    public static void main(String[] args) {
        theSettings();
        theCounts();
        theHash();
        EDGES.end();
    }

    private static void theSettings() {
        EDGES.edge(7, "0: samples that are gathered, 1 to 4, at first 1", () -> dueSetting(0, 1, 4, 1));
        EDGES.edge(7, "1: the gate, 0 to 99, at first 0", () -> dueSetting(1, 0, 99, 0));
        EDGES.edge(7, "2: codes of a packet, 1 to 8, at first 4", () -> dueSetting(2, 1, 8, 4));
        EDGES.edge(7, "3: packets from head to head, 1 to 9, at first 3", () -> dueSetting(3, 1, 9, 3));
        EDGES.edge(7, "Returns the previous value.", LookEdgesTest::previousValues);
        EDGES.edge(7, "`setting`: 0 to 3", LookEdgesTest::firstAndLastToSet);
        EDGES.edge(20, "`setting`: 0 to 3", LookEdgesTest::firstAndLastSetting);
        EDGES.edge(20, "Returns its value.", LookEdgesTest::valuesAreApart);
    }

    private static void dueSetting(int setting, int least, int most, int first) {
        FoldedVoices x = new FoldedVoices();
        EDGES.due("at first", x.setting(setting), first);
        for (int value = least; value <= most; value++) {
            x.set(setting, value);
            EDGES.due("the value", x.setting(setting), value);
        }
        int[] wrong = {least - 1, most + 1, -most, Integer.MIN_VALUE, Integer.MAX_VALUE};
        for (int value : wrong) {
            EDGES.dueThrow("set(" + setting + ", " + value + ")", ARGUMENT, () -> x.set(setting, value));
            EDGES.due("the value stays", x.setting(setting), most);
        }
    }

    private static void previousValues() {
        FoldedVoices x = new FoldedVoices();
        int[] first = {1, 0, 4, 3};
        for (int setting = 0; setting <= 3; setting++) {
            EDGES.due("the first value", x.set(setting, 4), first[setting]);
            EDGES.due("the one behind it", x.set(setting, 1), 4);
            EDGES.due("the same again", x.set(setting, 1), 1);
            EDGES.due("and still", x.set(setting, 2), 1);
        }
    }

    private static void firstAndLastToSet() {
        FoldedVoices x = new FoldedVoices();
        EDGES.due("the setting 0", x.set(0, 2), 1);
        EDGES.due("the setting 3", x.set(3, 2), 3);
        int[] wrong = {-1, 4, 5, Integer.MIN_VALUE, Integer.MAX_VALUE};
        for (int setting : wrong) {
            EDGES.dueThrow("set(" + setting + ", 1)", INDEX, () -> x.set(setting, 1));
        }
    }

    private static void firstAndLastSetting() {
        FoldedVoices x = new FoldedVoices();
        EDGES.due("the setting 0", x.setting(0), 1);
        EDGES.due("the setting 3", x.setting(3), 3);
        int[] wrong = {-1, 4, 5, Integer.MIN_VALUE, Integer.MAX_VALUE};
        for (int setting : wrong) {
            EDGES.dueThrow("setting(" + setting + ")", INDEX, () -> x.setting(setting));
        }
    }

    private static void valuesAreApart() {
        FoldedVoices x = new FoldedVoices();
        int[] values = {4, 99, 8, 9};
        for (int setting = 0; setting <= 3; setting++) {
            x.set(setting, values[setting]);
        }
        for (int setting = 0; setting <= 3; setting++) {
            EDGES.due("the most of " + setting, x.setting(setting), values[setting]);
        }
        FoldedVoices other = new FoldedVoices();
        EDGES.due("another object has its own", other.setting(1), 0);
    }

    private static void theCounts() {
        EDGES.edge(19, "0: samples said so far (also those without a code)", LookEdgesTest::samplesWithoutACode);
        EDGES.edge(19, "1: codes so far, of all voices (those that are gathered too)", LookEdgesTest::codesOfAllVoices);
        EDGES.edge(19, "2: packets so far, of all voices (also lost ones, and those that came)", LookEdgesTest::packetsSoFar);
        EDGES.edge(19, "3: packets that wait (none, and all places taken)", LookEdgesTest::packetsThatWait);
        EDGES.edge(19, "4: packets lost so far (not those that are missing, or late)", LookEdgesTest::packetsLost);
        EDGES.edge(19, "5: packets that came so far, late ones too", LookEdgesTest::packetsThatCame);
        EDGES.edge(19, "7: saved states", LookEdgesTest::savedStates);
        EDGES.edge(19, "Throws `IllegalArgumentException` if what is not 0 to 7", LookEdgesTest::firstAndLastCount);
    }

    private static void samplesWithoutACode() {
        FoldedVoices x = new FoldedVoices();
        EDGES.due("none", x.count(0), 0);
        x.set(0, 4);
        for (int i = 1; i <= 9; i++) {
            x.say(i % 3, 5);
            EDGES.due("samples", x.count(0), i);
        }
        EDGES.due("codes", x.count(1), 0);
        x.say(1, 5);
        EDGES.due("samples", x.count(0), 10);
        EDGES.due("codes", x.count(1), 1);
    }

    private static void codesOfAllVoices() {
        FoldedVoices x = new FoldedVoices();
        for (int voice = 0; voice < 3; voice++) {
            for (int i = 0; i < 5; i++) {
                x.say(voice, 5);
            }
        }
        EDGES.due("five of each", x.count(1), 15);
        EDGES.due("five of one", x.saying(1, 7), 5);
        x.lose(1);
        x.deliver(2);
        EDGES.due("lost or come", x.count(1), 15);
    }

    private static void packetsSoFar() {
        FoldedVoices x = new FoldedVoices();
        x.set(2, 1);
        x.say(0, 5);
        x.say(0, 5);
        x.say(2, 5);
        EDGES.due("all wait", x.count(2), 3);
        x.lose(0);
        x.deliver(0);
        EDGES.due("one waits", x.count(2), 3);
        x.set(2, 2);
        x.say(1, 5);
        EDGES.due("codes that are gathered are none", x.count(2), 3);
        x.flush(1);
        EDGES.due("flushed", x.count(2), 4);
    }

    private static void packetsThatWait() {
        FoldedVoices x = new FoldedVoices();
        EDGES.due("none", x.count(3), 0);
        x.set(2, 1);
        for (int i = 1; i <= 24; i++) {
            x.say((i - 1) / 8, 5);
            EDGES.due("waiting", x.count(3), i);
        }
        x.swap(0);
        EDGES.due("behind a swap", x.count(3), 24);
        x.deliver(0);
        x.lose(1);
        EDGES.due("behind two that went", x.count(3), 22);
    }

    private static void packetsLost() {
        FoldedVoices x = new FoldedVoices();
        x.set(2, 1);
        for (int i = 0; i < 4; i++) {
            x.say(0, 5);
            x.say(1, 5);
        }
        x.swap(0);
        x.deliver(0);
        x.deliver(0);
        EDGES.due("missing and late ones", x.count(4), 0);
        x.lose(0);
        x.lose(1);
        x.lose(1);
        EDGES.due("lost in two voices", x.count(4), 3);
    }

    private static void packetsThatCame() {
        FoldedVoices x = new FoldedVoices();
        x.set(2, 1);
        for (int i = 0; i < 3; i++) {
            x.say(0, 5);
        }
        x.say(2, 5);
        EDGES.due("none", x.count(5), 0);
        x.swap(0);
        x.deliver(0);
        EDGES.due("one", x.count(5), 1);
        x.deliver(0);
        EDGES.due("a late one too", x.count(5), 2);
        x.lose(0);
        EDGES.due("a lost one not", x.count(5), 2);
        x.deliver(2);
        EDGES.due("of all voices", x.count(5), 3);
    }

    private static void savedStates() {
        FoldedVoices x = new FoldedVoices();
        EDGES.due("none", x.count(7), 0);
        for (int i = 1; i <= 8; i++) {
            x.say(0, 5);
            EDGES.due("saved", x.count(7), Math.min(6, i));
        }
        x.undo();
        EDGES.due("five", x.count(7), 5);
    }

    private static void firstAndLastCount() {
        FoldedVoices x = new FoldedVoices();
        x.say(0, 5);
        EDGES.due("count(0)", x.count(0), 1);
        EDGES.due("count(7)", x.count(7), 1);
        int[] wrong = {-1, 8, Integer.MIN_VALUE, Integer.MAX_VALUE};
        for (int what : wrong) {
            EDGES.dueThrow("count(" + what + ")", ARGUMENT, () -> x.count(what));
        }
    }

    private static void theHash() {
        EDGES.edge(26, "The hash starts at 3637. (a new object)", LookEdgesTest::hashOfANewObject);
        EDGES.edge(26, "1 if there is a snapshot, otherwise 0", LookEdgesTest::hashesWithASnapshot);
        EDGES.edge(26, "the length of the buffer and each of its character codes (none, one and 60)",
                LookEdgesTest::hashesOfBuffers);
        EDGES.edge(26, "for each packet that waits its numbers 0 to 5 (none, and all places taken)",
                LookEdgesTest::hashesOfFullWires);
        EDGES.edge(26, "the bits of meanError (as Double.doubleToLongBits)", LookEdgesTest::hashesOfMeanErrors);
        EDGES.edge(26, "the bits of lostShare (as Float.floatToIntBits)", LookEdgesTest::hashesOfLostShares);
        EDGES.edge(26, "settles of the sample -500 with near 50", LookEdgesTest::hashesOfSettling);
        EDGES.edge(26, "code of the sample 100 with 0 to 4", LookEdgesTest::hashesOfCodes);
    }

    private static void dueHash(FoldedVoices x, boolean hasSnapshot, String buffer) {
        long digest = x.digest();
        EDGES.due("digest", digest, Hash.of(x, hasSnapshot, buffer));
    }

    private static void hashOfANewObject() {
        dueHash(new FoldedVoices(), false, "");
    }

    private static void hashesWithASnapshot() {
        dueHash(Ends.sayingAt(15, 8), false, "");
        FoldedVoices x = new FoldedVoices();
        x.keep();
        dueHash(x, true, "");
        FoldedVoices y = new FoldedVoices();
        y.keep();
        y.say(0, 5);
        y.goBack();
        y.undo();
        y.undo();
        dueHash(y, true, "");
    }

    private static void hashesOfBuffers() {
        dueHash(Texts.typed("!"), false, "!");
        dueHash(Texts.typed("~!"), false, "~!");
        String full = "0:1" + ",1".repeat(28) + ";";
        dueHash(Texts.typed(full), false, full);
        FoldedVoices x = Texts.typed(full);
        x.clearBuffer();
        dueHash(x, false, "");
        x.append('x');
        EDGES.note(x.digest() != Texts.typed("d").digest(), "the characters should be told");
    }

    private static FoldedVoices withFullWires() {
        FoldedVoices x = new FoldedVoices();
        x.set(2, 1);
        for (int i = 0; i < 24; i++) {
            x.say(i / 8, 170 * i - 2000);
        }
        return x;
    }

    private static void hashesOfFullWires() {
        dueHash(withFullWires(), false, "");
        FoldedVoices x = withFullWires();
        for (int i = 0; i < 8; i++) {
            x.deliver(2);
        }
        x.lose(0);
        dueHash(x, false, "");
    }

    private static void hashesOfMeanErrors() {
        for (int codes = 1; codes <= 7; codes++) {
            FoldedVoices x = new FoldedVoices();
            x.set(2, 1);
            for (int i = 0; i < codes; i++) {
                x.say(1, 600 * i - 1800);
                x.deliver(1);
            }
            EDGES.note(x.meanError(1) > 1.0, "the mean error should be more than 1");
            dueHash(x, false, "");
        }
        int[] samples = {1, 0, 2, 5};
        for (int sample : samples) {
            FoldedVoices x = new FoldedVoices();
            x.set(2, 1);
            x.say(2, sample);
            x.deliver(2);
            EDGES.note(x.meanError(2) <= 1.0, "the mean error should be 0 or 1");
            dueHash(x, false, "");
        }
        smallMeanErrors();
    }

    private static void smallMeanErrors() {
        FoldedVoices x = new FoldedVoices();
        x.set(2, 8);
        // The code 0 changes the guess by 1, and the code 8 back again; but for the first one there is no error.
        x.say(0, 0);
        for (int i = 0; i < 23; i++) {
            x.say(0, i % 2);
        }
        for (int i = 0; i < 3; i++) {
            x.deliver(0);
        }
        EDGES.dueDouble("the mean error", x.meanError(0), 1.0 / 24.0);
        dueHash(x, false, "");
    }

    private static void hashesOfLostShares() {
        for (int packets = 1; packets <= 8; packets++) {
            for (int lost = 0; lost <= packets; lost += packets > 3 ? packets - 1 : 1) {
                FoldedVoices x = new FoldedVoices();
                x.set(2, 1);
                for (int i = 0; i < packets; i++) {
                    x.say(0, 14);
                }
                for (int i = 0; i < lost; i++) {
                    x.lose(0);
                }
                EDGES.dueDouble("lostShare", x.lostShare(), (float) lost / (float) packets);
                dueHash(x, false, "");
            }
        }
    }

    private static void hashesOfSettling() {
        // From -550 the guess differs by 50, from -549 and -451 by less, from -450 by 50.
        int[] guesses = {-551, -550, -549, -500, -451, -450, -449};
        for (int guess : guesses) {
            dueHash(Ends.sayingAt(guess, 10), false, "");
        }
    }

    private static void hashesOfCodes() {
        int[] guesses = {90, 98, 99, 100, 101, 102, 110};
        for (int guess : guesses) {
            dueHash(Ends.sayingAt(guess, 0), false, "");
        }
    }
}

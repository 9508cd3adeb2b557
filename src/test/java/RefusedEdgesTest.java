import java.util.function.Consumer;

/**
 * "Exceptions" of the terms, for each method that throws: which exception, which one of several, and that a call that throws
 * changes nothing; and the looks, which change nothing.
 */
public final class RefusedEdgesTest {
    private static final Class<IndexOutOfBoundsException> INDEX = IndexOutOfBoundsException.class;
    private static final Class<IllegalArgumentException> ARGUMENT = IllegalArgumentException.class;
    private static final Class<IllegalStateException> STATE = IllegalStateException.class;
    private static final String NO_VOICE = "Throws `IndexOutOfBoundsException` if there is no such voice: ";
    private static final String NO_WHAT = "Throws `IllegalArgumentException` if what is not 0 to ";
    private static final String NAMED_FIRST = "the one that is named first in the throws clause is thrown: ";
    private static final String LOOKS = "looks; nothing is changed: ";
    private static final Edges EDGES = new Edges("RefusedEdgesTest");

    private RefusedEdgesTest() {
    }

    public static void main(String[] args) {
        voicesThatAre();
        noSuchVoices();
        refusedSamples();
        refusedOnTheWire();
        refusedSettings();
        refusedTexts();
        refusedGoingBack();
        refusedLooks();
        refusedLooksAhead();
        severalExceptions();
        looks();
        looksAhead();
        EDGES.end();
    }

    private static void fresh(FoldedVoices x) {
    }

    /**
     * The voice 1 has a full wire, a gathered code and a gathered sample, the voice 2 one packet, the voice 0 none. The
     * buffer is full and tells no talk, there is a snapshot, and six states are saved.
     */
    private static void busy(FoldedVoices x) {
        x.set(2, 1);
        Texts.type(x, "1:500,-70,90,2000,-2000,14,3,1");
        x.talk();
        Texts.type(x, "0:14,15;d0;l0;2:9,8,7;d2;l2");
        x.talk();
        x.keep();
        x.set(0, 2);
        x.set(2, 2);
        x.set(1, 35);
        x.say(1, 30);
        x.say(1, 39);
        x.say(1, 20);
        Texts.type(x, "0:1" + ",1".repeat(28) + ",");
    }

    private static void refused(int promise, String words, Class<? extends RuntimeException> want,
            Consumer<FoldedVoices> call) {
        EDGES.refused(promise, words + " (a busy object)", RefusedEdgesTest::busy, want, call);
    }

    private static void refusedAtFirst(int promise, String words, Class<? extends RuntimeException> want,
            Consumer<FoldedVoices> call) {
        EDGES.refused(promise, words + " (a new object)", RefusedEdgesTest::fresh, want, call);
    }

    /** Just outside of 0 to the last, and far outside. */
    private static int[] beyond(int last) {
        return new int[] {-1, last + 1, Integer.MIN_VALUE, Integer.MAX_VALUE};
    }

    private interface InVoice {
        double call(FoldedVoices x, int voice);
    }

    private static void voicesThatAre() {
        accepted(2, "say", (x, voice) -> x.say(voice, 14));
        accepted(3, "flush", FoldedVoices::flush);
        accepted(4, "deliver", FoldedVoices::deliver);
        accepted(5, "lose", FoldedVoices::lose);
        accepted(6, "swap", FoldedVoices::swap);
        accepted(15, "saying", (x, voice) -> x.saying(voice, 9));
        accepted(16, "hearing", (x, voice) -> x.hearing(voice, 11));
        accepted(17, "packet", (x, voice) -> x.packet(voice, 1, 5));
        accepted(18, "why", FoldedVoices::why);
        accepted(21, "code", (x, voice) -> x.code(voice, 2000, 4));
        accepted(22, "settles", (x, voice) -> x.settles(voice, -2000, 2000));
        accepted(23, "ifDelivered", (x, voice) -> x.ifDelivered(voice, 3));
        accepted(24, "meanError", FoldedVoices::meanError);
    }

    /** In each voice two packets wait and a code is gathered. */
    private static void threeVoices(FoldedVoices x) {
        x.set(2, 2);
        for (int voice = 0; voice < 3; voice++) {
            for (int i = 0; i < 5; i++) {
                x.say(voice, 100 * i);
            }
        }
    }

    private static void accepted(int promise, String method, InVoice call) {
        EDGES.edge(promise, "There are 3 voices, numbered from 0: " + method, () -> {
            double first = call.call(Twins.gone(RefusedEdgesTest::threeVoices), 0);
            for (int voice = 1; voice < 3; voice++) {
                double other = call.call(Twins.gone(RefusedEdgesTest::threeVoices), voice);
                EDGES.dueDouble("the answer in the voice " + voice + ", as in the voice 0", other, first);
            }
        });
    }

    private static void noSuchVoices() {
        for (int voice : beyond(2)) {
            refused(2, NO_VOICE + voice, INDEX, x -> x.say(voice, 0));
            refused(3, NO_VOICE + voice, INDEX, x -> x.flush(voice));
            refused(4, NO_VOICE + voice, INDEX, x -> x.deliver(voice));
            refused(5, NO_VOICE + voice, INDEX, x -> x.lose(voice));
            refused(6, NO_VOICE + voice, INDEX, x -> x.swap(voice));
            refused(15, NO_VOICE + voice, INDEX, x -> x.saying(voice, 0));
            refused(16, NO_VOICE + voice, INDEX, x -> x.hearing(voice, 0));
            refused(17, NO_VOICE + voice, INDEX, x -> x.packet(voice, 0, 0));
            refused(18, NO_VOICE + voice, INDEX, x -> x.why(voice));
            refused(21, NO_VOICE + voice, INDEX, x -> x.code(voice, 0, 0));
            refused(22, NO_VOICE + voice, INDEX, x -> x.settles(voice, 0, 1));
            refused(23, NO_VOICE + voice, INDEX, x -> x.ifDelivered(voice, 0));
            refused(24, NO_VOICE + voice, INDEX, x -> x.meanError(voice));
        }
    }

    private static void refusedSamples() {
        int[] wrong = {2001, -2001, Integer.MIN_VALUE, Integer.MAX_VALUE};
        for (int sample : wrong) {
            String words = "Throws `IllegalArgumentException` if sample is out of range: " + sample;
            refused(2, words, ARGUMENT, x -> x.say(2, sample));
            refused(21, words, ARGUMENT, x -> x.code(2, sample, 0));
            refused(22, words, ARGUMENT, x -> x.settles(2, sample, 1));
        }
        refused(2, "Throws `IllegalStateException` if 8 packets wait on the wire, and another one would be put to it", STATE,
                x -> x.say(1, 0));
        refusedAtFirst(3, "Throws `IllegalStateException` if no codes were gathered", STATE, x -> x.flush(0));
        refused(3, "Throws `IllegalStateException` if no codes were gathered", STATE, x -> x.flush(0));
        refused(3, "Throws `IllegalStateException` if .. 8 packets wait", STATE, x -> x.flush(1));
    }

    private static void refusedOnTheWire() {
        refusedAtFirst(4, "Throws `IllegalStateException` if no packet waits", STATE, x -> x.deliver(2));
        refused(4, "Throws `IllegalStateException` if no packet waits", STATE, x -> x.deliver(0));
        refusedAtFirst(5, "Throws `IllegalStateException` if no packet waits", STATE, x -> x.lose(2));
        refused(5, "Throws `IllegalStateException` if no packet waits", STATE, x -> x.lose(0));
        refusedAtFirst(6, "Throws `IllegalStateException` if fewer than two packets wait: none", STATE, x -> x.swap(2));
        refused(6, "Throws `IllegalStateException` if fewer than two packets wait: none", STATE, x -> x.swap(0));
        refused(6, "Throws `IllegalStateException` if fewer than two packets wait: one", STATE, x -> x.swap(2));
    }

    private static void refusedSettings() {
        int[] least = {1, 0, 1, 1};
        int[] most = {4, 99, 8, 9};
        for (int i = 0; i < 4; i++) {
            int setting = i;
            String words = "Throws `IllegalArgumentException` if value is out of range: setting " + setting;
            refused(7, words + ", too little", ARGUMENT, x -> x.set(setting, least[setting] - 1));
            refused(7, words + ", too much", ARGUMENT, x -> x.set(setting, most[setting] + 1));
        }
        for (int setting : beyond(3)) {
            String words = "Throws `IndexOutOfBoundsException` if there is no such setting: " + setting;
            refused(7, words, INDEX, x -> x.set(setting, 1));
            refused(20, words, INDEX, x -> x.setting(setting));
        }
    }

    private static void refusedTexts() {
        int[] wrong = {32, 127, -1, 65536 + 48};
        for (int code : wrong) {
            refusedAtFirst(8, "Throws `IllegalArgumentException` if code is not 33 to 126: " + code, ARGUMENT,
                    x -> x.append(code));
        }
        refused(8, "Throws `IllegalStateException` if the buffer has 60 characters", STATE, x -> x.append('0'));
        refusedAtFirst(11, "Throws `IllegalArgumentException` if the buffer is not a complete talk as a text", ARGUMENT,
                FoldedVoices::talk);
        refused(11, "Throws `IllegalArgumentException` if the buffer is not a complete talk as a text", ARGUMENT,
                FoldedVoices::talk);
        EDGES.refused(11, "if the buffer is not a complete talk as a text: a syntax error behind deeds",
                x -> Texts.type(x, "0:5,6;d0;0:2001"), ARGUMENT, FoldedVoices::talk);
    }

    private static void refusedGoingBack() {
        refusedAtFirst(13, "Throws `IllegalStateException` if there is no snapshot", STATE, FoldedVoices::goBack);
        EDGES.refused(13, "Throws `IllegalStateException` if there is no snapshot (six states are saved)",
                RefusedEdgesTest::withoutASnapshot, STATE, FoldedVoices::goBack);
        refusedAtFirst(14, "Throws `IllegalStateException` if there is none", STATE, FoldedVoices::undo);
        EDGES.refused(14, "Throws `IllegalStateException` if there is none (all are undone)",
                RefusedEdgesTest::withoutSavedStates, STATE, FoldedVoices::undo);
    }

    private static void withoutASnapshot(FoldedVoices x) {
        for (int i = 0; i < 9; i++) {
            x.say(i % 3, 100 * i - 400);
        }
        Texts.type(x, "0:5");
    }

    private static void withoutSavedStates(FoldedVoices x) {
        busy(x);
        for (int i = 0; i < 6; i++) {
            x.undo();
        }
    }

    private static void refusedLooks() {
        for (int what : beyond(9)) {
            refused(15, NO_WHAT + "9: " + what, ARGUMENT, x -> x.saying(1, what));
        }
        for (int what : beyond(11)) {
            refused(16, NO_WHAT + "11: " + what, ARGUMENT, x -> x.hearing(1, what));
        }
        for (int what : beyond(5)) {
            refused(17, NO_WHAT + "5: " + what, ARGUMENT, x -> x.packet(1, 0, what));
        }
        for (int what : beyond(7)) {
            refused(19, NO_WHAT + "7: " + what, ARGUMENT, x -> x.count(what));
        }
        for (int rank : beyond(7)) {
            refused(17, "Throws `IndexOutOfBoundsException` if there is no such voice or rank: " + rank, INDEX,
                    x -> x.packet(1, rank, 0));
        }
        refused(17, "if there is no such voice or rank: none waits", INDEX, x -> x.packet(0, 0, 0));
        refused(17, "if there is no such voice or rank: one waits", INDEX, x -> x.packet(2, 1, 0));
    }

    private static void refusedLooksAhead() {
        for (int what : beyond(4)) {
            refused(21, "Throws `IllegalArgumentException` if sample or what is out of range: what " + what, ARGUMENT,
                    x -> x.code(0, 0, what));
        }
        int[] wrongNear = {0, 2001, -1, Integer.MIN_VALUE, Integer.MAX_VALUE};
        for (int near : wrongNear) {
            refused(22, "Throws `IllegalArgumentException` if sample or near is out of range: near " + near, ARGUMENT,
                    x -> x.settles(0, 0, near));
        }
        for (int what : beyond(3)) {
            refused(23, NO_WHAT + "3: " + what, ARGUMENT, x -> x.ifDelivered(0, what));
        }
    }

    private static void severalExceptions() {
        refused(2, NAMED_FIRST + "the voice ahead of the sample", INDEX, x -> x.say(3, 2001));
        refused(2, NAMED_FIRST + "the sample ahead of the wire", ARGUMENT, x -> x.say(1, 2001));
        refused(2, NAMED_FIRST + "the sample below 0 ahead of the wire", ARGUMENT, x -> x.say(1, -2001));
        refused(7, NAMED_FIRST + "the setting ahead of the value", INDEX, x -> x.set(4, -1));
        refused(7, NAMED_FIRST + "the setting -1 ahead of the value", INDEX, x -> x.set(-1, 100));
        refused(8, NAMED_FIRST + "the character ahead of the full buffer", ARGUMENT, x -> x.append(32));
        refused(8, NAMED_FIRST + "the character 127 ahead of the full buffer", ARGUMENT, x -> x.append(127));
        refused(15, NAMED_FIRST + "the voice ahead of what", INDEX, x -> x.saying(-1, 10));
        refused(16, NAMED_FIRST + "the voice ahead of what", INDEX, x -> x.hearing(3, 12));
        refused(17, NAMED_FIRST + "the voice ahead of what", INDEX, x -> x.packet(3, 0, 6));
        refused(17, NAMED_FIRST + "the rank ahead of what", INDEX, x -> x.packet(1, 8, 6));
        refused(17, NAMED_FIRST + "the rank ahead of what, none waits", INDEX, x -> x.packet(0, 0, -1));
        refused(21, NAMED_FIRST + "the voice ahead of the sample", INDEX, x -> x.code(3, 2001, 0));
        refused(21, NAMED_FIRST + "the voice ahead of what", INDEX, x -> x.code(-1, 0, 5));
        refused(22, NAMED_FIRST + "the voice ahead of the sample", INDEX, x -> x.settles(3, -2001, 1));
        refused(22, NAMED_FIRST + "the voice ahead of near", INDEX, x -> x.settles(-1, 0, 0));
        refused(23, NAMED_FIRST + "the voice ahead of what", INDEX, x -> x.ifDelivered(3, 4));
    }

    private static void looks() {
        for (int i = 0; i < 3; i++) {
            int voice = i;
            only(15, LOOKS + "saying of " + voice, x -> eachOf(9, what -> x.saying(voice, what)));
            only(16, LOOKS + "hearing of " + voice, x -> eachOf(11, what -> x.hearing(voice, what)));
            only(18, LOOKS + "why of " + voice, x -> x.why(voice));
        }
        only(10, "Finds the first syntax error of the buffer. (and changes nothing)", FoldedVoices::firstError);
        EDGES.onlyLooks(10, "Finds the first syntax error of the buffer. (there is one, and it stays)",
                x -> Texts.type(x, "0:5!d0"), FoldedVoices::firstError);
        only(17, LOOKS + "packet", x -> eachOf(5, what -> x.packet(1, 7, what)));
        only(19, LOOKS + "count", x -> eachOf(7, x::count));
        only(20, LOOKS + "setting", x -> eachOf(3, x::setting));
    }

    private static void looksAhead() {
        String words = "what would be; nothing is changed: ";
        for (int i = 0; i < 3; i++) {
            int voice = i;
            only(21, words + "code of " + voice, x -> eachOf(4, what -> x.code(voice, 700, what)));
            only(22, words + "settles of " + voice, x -> x.settles(voice, -700, 1));
            only(23, words + "ifDelivered of " + voice, x -> eachOf(3, what -> x.ifDelivered(voice, what)));
            only(24, words + "meanError of " + voice, x -> x.meanError(voice));
        }
        only(25, words + "lostShare", FoldedVoices::lostShare);
        only(26, words + "digest", FoldedVoices::digest);
    }

    private static void only(int promise, String words, Consumer<FoldedVoices> call) {
        EDGES.onlyLooks(promise, words, RefusedEdgesTest::busy, call);
    }

    private interface Look {
        int at(int what);
    }

    private static void eachOf(int last, Look look) {
        for (int what = 0; what <= last; what++) {
            look.at(what);
        }
    }
}

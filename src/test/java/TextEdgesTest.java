/** Edges of the buffer and of talks: promises 8 to 11, and "Input text" of the terms. */
public final class TextEdgesTest {
    private static final Class<IllegalArgumentException> ARGUMENT = IllegalArgumentException.class;
    private static final Class<IllegalStateException> STATE = IllegalStateException.class;
    private static final Edges EDGES = new Edges("TextEdgesTest");
    // 60 characters, a complete talk of 29 samples.
    private static final String FULL = "0:10" + ",1".repeat(28);

    private TextEdgesTest() {
    }

    public static void main(String[] args) {
        theBuffer();
        wherePartsBegin();
        samplesInTexts();
        numbersInTexts();
        deedsInTexts();
        firstErrors();
        completeTalks();
        talksAreDone();
        talksStop();
        EDGES.end();
    }

    private static void theBuffer() {
        EDGES.edge(8, "`code`: the character code, 33 to 126", TextEdgesTest::leastAndMostCharacters);
        EDGES.edge(8, "The buffer has at most 60 characters.", TextEdgesTest::sixtyCharacters);
        EDGES.edge(8, "Returns the new length of the buffer.", TextEdgesTest::lengthsFrom1To60);
        EDGES.edge(9, "Returns the length that it had.", TextEdgesTest::lengthsThatItHad);
        EDGES.edge(9, "Clears the buffer.", TextEdgesTest::clearedBuffers);
    }

    private static void leastAndMostCharacters() {
        FoldedVoices x = new FoldedVoices();
        EDGES.due("append(33)", x.append(33), 1);
        EDGES.due("append(126)", x.append(126), 2);
        int[] wrong = {32, 127, 0, -1, 255, 256 + 48, 65536 + 48, Integer.MIN_VALUE, Integer.MAX_VALUE};
        for (int code : wrong) {
            EDGES.dueThrow("append(" + code + ")", ARGUMENT, () -> x.append(code));
        }
        EDGES.due("the length", x.clearBuffer(), 2);
    }

    private static void sixtyCharacters() {
        FoldedVoices x = Texts.typed(FULL.substring(0, 59));
        EDGES.due("the 60th", x.append('1'), 60);
        EDGES.dueThrow("the 61st", STATE, () -> x.append('1'));
        EDGES.due("the length", x.clearBuffer(), 60);
        EDGES.due("room again", x.append('1'), 1);
    }

    private static void lengthsFrom1To60() {
        FoldedVoices x = new FoldedVoices();
        for (int i = 1; i <= 60; i++) {
            EDGES.due("append", x.append('~'), i);
        }
    }

    private static void lengthsThatItHad() {
        FoldedVoices x = new FoldedVoices();
        EDGES.due("an empty one", x.clearBuffer(), 0);
        x.append('!');
        EDGES.due("one character", x.clearBuffer(), 1);
        Texts.type(x, FULL);
        EDGES.due("a full one", x.clearBuffer(), 60);
        EDGES.due("cleared already", x.clearBuffer(), 0);
    }

    private static void clearedBuffers() {
        FoldedVoices x = Texts.typed("!");
        EDGES.due("an error", x.firstError(), 0);
        x.clearBuffer();
        EDGES.due("none in an empty one", x.firstError(), 0);
        EDGES.dueThrow("no talk", ARGUMENT, x::talk);
        Texts.type(x, "d0");
        EDGES.due("from the start", x.firstError(), 2);
    }

    private static void dueFirstError(String text, int due) {
        EDGES.due("firstError of " + text, Texts.typed(text).firstError(), due);
    }

    private static void dueRight(String... texts) {
        for (String text : texts) {
            dueFirstError(text, text.length());
        }
    }

    /** The last character is the first syntax error. */
    private static void dueWrongAtTheLast(String... texts) {
        for (String text : texts) {
            dueFirstError(text, text.length() - 1);
            dueFirstError(text + "0", text.length() - 1);
        }
    }

    /** Just these characters can stand behind the text. */
    private static void dueNext(String text, String next) {
        for (int sign = 33; sign <= 126; sign++) {
            dueFirstError(text + (char) sign, text.length() + (next.indexOf(sign) >= 0 ? 1 : 0));
        }
    }

    private static void wherePartsBegin() {
        EDGES.edge(10, "A talk as a text is one or more parts with \";\" between them", TextEdgesTest::partsBetween);
        EDGES.edge(10, "the digit of a voice, 0 to 2", TextEdgesTest::digitsOfVoices);
        EDGES.edge(10, "the digit of a voice, 0 to 2, \":\"", TextEdgesTest::colons);
    }

    private static void partsBetween() {
        dueNext("", "012dlx");
        dueNext("d0;", "012dlx");
        dueNext("0:5;", "012dlx");
        dueNext("0:0;", "012dlx");
        dueWrongAtTheLast(";", "d0;;", "0:5;;", "0:5,;");
        dueRight("d0", "d0;d0", "d0;d0;d0", "0:5;1:6;2:7");
    }

    private static void digitsOfVoices() {
        dueRight("0", "1", "2", "d0", "d2", "l0", "l2", "x0", "x2", "d0;2", "0:1;2:1");
        dueWrongAtTheLast("3", "9", "d3", "l3", "x3", "d9", "d0;3", "0:1;3", "/", "d/");
    }

    private static void colons() {
        dueNext("0", ":");
        dueNext("2", ":");
        dueNext("d0;1", ":");
    }

    private static void samplesInTexts() {
        EDGES.edge(10, "one or more samples with \",\" between them", TextEdgesTest::samplesBetween);
        EDGES.edge(10, "each with \"-\" ahead of it if it is below 0", TextEdgesTest::minuses);
        EDGES.edge(10, "without leading zeros", TextEdgesTest::leadingZeros);
        EDGES.edge(10, "(\"-0\" is one at the 0.)", TextEdgesTest::minus0);
    }

    private static void samplesBetween() {
        dueNext("0:", "-0123456789");
        dueNext("0:5,", "-0123456789");
        dueNext("0:0,", "-0123456789");
        dueNext("0:-5,", "-0123456789");
        dueWrongAtTheLast("0:,", "0:;", "0:5,,", "0:5,;", "0:d", "0:5:");
    }

    private static void minuses() {
        dueNext("0:-", "123456789");
        dueNext("0:5,-", "123456789");
        dueWrongAtTheLast("0:--", "0:5-", "0:-5-", "0:-,", "0:-;", "-", "0:0-", "0:+");
    }

    private static void leadingZeros() {
        dueNext("0:0", ",;");
        dueNext("0:7,0", ",;");
        dueRight("0:0", "0:10", "0:100", "0:1000", "0:2000", "0:-10", "0:0,0", "0:505");
        dueWrongAtTheLast("0:00", "0:01", "0:09", "0:5,00", "0:5,07");
    }

    private static void minus0() {
        dueFirstError("0:-0", 3);
        dueFirstError("0:-05", 3);
        dueFirstError("0:5,-0", 5);
        dueRight("0:0", "0:-1");
    }

    private static void numbersInTexts() {
        EDGES.edge(10, "A sample, -2000 to 2000 (2000 and 2001)", TextEdgesTest::mostSample);
        EDGES.edge(10, "A sample, -2000 to 2000 (-2000 and -2001)", TextEdgesTest::leastSample);
        EDGES.edge(10, "if no talk as a text, of any length, begins with the characters before it and this character (digits)",
                TextEdgesTest::digitsThatBeginSamples);
        EDGES.edge(10, "of any length (numbers beyond all ints)", TextEdgesTest::endlessNumbers);
    }

    private static void mostSample() {
        dueRight("0:2000", "0:1999", "0:200", "0:2", "0:2000,2000;1:2000");
        dueWrongAtTheLast("0:2001", "0:2009", "0:2010", "0:2999", "0:5,2001", "0:20000");
        dueNext("0:200", "0,;");
        dueNext("0:2000", ",;");
        dueNext("0:1999", ",;");
        dueNext("0:199", "0123456789,;");
    }

    private static void leastSample() {
        dueRight("0:-2000", "0:-1999", "0:-200", "0:-2", "0:-2000,-2000;1:-2000");
        dueWrongAtTheLast("0:-2001", "0:-2009", "0:-2010", "0:-2999", "0:5,-2001", "0:-20000");
        dueNext("0:-200", "0,;");
        dueNext("0:-2000", ",;");
        dueNext("0:-199", "0123456789,;");
    }

    private static void digitsThatBeginSamples() {
        dueNext("0:1", "0123456789,;");
        dueNext("0:20", "0123456789,;");
        dueNext("0:201", ",;");
        dueNext("0:999", ",;");
        dueNext("0:-201", ",;");
        dueNext("0:1000", ",;");
        dueNext("0:99", "0123456789,;");
        // A number is told from its own digits, not from those ahead of it.
        dueNext("0:2000,200", "0,;");
        dueNext("2:1", "0123456789,;");
        dueNext("d2;0:1", "0123456789,;");
    }

    private static void endlessNumbers() {
        dueFirstError("0:" + "9".repeat(58), 5);
        dueFirstError("0:1" + "0".repeat(57), 6);
        dueFirstError("0:4294967297", 5);
        dueFirstError("0:-4294967295", 6);
        dueFirstError("0:18446744073709551617", 6);
        dueFirstError("0:1844674407370955161,1", 6);
    }

    private static void deedsInTexts() {
        EDGES.edge(10, "or \"d\", \"l\" or \"x\" and the digit of a voice", TextEdgesTest::letters);
        EDGES.edge(10, "with \";\" between them (behind a deed of the wire)", TextEdgesTest::behindDeeds);
    }

    private static void letters() {
        dueNext("d", "012");
        dueNext("l", "012");
        dueNext("x", "012");
        dueNext("0:1;x", "012");
        dueWrongAtTheLast("D", "L", "X", "s", "dd", "d:", "d;", "d-", "0:1,d");
    }

    private static void behindDeeds() {
        dueNext("d0", ";");
        dueNext("l1", ";");
        dueNext("x2", ";");
        dueNext("0:1;d2", ";");
    }

    private static void firstErrors() {
        EDGES.edge(10, "the length of the buffer if there is none", TextEdgesTest::noErrors);
        EDGES.edge(10, "the index of the first character that is a syntax error (the first and the last place)",
                TextEdgesTest::firstAndLastPlace);
        EDGES.edge(10, "of any length (the buffer is full, and the talk would go on)", TextEdgesTest::fullAndGoingOn);
        EDGES.edge(10, "Finds the first syntax error of the buffer. (of several)", TextEdgesTest::firstOfSeveral);
        EDGES.edge(10, "if no talk as a text begins with .. (what only the state refuses is none)",
                TextEdgesTest::stateIsNoSyntax);
    }

    private static void noErrors() {
        dueRight("", "0", "0:", "0:-", "0:5", "d", "d0", "d0;", "0:5,", FULL);
    }

    private static void firstAndLastPlace() {
        dueFirstError("!" + FULL.substring(1), 0);
        dueFirstError(FULL.substring(0, 59) + "!", 59);
        dueFirstError(FULL.substring(0, 59) + ";", 59);
        dueFirstError(FULL.substring(0, 58) + ";", 59);
    }

    private static void fullAndGoingOn() {
        String more = FULL.substring(0, 58);
        dueRight(more + ",1", more + ",-", more + ";d", more + ";0", more + ";x");
        String all = "0:1" + ",1".repeat(28);
        dueRight(all + ",", all + ";", all + "0", FULL.substring(0, 56) + ";d1;");
        EDGES.due("60 characters", (all + ",").length(), 60);
    }

    private static void firstOfSeveral() {
        dueFirstError("0:5x;;", 3);
        dueFirstError("d0!!", 2);
        dueFirstError("3333", 0);
    }

    private static void stateIsNoSyntax() {
        FoldedVoices x = Texts.typed("d0;l1;x2");
        EDGES.due("no packet waits", x.firstError(), 8);
        EDGES.due("and the talk can be told", x.talk(), 0);
    }

    private static void completeTalks() {
        EDGES.edge(11, "Throws `IllegalArgumentException` if the buffer is not a complete talk as a text (empty)",
                () -> dueNoTalk(""));
        EDGES.edge(11, "if the buffer is not a complete talk as a text (it ends too early)", TextEdgesTest::endsTooEarly);
        EDGES.edge(11, "if the buffer is not a complete talk as a text (it has a syntax error)", TextEdgesTest::hasErrors);
        EDGES.edge(11, "if the buffer is not a complete talk as a text (the shortest ones, and full ones, are)",
                TextEdgesTest::shortestAndLongest);
        EDGES.edge(11, "if the buffer is not a complete talk as a text (a refused one stays)", TextEdgesTest::refusedTexts);
    }

    private static void dueNoTalk(String text) {
        FoldedVoices x = Texts.typed(text);
        EDGES.dueThrow("the talk " + text, ARGUMENT, x::talk);
        EDGES.due("saved", x.count(7), 0);
        EDGES.due("the buffer stays", x.clearBuffer(), text.length());
    }

    private static void endsTooEarly() {
        String[] texts = {"0", "0:", "0:-", "0:5,", "0:5,-", "0:5;", "0:0,", "0:0;", "d", "l", "x", "d0;", "d0;1", "d0;1:",
            "d0;l", "0:5,6,", FULL.substring(0, 59), FULL.substring(0, 58) + ";d"};
        for (String text : texts) {
            dueNoTalk(text);
        }
    }

    private static void hasErrors() {
        String[] texts = {"3:1", "d3", "d0,d0", "0:5;;d0", "0:00", "0:-0", "0:05", "0:2001", "0:-2001", "0:5,2001",
            "0:4294967297", "!", "d0!", "0:5!d0", ";d0", "dd0", "0:1:2"};
        for (String text : texts) {
            dueNoTalk(text);
        }
    }

    private static void shortestAndLongest() {
        EDGES.due("d0", Texts.typed("d0").talk(), 0);
        EDGES.due("0:0", Texts.typed("0:0").talk(), 1);
        EDGES.due("0:5", Texts.typed("0:5").talk(), 1);
        EDGES.due("0:-5", Texts.typed("0:-5").talk(), 1);
        EDGES.due("60 characters", Texts.typed(FULL).talk(), 29);
        EDGES.due("60 characters that end with a deed", Texts.typed("0:1" + ",1".repeat(27) + ";d0").talk(), 29);
    }

    private static void refusedTexts() {
        FoldedVoices x = Texts.typed("0:5");
        x.append(',');
        EDGES.dueThrow("it ends too early", ARGUMENT, x::talk);
        x.append('6');
        EDGES.due("now it is complete", x.talk(), 2);
    }

    private static void talksAreDone() {
        EDGES.edge(11, "as say(), deliver(), lose() and swap() do, one deed after the other", TextEdgesTest::asTheCallsDo);
        EDGES.edge(11, "(each sample is a deed of its own)", TextEdgesTest::eachSampleIsADeed);
        EDGES.edge(11, "Does what the buffer tells .. (the farthest samples, and 0)", TextEdgesTest::farthestSamples);
        EDGES.edge(11, "and clears the buffer", TextEdgesTest::clearsTheBuffer);
        EDGES.edge(11, "Undoable, as one call", TextEdgesTest::undoableAsOneCall);
        EDGES.edge(11, "also if none is done", TextEdgesTest::undoableIfNoneIsDone);
        EDGES.edge(11, "Returns how many deeds are done.", TextEdgesTest::countsDeeds);
    }

    private static void asTheCallsDo() {
        FoldedVoices x = new FoldedVoices();
        FoldedVoices y = new FoldedVoices();
        x.set(2, 1);
        y.set(2, 1);
        Texts.type(x, "0:14,-5,700,9;x0;d0;l0;d0;2:-30;d2");
        x.talk();
        int[] samples = {14, -5, 700, 9};
        for (int sample : samples) {
            y.say(0, sample);
        }
        y.swap(0);
        y.deliver(0);
        y.lose(0);
        y.deliver(0);
        y.say(2, -30);
        y.deliver(2);
        // The buffer is empty in both, and the saved states are brought to the same number.
        for (int i = 0; i < 6; i++) {
            x.set(1, 0);
            y.set(1, 0);
        }
        EDGES.due("the digest", x.digest(), y.digest());
        EDGES.due("missing", x.hearing(0, 5), 1);
        EDGES.due("lost", x.hearing(0, 11), 1);
    }

    private static void eachSampleIsADeed() {
        EDGES.due("one", Texts.typed("0:5").talk(), 1);
        EDGES.due("three", Texts.typed("0:5,6,7").talk(), 3);
        FoldedVoices x = new FoldedVoices();
        x.set(0, 4);
        Texts.type(x, "0:5,6,7");
        EDGES.due("three without a code", x.talk(), 3);
        EDGES.due("samples", x.count(0), 3);
        EDGES.due("their sum", x.saying(0, 4), 18);
    }

    private static void farthestSamples() {
        FoldedVoices x = new FoldedVoices();
        x.set(0, 4);
        Texts.type(x, "0:2000,0,1;1:-2000,-1;2:-1999,1999,999");
        EDGES.due("deeds", x.talk(), 8);
        EDGES.due("the sum of 0", x.saying(0, 4), 2001);
        EDGES.due("the sum of 1", x.saying(1, 4), -2001);
        EDGES.due("the sum of 2", x.saying(2, 4), 999);
    }

    private static void clearsTheBuffer() {
        FoldedVoices x = Texts.typed("0:5");
        x.talk();
        EDGES.due("all done", x.clearBuffer(), 0);
        Texts.type(x, "d0;0:5");
        x.talk();
        EDGES.due("stopped at the first", x.clearBuffer(), 0);
        Texts.type(x, FULL);
        x.talk();
        EDGES.due("a full one", x.append('d'), 1);
    }

    private static void undoableAsOneCall() {
        FoldedVoices x = new FoldedVoices();
        x.set(2, 1);
        long before = x.digest();
        Texts.type(x, "0:1,2,3,4;x0;d0;l0;d0;1:5");
        EDGES.due("deeds", x.talk(), 9);
        EDGES.due("saved", x.count(7), 2);
        EDGES.due("left", x.undo(), 1);
        EDGES.due("the digest", x.digest(), before);
    }

    private static void undoableIfNoneIsDone() {
        FoldedVoices x = Texts.typed("d0");
        EDGES.due("deeds", x.talk(), 0);
        EDGES.due("saved", x.count(7), 1);
        EDGES.due("left", x.undo(), 0);
        EDGES.dueThrow("none is left", STATE, x::undo);
        EDGES.due("the text does not come back", x.clearBuffer(), 0);
    }

    private static void countsDeeds() {
        FoldedVoices x = new FoldedVoices();
        x.set(2, 1);
        Texts.type(x, "0:1,2");
        EDGES.due("two samples", x.talk(), 2);
        Texts.type(x, "x0");
        EDGES.due("a swap", x.talk(), 1);
        Texts.type(x, "d0;l0");
        EDGES.due("one that comes and one that gets lost", x.talk(), 2);
        Texts.type(x, "1:1,2;d1;2:1;d2;l1;l1;0:3");
        EDGES.due("up to the one that throws", x.talk(), 6);
    }

    private static void talksStop() {
        EDGES.edge(11, "up to the first one that would throw an exception (no packet comes)", () -> dueStop("d0", 0));
        EDGES.edge(11, "up to the first one that would throw an exception (none gets lost)", () -> dueStop("l0", 0));
        EDGES.edge(11, "up to the first one that would throw an exception (no packets change places)",
                () -> dueStop("x0", 0));
        EDGES.edge(11, "up to the first one that would throw an exception (one packet cannot change places)",
                () -> dueStop("x0", 1));
        EDGES.edge(11, "up to the first one that would throw an exception (the wire is full)", TextEdgesTest::fullWires);
        EDGES.edge(11, "up to the first one that would throw an exception (what is ahead of it stays done)",
                TextEdgesTest::aheadOfTheStop);
    }

    /** In the voice 0 so many packets wait; the deed is refused, and what is behind it is not done. */
    private static void dueStop(String deed, int waiting) {
        FoldedVoices x = new FoldedVoices();
        x.set(2, 1);
        for (int i = 0; i < waiting; i++) {
            x.say(0, 14);
        }
        Texts.type(x, "1:5;" + deed + ";1:6;d1");
        EDGES.due("deeds", x.talk(), 1);
        EDGES.due("samples", x.count(0), waiting + 1);
        EDGES.due("the one of the voice 1 waits", x.saying(1, 9), 1);
        EDGES.due("those of the voice 0 wait", x.saying(0, 9), waiting);
        EDGES.due("lost", x.count(4), 0);
        x.say(0, 14);
        if (deed.equals("x0")) {
            x.say(0, 14);
        }
        Texts.type(x, deed);
        EDGES.due("the same deed with packets enough", x.talk(), 1);
    }

    private static void fullWires() {
        FoldedVoices x = new FoldedVoices();
        x.set(2, 1);
        Texts.type(x, "1:1,1,1,1,1,1,1,1,1,1;0:1");
        EDGES.due("eight of ten", x.talk(), 8);
        EDGES.due("eight wait", x.saying(1, 9), 8);
        EDGES.due("nothing is gathered", x.saying(1, 3) + x.saying(1, 5), 0);
        EDGES.due("the voice 0 said nothing", x.saying(0, 7), 0);
        x.set(2, 2);
        Texts.type(x, "1:1,1;0:1");
        EDGES.due("one without a packet", x.talk(), 1);
        EDGES.due("its code is gathered", x.saying(1, 5), 1);
    }

    private static void aheadOfTheStop() {
        FoldedVoices x = new FoldedVoices();
        x.set(2, 1);
        long before = x.digest();
        Texts.type(x, "0:14,14;d0;l0;d0;0:14");
        EDGES.due("deeds", x.talk(), 4);
        EDGES.due("came", x.count(5), 1);
        EDGES.due("lost", x.count(4), 1);
        EDGES.due("samples", x.count(0), 2);
        EDGES.due("saved", x.count(7), 2);
        x.undo();
        EDGES.due("undone, all of it", x.digest(), before);
    }
}

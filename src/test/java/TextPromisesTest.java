/** Promises 8 to 14: the buffer, talks, the snapshot and undo. */
public final class TextPromisesTest {
    private static final Class<IllegalArgumentException> ARGUMENT = IllegalArgumentException.class;
    private static final Class<IllegalStateException> STATE = IllegalStateException.class;
    private static final Check CHECK = new Check("TextPromisesTest");

    private TextPromisesTest() {
    }

    public static void main(String[] args) {
        promise8();
        promise9();
        promise10();
        promise10EachCharacter();
        promise10BeyondSamples();
        promise11();
        promise11Stops();
        promise11Throws();
        promise12And13();
        promise14();
        promise14Drops();
        CHECK.end();
    }

    private static void promise8() {
        FoldedVoices x = new FoldedVoices();
        CHECK.due("8: append(33)", x.append(33), 1);
        CHECK.due("8: append(126)", x.append(126), 2);
        CHECK.dueThrow("8: append(32)", x, ARGUMENT, () -> x.append(32));
        CHECK.dueThrow("8: append(127)", x, ARGUMENT, () -> x.append(127));
        CHECK.dueThrow("8: append(-1)", x, ARGUMENT, () -> x.append(-1));
        CHECK.dueThrow("8: append(65584)", x, ARGUMENT, () -> x.append(65536 + '0'));
        for (int i = 3; i <= 60; i++) {
            CHECK.due("8: append", x.append('0'), i);
        }
        CHECK.dueThrow("8: full", x, STATE, () -> x.append('0'));
        CHECK.dueThrow("8: no character ahead of full", x, ARGUMENT, () -> x.append(127));
        CHECK.due("8: nothing is saved", x.count(7), 0);
    }

    private static void promise9() {
        FoldedVoices x = Texts.typed("0:5,6");
        CHECK.due("9: clearBuffer", x.clearBuffer(), 5);
        CHECK.due("9: again", x.clearBuffer(), 0);
        CHECK.due("9: append behind it", x.append('1'), 1);
        CHECK.due("9: firstError behind it", x.firstError(), 1);
        CHECK.due("9: nothing is saved", x.count(7), 0);
    }

    private static void dueFirstError(String text, int due) {
        FoldedVoices x = Texts.typed(text);
        CHECK.due("10: firstError of " + text, x.firstError(), due);
        CHECK.due("10: the buffer stays, of " + text, x.clearBuffer(), text.length());
    }

    private static void promise10() {
        String[] right = {"", "0", "2:", "1:-", "1:0", "0:-5", "0:10,", "0:5;", "d", "d0", "x2;", "l1;0:1,-20;d2",
            "0:2000,-2000", "2:1999,-1999,999,-1000;2:200", "1:200,2000;1:-200", "0:0,0,0;x0"};
        for (String text : right) {
            dueFirstError(text, text.length());
        }
        Object[][] wrong = {{"3", 0}, {":", 0}, {";", 0}, {"D0", 0}, {"-1", 0}, {",", 0}, {"00", 1}, {"0;", 1}, {"0,", 1},
            {"d3", 1}, {"d:", 1}, {"dd", 1}, {"d;", 1}, {"0:-0", 3}, {"0:00", 3}, {"0:01", 3}, {"0:--", 3},
            {"0:,", 2}, {"0:;", 2}, {"0:d", 2}, {"0:5:", 3}, {"0:5d", 3}, {"0:5-", 3}, {"0:0-", 3}, {"0:-,", 3},
            {"0:-;", 3}, {"0:5,,", 4}, {"0:5,;", 4}, {"0:5;;", 4}, {"0:5;3", 4}, {"d00", 2}, {"d0,", 2}, {"d0d", 2},
            {"d0:", 2}, {"0:5,d", 4}, {"0:5,1:", 5}, {"l2;s", 3}, {"0:+1", 2}, {"x2;;0:1", 3}, {"~~~", 0},
            {"0:1~2", 3}};
        for (Object[] row : wrong) {
            dueFirstError((String) row[0], (Integer) row[1]);
        }
        String full = "0:1" + ",1".repeat(28) + ",";
        dueFirstError(full, 60);
    }

    /** What stands in a text are samples: a number beyond them is none, nor does one begin with it. */
    private static void promise10BeyondSamples() {
        Object[][] wrong = {{"0:2001", 5}, {"0:-2001", 6}, {"1:2010", 5}, {"2:2100", 5}, {"0:3000", 5}, {"0:-9999", 6},
            {"0:20000", 6}, {"0:-20000", 7}, {"0:10000", 6}, {"0:19999", 6}, {"0:2001,5", 5}, {"0:1,2001;d0", 7},
            {"d0;2:-2005", 9}, {"0:5;1:2009", 9}, {"0:4294967296", 5}, {"0:-4294967295", 6},
            {"0:18446744073709551617", 6}, {"0:" + "9".repeat(58), 5}, {"0:2001;9", 5}};
        for (Object[] row : wrong) {
            dueFirstError((String) row[0], (Integer) row[1]);
        }
        for (int number = 0; number <= 21000; number++) {
            String text = "1:" + number;
            int fourDigits = number > 9999 ? number / 10 : number;
            dueFirstError(text, fourDigits > 2000 ? 5 : number > 2000 ? 6 : text.length());
        }
    }

    private static void promise10EachCharacter() {
        String[] heads = {"", "1", "1:", "1:-", "1:0", "1:7", "d", "d1", "d1;", "1:7,", "1:7;",
            "1:20", "1:199", "1:200", "1:-200", "1:201", "1:999", "1:1999", "1:2000", "1:-2000", "2:2000,200"};
        String[] next = {"012dlx", ":", "-0123456789", "123456789", ",;", "0123456789,;", "012", ";", "012dlx",
            "-0123456789", "012dlx",
            "0123456789,;", "0123456789,;", "0,;", "0,;", ",;", ",;", ",;", ",;", ",;", "0,;"};
        for (int i = 0; i < heads.length; i++) {
            for (int sign = 33; sign <= 126; sign++) {
                FoldedVoices x = Texts.typed(heads[i]);
                x.append(sign);
                int due = heads[i].length() + (next[i].indexOf(sign) >= 0 ? 1 : 0);
                CHECK.due("10: firstError of " + heads[i] + (char) sign, x.firstError(), due);
            }
        }
    }

    private static void promise11() {
        FoldedVoices x = Texts.typed("1:14,-5,0;2:100");
        CHECK.due("11: four samples", x.talk(), 4);
        FoldedVoices y = new FoldedVoices();
        y.say(1, 14);
        y.say(1, -5);
        y.say(1, 0);
        y.say(2, 100);
        x.undo();
        CHECK.due("11: undone as one call", x.count(0), 0);
        Texts.type(x, "1:14,-5,0;2:100");
        x.talk();
        for (int voice = 0; voice < 3; voice++) {
            for (int what = 0; what <= 9; what++) {
                CHECK.due("11: as say() does", x.saying(voice, what), y.saying(voice, what));
            }
        }
        CHECK.due("11: the buffer is cleared", x.clearBuffer(), 0);
        CHECK.due("11: saved once", x.count(7), 1);
        FoldedVoices two = new FoldedVoices();
        two.set(2, 1);
        Texts.type(two, "2:1,2;x2;d2");
        CHECK.due("11: just two wait", two.talk(), 4);
        CHECK.due("11: the second came", two.hearing(2, 3), 2);
        deliversLosesAndSwaps();
    }

    private static void deliversLosesAndSwaps() {
        FoldedVoices x = new FoldedVoices();
        x.set(2, 1);
        Texts.type(x, "0:1,2,3,4;x0;d0;l0;d0;2:-2000;d2");
        CHECK.due("11: all deeds", x.talk(), 10);
        CHECK.due("11: awaited", x.hearing(0, 3), 3);
        CHECK.due("11: missing", x.hearing(0, 5), 1);
        CHECK.due("11: lost", x.hearing(0, 11), 1);
        CHECK.due("11: one waits", x.packet(0, 0, 0), 3);
        CHECK.due("11: heard in another voice", x.hearing(2, 0), -15);
        CHECK.due("11: samples", x.count(0), 5);
        x.undo();
        CHECK.due("11: undone", x.count(0), 0);
        CHECK.due("11: settings stay", x.setting(2), 1);
        CHECK.due("11: the text does not come back", x.firstError(), 0);
    }

    private static void promise11Stops() {
        FoldedVoices x = Texts.typed("d0");
        CHECK.due("11: nothing to deliver", x.talk(), 0);
        CHECK.due("11: saved, though none is done", x.count(7), 1);
        CHECK.due("11: cleared, though none is done", x.clearBuffer(), 0);
        Object[][] rows = {{"l0;0:1", 0}, {"x0;0:1", 0}, {"0:1;d0;0:2", 1}, {"0:5,-2000,6;d0", 3},
            {"0:2000,-2000,0", 3},
            {"0:1,1,1,1;x0;d0", 4}, {"0:1,1,1,1;d1", 4}, {"0:1,1,1,1;l2", 4}, {"1:1,1,1,1;d1;d1", 5}};
        for (Object[] row : rows) {
            FoldedVoices y = Texts.typed((String) row[0]);
            CHECK.due("11: deeds of " + row[0], y.talk(), (Integer) row[1]);
            CHECK.due("11: saved by " + row[0], y.count(7), 1);
            CHECK.due("11: cleared by " + row[0], y.clearBuffer(), 0);
        }
        FoldedVoices z = new FoldedVoices();
        z.set(2, 1);
        Texts.type(z, "1:1,1,1,1,1,1,1,1,1;0:1");
        CHECK.due("11: up to the full wire", z.talk(), 8);
        CHECK.due("11: nothing behind it", z.saying(0, 7), 0);
        Texts.type(z, "x1;d1;1:1");
        CHECK.due("11: room again", z.talk(), 3);
        CHECK.due("11: one was missing", z.hearing(1, 5), 1);
        String full = "0:1" + ",1".repeat(27) + ";x0";
        FoldedVoices w = Texts.typed(full);
        CHECK.due("11: a full buffer", w.talk(), 29);
    }

    private static void promise11Throws() {
        String[] texts = {"", "0", "0:", "0:-", "0:5,", "0:5;", "d", "d0;", "d0;0", "0:-0", "3:1", "0:5 ",
            "0:2001", "0:-2001", "0:2001,5", "0:5,-2001,6", "1:1;0:2001;d0", "0:10000", "0:99999", "0:4294967296,5",
            "0:-4294967295,5", "0:18446744073709551617"};
        for (String text : texts) {
            FoldedVoices x = Texts.typed(text.trim());
            if (text.endsWith(" ")) {
                x.append('!');
            }
            CHECK.dueThrow("11: talk of " + text, x, ARGUMENT, x::talk);
            CHECK.due("11: the buffer stays", x.clearBuffer(), text.length());
            CHECK.due("11: nothing is saved", x.count(7), 0);
        }
    }

    private static void promise12And13() {
        FoldedVoices x = new FoldedVoices();
        CHECK.due("12: keep at first", x.keep(), 0);
        x.say(0, 14);
        x.set(0, 2);
        Texts.type(x, "d0");
        CHECK.due("13: goBack", x.goBack(), 0);
        CHECK.due("13: the guess", x.saying(0, 0), 0);
        CHECK.due("13: the setting", x.setting(0), 1);
        CHECK.due("13: the buffer stays", x.firstError(), 2);
        CHECK.due("13: saved", x.count(7), 3);
        CHECK.due("13: undo", x.undo(), 2);
        CHECK.due("13: the guess behind undo", x.saying(0, 0), 15);
        CHECK.due("12: in place of the one that was", x.keep(), 1);
        CHECK.due("12: nothing is saved", x.count(7), 2);
        x.say(0, 14);
        x.say(0, 14);
        CHECK.due("13: goBack to the newer", x.goBack(), 1);
        x.say(0, 2000);
        CHECK.due("13: the snapshot stays", x.goBack(), 1);
        CHECK.due("13: it is not changed", x.saying(0, 0), 15);
        x.undo();
        x.undo();
        x.undo();
        x.undo();
        CHECK.due("12: undo does not touch it", x.goBack(), 1);
        FoldedVoices y = new FoldedVoices();
        y.say(0, 14);
        y.undo();
        CHECK.dueThrow("13: no snapshot", y, STATE, y::goBack);
        y.set(0, 2);
        y.say(0, 14);
        y.say(0, 14);
        y.say(1, 14);
        CHECK.due("12: samples, not codes", y.keep(), 3);
        y.say(1, 14);
        CHECK.due("13: samples, not codes", y.goBack(), 3);
        keepsAll();
    }

    /** Something of each kind stands in the state, and comes back as it was. */
    private static void keepsAll() {
        FoldedVoices x = new FoldedVoices();
        x.set(0, 2);
        x.set(1, 5);
        x.set(2, 2);
        x.set(3, 2);
        Texts.type(x, "1:50,60,-70,80,90,100,-110,120,130,140,2,150;x1;d1;d1");
        x.talk();
        Texts.type(x, "1:5,7,9;2:9,8,7,6,5,4,3,2,1;l2;0:1");
        x.talk();
        x.keep();
        long before = x.digest();
        Texts.type(x, "d1;1:500,600,-700,800,900,1000,-110,0;d1;l1;d2;2:9,8");
        x.talk();
        x.flush(2);
        x.set(0, 4);
        x.set(1, 9);
        CHECK.note(x.digest() != before, "12: the digest should be another one");
        x.goBack();
        CHECK.due("13: all as it was, six states saved too", x.digest(), before);
    }

    private static void promise14() {
        FoldedVoices x = new FoldedVoices();
        CHECK.dueThrow("14: none is saved", x, STATE, x::undo);
        long[] digests = new long[6];
        Runnable[] deeds = {() -> x.set(2, 1), () -> x.say(0, 14), () -> x.say(0, 500), () -> x.swap(0),
            () -> x.deliver(0), () -> x.lose(0)};
        for (int i = 0; i < deeds.length; i++) {
            digests[i] = x.digest();
            deeds[i].run();
            CHECK.due("14: saved", x.count(7), i + 1);
        }
        for (int i = deeds.length - 1; i >= 0; i--) {
            CHECK.due("14: left", x.undo(), i);
            CHECK.due("14: the state " + i, x.digest(), digests[i]);
        }
        CHECK.dueThrow("14: none is left", x, STATE, x::undo);
        restoresWhatSamplesAndHeadsLeave();
        FoldedVoices y = new FoldedVoices();
        y.append('0');
        y.keep();
        y.say(0, 14);
        y.append(':');
        y.keep();
        y.undo();
        CHECK.due("14: the buffer stays", y.clearBuffer(), 2);
        CHECK.due("14: the snapshot stays", y.goBack(), 1);
    }

    private static void restoresWhatSamplesAndHeadsLeave() {
        FoldedVoices x = new FoldedVoices();
        x.set(0, 3);
        x.say(0, 14);
        x.say(0, 20);
        x.undo();
        CHECK.due("14: gathered samples", x.saying(0, 3), 1);
        CHECK.due("14: their sum", x.saying(0, 4), 14);
        FoldedVoices y = new FoldedVoices();
        y.set(2, 1);
        Texts.type(y, "0:1,2,3");
        y.talk();
        y.say(0, 4);
        CHECK.due("14: the fourth packet has a head", y.packet(0, 3, 2), 1);
        y.undo();
        y.say(0, 4);
        CHECK.due("14: and has it again", y.packet(0, 3, 2), 1);
        y.say(0, 5);
        CHECK.due("14: the fifth has none", y.packet(0, 4, 2), 0);
    }

    private static void promise14Drops() {
        FoldedVoices x = new FoldedVoices();
        for (int i = 1; i <= 9; i++) {
            x.set(1, i);
        }
        CHECK.due("14: at most six", x.count(7), 6);
        for (int i = 8; i >= 3; i--) {
            CHECK.due("14: undo", x.undo(), i - 3);
            CHECK.due("14: the oldest ones were dropped", x.setting(1), i);
        }
        CHECK.dueThrow("14: none is left", x, STATE, x::undo);
        x.set(1, 50);
        x.set(1, 60);
        x.undo();
        CHECK.due("14: saved again", x.setting(1), 50);
    }
}

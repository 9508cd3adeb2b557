import java.util.ArrayList;
import java.util.List;
import java.util.function.Consumer;

/** Edges of the snapshot and of undo: promises 12 to 14, and "Undo" of the terms. */
public final class UndoEdgesTest {
    private static final Class<IllegalStateException> STATE = IllegalStateException.class;
    private static final Edges EDGES = new Edges("UndoEdgesTest");

    private UndoEdgesTest() {
    }

    public static void main(String[] args) {
        snapshots();
        goingBack();
        whatIsSaved();
        whatIsNotSaved();
        howManyAreSaved();
        whatComesBack();
        EDGES.end();
    }

    private static void snapshots() {
        EDGES.edge(12, "Returns how many samples were said so far.", UndoEdgesTest::samplesAtTheSnapshot);
        EDGES.edge(12, "in place of the one that was", UndoEdgesTest::inPlaceOfTheOneThatWas);
        EDGES.edge(12, "Takes a snapshot of the state (and saves none)", UndoEdgesTest::snapshotsSaveNothing);
        EDGES.edge(12, "(of all that undo() would restore) (not the buffer, not the saved states)",
                UndoEdgesTest::notInTheSnapshot);
    }

    private static void samplesAtTheSnapshot() {
        FoldedVoices x = new FoldedVoices();
        EDGES.due("none", x.keep(), 0);
        x.set(0, 2);
        x.say(0, 5);
        EDGES.due("one, without a code", x.keep(), 1);
        x.say(2, 5);
        x.say(0, 5);
        EDGES.due("three, of two voices", x.keep(), 3);
        x.undo();
        EDGES.due("two behind undo", x.keep(), 2);
    }

    private static void inPlaceOfTheOneThatWas() {
        FoldedVoices x = new FoldedVoices();
        x.say(0, 14);
        x.keep();
        x.say(0, 14);
        x.keep();
        x.say(0, 14);
        EDGES.due("the newer one", x.goBack(), 2);
        EDGES.due("the newer one still", x.goBack(), 2);
    }

    private static void snapshotsSaveNothing() {
        FoldedVoices x = new FoldedVoices();
        x.keep();
        EDGES.due("saved", x.count(7), 0);
        EDGES.dueThrow("none is saved", STATE, x::undo);
        x.say(0, 14);
        x.keep();
        EDGES.due("saved", x.count(7), 1);
        x.undo();
        EDGES.due("the state ahead of say()", x.count(0), 0);
    }

    private static void notInTheSnapshot() {
        FoldedVoices x = Texts.typed("d0");
        x.say(0, 14);
        x.keep();
        x.append(';');
        x.say(0, 14);
        x.say(0, 14);
        x.goBack();
        EDGES.due("saved", x.count(7), 4);
        EDGES.due("the buffer", x.clearBuffer(), 3);
        x.goBack();
        EDGES.due("the buffer stays cleared", x.clearBuffer(), 0);
    }

    private static void goingBack() {
        EDGES.edge(13, "Throws `IllegalStateException` if there is no snapshot", UndoEdgesTest::noSnapshot);
        EDGES.edge(13, "Goes back to the snapshot, which stays.", UndoEdgesTest::theSnapshotStays);
        EDGES.edge(13, "Returns how many samples were said so far then.", UndoEdgesTest::samplesThen);
        EDGES.edge(13, "Goes back to the snapshot (of a new object)", UndoEdgesTest::snapshotOfANewObject);
        EDGES.edge(13, "Undoable.", UndoEdgesTest::goingBackIsUndoable);
        EDGES.edge(13, "Undoable. (also if it changes nothing)", UndoEdgesTest::goingBackToTheSame);
    }

    private static void noSnapshot() {
        FoldedVoices x = new FoldedVoices();
        EDGES.dueThrow("a new object", STATE, x::goBack);
        x.say(0, 14);
        x.undo();
        EDGES.dueThrow("undo() takes none", STATE, x::goBack);
        x.keep();
        EDGES.due("there is one", x.goBack(), 0);
    }

    private static void theSnapshotStays() {
        FoldedVoices x = new FoldedVoices();
        x.say(0, 14);
        x.keep();
        long kept = x.digest();
        for (int i = 0; i < 3; i++) {
            x.say(0, 500);
            x.flush(0);
            x.deliver(0);
            x.goBack();
            x.undo();
            x.undo();
            x.undo();
            x.undo();
            EDGES.due("back by undo()", x.digest(), kept);
            x.say(1, 500);
            EDGES.due("goBack()", x.goBack(), 1);
            x.undo();
            x.undo();
            EDGES.due("back by undo()", x.digest(), kept);
        }
    }

    private static void samplesThen() {
        FoldedVoices x = new FoldedVoices();
        x.say(0, 14);
        x.say(1, 14);
        x.keep();
        x.say(2, 14);
        EDGES.due("two, not three", x.goBack(), 2);
        EDGES.due("count(0)", x.count(0), 2);
        x.undo();
        EDGES.due("three again", x.count(0), 3);
    }

    private static void snapshotOfANewObject() {
        FoldedVoices x = new FoldedVoices();
        x.keep();
        x.set(0, 4);
        x.say(0, 14);
        EDGES.due("goBack()", x.goBack(), 0);
        EDGES.due("the rate", x.setting(0), 1);
        EDGES.due("samples", x.saying(0, 3), 0);
        EDGES.due("saved", x.count(7), 3);
    }

    private static void goingBackIsUndoable() {
        FoldedVoices x = new FoldedVoices();
        x.keep();
        x.say(0, 14);
        long before = x.digest();
        x.goBack();
        EDGES.due("left", x.undo(), 1);
        EDGES.due("the digest", x.digest(), before);
    }

    private static void goingBackToTheSame() {
        FoldedVoices x = new FoldedVoices();
        x.keep();
        x.goBack();
        x.goBack();
        EDGES.due("saved", x.count(7), 2);
        EDGES.due("left", x.undo(), 1);
    }

    /** Each kind of deed, on an object on which it can be done. */
    private static List<Consumer<FoldedVoices>> deeds() {
        List<Consumer<FoldedVoices>> deeds = new ArrayList<>();
        deeds.add(x -> x.say(0, 30));
        deeds.add(x -> x.flush(0));
        deeds.add(x -> x.deliver(1));
        deeds.add(x -> x.lose(1));
        deeds.add(x -> x.swap(1));
        deeds.add(x -> x.set(1, 7));
        deeds.add(x -> {
            Texts.type(x, "0:5;d1");
            x.talk();
        });
        deeds.add(FoldedVoices::goBack);
        return deeds;
    }

    private static final String[] DEEDS = {"say", "flush", "deliver", "lose", "swap", "set", "talk", "goBack"};
    private static final int[] PROMISES = {2, 3, 4, 5, 6, 7, 11, 13};

    private static FoldedVoices ready() {
        FoldedVoices x = new FoldedVoices();
        x.keep();
        x.set(2, 1);
        Texts.type(x, "1:14,500,-30,2");
        x.talk();
        x.set(2, 4);
        x.say(0, 100);
        return x;
    }

    private static void whatIsSaved() {
        for (int i = 0; i < DEEDS.length; i++) {
            Consumer<FoldedVoices> deed = deeds().get(i);
            EDGES.edge(PROMISES[i], "Undoable. (" + DEEDS[i] + ")", () -> undone(deed));
        }
        EDGES.edge(14, "(also if it changes nothing)", UndoEdgesTest::settingTheSame);
        EDGES.edge(14, "Each method that is marked \"undoable\" and does not throw an exception saves the state",
                UndoEdgesTest::refusedCallsSaveNothing);
    }

    private static void undone(Consumer<FoldedVoices> deed) {
        FoldedVoices x = ready();
        long before = x.digest();
        deed.accept(x);
        EDGES.due("saved", x.count(7), 5);
        EDGES.note(x.digest() != before, "the digest should be another one");
        EDGES.due("left", x.undo(), 4);
        EDGES.due("the digest", x.digest(), before);
        EDGES.due("left", x.undo(), 3);
    }

    private static void settingTheSame() {
        FoldedVoices x = new FoldedVoices();
        for (int setting = 0; setting < 4; setting++) {
            x.set(setting, x.setting(setting));
            EDGES.due("saved", x.count(7), setting + 1);
        }
        Texts.type(x, "d0");
        x.talk();
        EDGES.due("saved by a talk without a deed", x.count(7), 5);
    }

    private static void refusedCallsSaveNothing() {
        FoldedVoices x = new FoldedVoices();
        Runnable[] refused = {() -> x.say(0, 2001), () -> x.flush(0), () -> x.deliver(0), () -> x.lose(0), () -> x.swap(0),
            () -> x.set(0, 5), x::talk, x::goBack, x::undo};
        for (Runnable call : refused) {
            EDGES.note(!Check.thrownBy(call).equals("nothing"), "the call should throw");
            EDGES.due("saved", x.count(7), 0);
        }
    }

    private static void whatIsNotSaved() {
        EDGES.edge(14, "saves the state from before it: all .. but the buffer", UndoEdgesTest::theBufferIsNotSaved);
        EDGES.edge(14, "saves the state from before it: all .. but .. the snapshot", UndoEdgesTest::theSnapshotIsNotSaved);
        EDGES.edge(14, "Each method that is marked \"undoable\" (the other ones save nothing)",
                UndoEdgesTest::othersSaveNothing);
    }

    private static void theBufferIsNotSaved() {
        FoldedVoices x = Texts.typed("0:5");
        x.say(0, 14);
        Texts.type(x, ",6");
        x.undo();
        EDGES.due("the buffer", x.clearBuffer(), 5);
        x.set(0, 2);
        x.undo();
        EDGES.due("the buffer stays cleared", x.clearBuffer(), 0);
    }

    private static void theSnapshotIsNotSaved() {
        FoldedVoices x = new FoldedVoices();
        x.say(0, 14);
        x.keep();
        x.undo();
        EDGES.due("taken behind the deed that is undone", x.goBack(), 1);
        x.set(0, 2);
        x.say(1, 5);
        x.keep();
        x.undo();
        x.undo();
        EDGES.due("not the one that was", x.goBack(), 2);
    }

    private static void othersSaveNothing() {
        FoldedVoices x = ready();
        long before = x.digest();
        x.append('d');
        x.firstError();
        x.keep();
        x.clearBuffer();
        x.digest();
        x.code(0, 100, 3);
        x.settles(0, 100, 3);
        x.why(1);
        x.ifDelivered(1, 0);
        EDGES.due("the digest", x.digest(), before);
        EDGES.due("saved", x.count(7), 4);
        x.undo();
        EDGES.due("undo() saves nothing", x.count(7), 3);
    }

    private static void howManyAreSaved() {
        EDGES.edge(14, "At most 6 states are saved", UndoEdgesTest::sixStates);
        EDGES.edge(14, "the oldest one is dropped first", UndoEdgesTest::oldestIsDropped);
        EDGES.edge(14, "the oldest one is dropped first (round and round)", UndoEdgesTest::droppedAgainAndAgain);
        EDGES.edge(14, "Returns how many saved states are left.", UndoEdgesTest::howManyAreLeft);
        EDGES.edge(14, "Throws `IllegalStateException` if there is none", UndoEdgesTest::noneIsSaved);
    }

    private static void sixStates() {
        FoldedVoices x = new FoldedVoices();
        for (int i = 1; i <= 9; i++) {
            x.set(1, i);
            EDGES.due("saved", x.count(7), Math.min(6, i));
        }
    }

    private static void oldestIsDropped() {
        FoldedVoices six = new FoldedVoices();
        FoldedVoices seven = new FoldedVoices();
        for (int i = 1; i <= 6; i++) {
            six.set(1, i);
            seven.set(1, i);
        }
        seven.set(1, 7);
        for (int i = 0; i < 6; i++) {
            six.undo();
            seven.undo();
        }
        EDGES.due("six deeds: the first state", six.setting(1), 0);
        EDGES.due("seven deeds: the second state", seven.setting(1), 1);
        EDGES.dueThrow("none is left of six", STATE, six::undo);
        EDGES.dueThrow("none is left of seven", STATE, seven::undo);
    }

    private static void droppedAgainAndAgain() {
        FoldedVoices x = new FoldedVoices();
        long[] digests = new long[40];
        for (int i = 0; i < digests.length; i++) {
            digests[i] = withoutSaved(x);
            x.say(i % 3, 100 * i - 2000);
            if (i % 5 == 4) {
                x.undo();
                EDGES.due("undone at once", withoutSaved(x), digests[i]);
                x.say(i % 3, 100 * i - 2000);
            }
        }
        for (int i = 1; i <= 6; i++) {
            x.undo();
            EDGES.due("undone " + i, withoutSaved(x), digests[digests.length - i]);
        }
    }

    /** A hash of what the ends tell, whatever is saved. */
    private static long withoutSaved(FoldedVoices x) {
        long hash = 0;
        for (int voice = 0; voice < 3; voice++) {
            hash = 31 * hash + x.saying(voice, 0);
            hash = 31 * hash + x.saying(voice, 7);
        }
        return hash;
    }

    private static void howManyAreLeft() {
        FoldedVoices x = new FoldedVoices();
        for (int i = 0; i < 8; i++) {
            x.set(1, i);
        }
        for (int left = 5; left >= 0; left--) {
            EDGES.due("left", x.undo(), left);
            EDGES.due("saved", x.count(7), left);
        }
    }

    private static void noneIsSaved() {
        FoldedVoices x = new FoldedVoices();
        EDGES.dueThrow("a new object", STATE, x::undo);
        x.set(1, 1);
        EDGES.due("one is", x.undo(), 0);
        EDGES.dueThrow("it is dropped", STATE, x::undo);
        EDGES.due("the state stays", x.setting(1), 0);
        x.set(1, 2);
        EDGES.due("saved again", x.undo(), 0);
    }

    private static void whatComesBack() {
        EDGES.edge(14, "all, also what is counted so far", UndoEdgesTest::countsComeBack);
        EDGES.edge(14, "Restores the latest saved state (and all goes on as if nothing had been)",
                UndoEdgesTest::goesOnAsIfNothingHadBeen);
        EDGES.edge(13, "Goes back to the snapshot (and all goes on as from there)", UndoEdgesTest::goesOnAsFromTheSnapshot);
        EDGES.edge(14, "Restores the latest saved state (all places of the wire were taken, and taken again)",
                UndoEdgesTest::wiresComeBack);
        EDGES.edge(13, "Goes back to the snapshot, which stays. (all places of the wire were taken, and taken again)",
                UndoEdgesTest::keptWiresComeBack);
    }

    private static void countsComeBack() {
        FoldedVoices x = ready();
        int[] before = counts(x);
        Texts.type(x, "0:5,6,7,8;d1;x1;l1;d1;d0;l1");
        x.talk();
        int[] behind = counts(x);
        x.undo();
        int[] again = counts(x);
        for (int i = 0; i < before.length; i++) {
            EDGES.due("number " + i, again[i], before[i]);
        }
        for (int what = 0; what <= 5; what++) {
            EDGES.note(behind[what] != before[what], "count(" + what + ") should be another one");
        }
    }

    private static int[] counts(FoldedVoices x) {
        int[] counts = new int[6 + 3 * 22];
        int at = 0;
        for (int what = 0; what <= 5; what++) {
            counts[at++] = x.count(what);
        }
        for (int voice = 0; voice < 3; voice++) {
            for (int what = 0; what <= 9; what++) {
                counts[at++] = x.saying(voice, what);
            }
            for (int what = 0; what <= 11; what++) {
                counts[at++] = x.hearing(voice, what);
            }
        }
        return counts;
    }

    /** Much that stands in no look: gathered codes with their means, the place of the latest head, the order of a wire. */
    private static void rich(FoldedVoices x) {
        x.set(2, 1);
        Texts.type(x, "1:500,-70,90,2000,-2000;d1;x1;l1;2:9,8,7;x2");
        x.talk();
        x.set(2, 3);
        x.set(1, 60);
        x.say(1, 59);
        x.say(1, 61);
        x.set(0, 3);
        x.say(1, 10);
        x.say(0, 20);
    }

    private static void stirred(FoldedVoices x) {
        x.set(0, 1);
        x.set(1, 0);
        x.set(3, 1);
        Texts.type(x, "1:-900,800,3,4,5;d1;d1;2:5,5,5;l2;x2;0:1,2,3;d0");
        x.talk();
        x.flush(1);
    }

    private static FoldedVoices withFullWire() {
        FoldedVoices x = new FoldedVoices();
        x.set(2, 1);
        x.set(3, 2);
        for (int i = 0; i < 8; i++) {
            x.say(1, 300 * i - 900);
        }
        return x;
    }

    private static void wiresComeBack() {
        List<Consumer<FoldedVoices>> deeds = List.of(x -> x.lose(1), x -> x.deliver(1), x -> x.swap(1));
        for (Consumer<FoldedVoices> deed : deeds) {
            FoldedVoices x = withFullWire();
            long before = x.digest();
            deed.accept(x);
            x.lose(1);
            x.say(1, 1234);
            x.lose(1);
            x.say(1, -1234);
            for (int i = 0; i < 5; i++) {
                x.undo();
            }
            EDGES.due("saved", x.count(7), 1);
            x.set(0, 1);
            x.set(0, 1);
            x.set(0, 1);
            x.set(0, 1);
            x.set(0, 1);
            EDGES.due("the digest", x.digest(), before);
        }
    }

    private static void keptWiresComeBack() {
        FoldedVoices x = withFullWire();
        x.keep();
        long kept = x.digest();
        for (int i = 0; i < 10; i++) {
            x.lose(1);
            x.say(1, 100 * i);
        }
        x.goBack();
        EDGES.due("the digest", x.digest(), kept);
        for (int i = 0; i < 10; i++) {
            x.deliver(1);
            x.say(1, -100 * i);
        }
        x.goBack();
        EDGES.due("the digest again", x.digest(), kept);
    }

    private static void goesOnAsIfNothingHadBeen() {
        Consumer<FoldedVoices> way = UndoEdgesTest::rich;
        Consumer<FoldedVoices> andBack = x -> {
            rich(x);
            stirred(x);
            for (int i = 0; i < 5; i++) {
                x.undo();
            }
        };
        EDGES.dueText("how it goes on", Twins.toldAhead(andBack), Twins.toldAhead(way));
    }

    private static void goesOnAsFromTheSnapshot() {
        Consumer<FoldedVoices> way = x -> {
            rich(x);
            x.keep();
        };
        Consumer<FoldedVoices> andBack = x -> {
            rich(x);
            x.keep();
            stirred(x);
            x.goBack();
            stirred(x);
            x.goBack();
        };
        EDGES.dueText("how it goes on", Twins.toldAhead(andBack), Twins.toldAhead(way));
    }
}

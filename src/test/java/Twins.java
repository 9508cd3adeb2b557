import java.util.function.Consumer;

/** Two objects that went the same way tell the same: of their past, and however they go on. */
final class Twins {
    private Twins() {
    }

    static FoldedVoices gone(Consumer<FoldedVoices> way) {
        FoldedVoices x = new FoldedVoices();
        way.accept(x);
        return x;
    }

    /** The state, the buffer, all saved states and the snapshot. */
    static String toldBack(Consumer<FoldedVoices> way) {
        FoldedVoices x = gone(way);
        StringBuilder told = new StringBuilder();
        told.append(x.digest()).append(" error ").append(x.firstError());
        for (int i = 0; i < 6 && x.count(7) > 0; i++) {
            x.undo();
            told.append(" saved ").append(x.digest());
        }
        if (Check.thrownBy(x::goBack).equals("nothing")) {
            told.append(" kept ").append(x.digest());
        }
        return told.append(" buffer ").append(x.clearBuffer()).toString();
    }

    /**
     * What stands in no look of today shows itself by what comes: means of codes, the place of the latest head. Six states
     * and more are saved ahead of each digest, so that what was saved before does not tell twins apart.
     */
    static String toldAhead(Consumer<FoldedVoices> way) {
        FoldedVoices x = gone(way);
        StringBuilder told = new StringBuilder();
        told.append(Check.thrownBy(x::talk));
        for (int voice = 0; voice < 3; voice++) {
            goOn(x, voice, told);
        }
        return told.toString();
    }

    private static void goOn(FoldedVoices x, int voice, StringBuilder told) {
        comeAll(x, voice, told);
        for (int i = 0; i < 4; i++) {
            told.append(" say ").append(x.say(voice, 300 - 110 * i));
        }
        told.append(" flush ").append(Check.thrownBy(() -> x.flush(voice)));
        comeAll(x, voice, told);
        told.append(" rate ").append(x.set(0, 1)).append(" gate ").append(x.set(1, 0)).append(" size ").append(x.set(2, 1));
        for (int i = 0; i < 4; i++) {
            told.append(" say ").append(x.say(voice, 7 * i));
        }
        comeAll(x, voice, told);
        told.append(" all ").append(x.digest());
    }

    private static void comeAll(FoldedVoices x, int voice, StringBuilder told) {
        for (int i = 0; i < 8 && x.saying(voice, 9) > 0; i++) {
            told.append(" head ").append(x.packet(voice, 0, 2)).append(" came ").append(x.deliver(voice));
            told.append(' ').append(x.hearing(voice, 8)).append(' ').append(x.hearing(voice, 0));
        }
    }
}

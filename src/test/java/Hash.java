/** The hash of the document, told from the looks alone. */
final class Hash {
    private final FoldedVoices x;
    private long hash = 3637;

    private Hash(FoldedVoices x) {
        this.x = x;
    }

    /** As digest() has to tell it. */
    static long of(FoldedVoices x, boolean hasSnapshot, String buffer) {
        Hash hash = new Hash(x);
        hash.mixCounts();
        hash.mixSettings();
        for (int voice = 0; voice < 3; voice++) {
            hash.mixVoice(voice);
        }
        hash.mix(Float.floatToIntBits(x.lostShare()));
        hash.mix(hasSnapshot ? 1 : 0);
        hash.mix(buffer.length());
        for (int i = 0; i < buffer.length(); i++) {
            hash.mix(buffer.charAt(i));
        }
        return hash.hash;
    }

    private void mix(long value) {
        hash = 31 * hash + value;
    }

    private void mixCounts() {
        for (int what = 0; what <= 7; what++) {
            mix(x.count(what));
        }
    }

    private void mixSettings() {
        for (int setting = 0; setting <= 3; setting++) {
            mix(x.setting(setting));
        }
    }

    private void mixVoice(int voice) {
        for (int what = 0; what <= 9; what++) {
            mix(x.saying(voice, what));
        }
        for (int what = 0; what <= 11; what++) {
            mix(x.hearing(voice, what));
        }
        for (int rank = 0; rank < x.saying(voice, 9); rank++) {
            for (int what = 0; what <= 5; what++) {
                mix(x.packet(voice, rank, what));
            }
        }
        mix(x.why(voice));
        for (int what = 0; what <= 4; what++) {
            mix(x.code(voice, 100, what));
        }
        mix(x.settles(voice, -500, 50));
        for (int what = 0; what <= 3; what++) {
            mix(x.ifDelivered(voice, what));
        }
        mix(Double.doubleToLongBits(x.meanError(voice)));
    }
}

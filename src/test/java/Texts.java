/** Puts texts into the buffer. */
final class Texts {
    private Texts() {
    }

    static FoldedVoices typed(String text) {
        FoldedVoices x = new FoldedVoices();
        type(x, text);
        return x;
    }

    static void type(FoldedVoices x, String text) {
        for (int i = 0; i < text.length(); i++) {
            x.append(text.charAt(i));
        }
    }
}

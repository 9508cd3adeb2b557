import java.util.ArrayList;
import java.util.List;
import java.util.function.Consumer;

/** Tests of the edges that the document names: each with its promise and the words that name it. */
final class Edges {
    private final String name;
    private final List<String> broken = new ArrayList<>();
    private int count;
    private String current;
    private boolean holds;

    Edges(String name) {
        this.name = name;
        Watch.start(name);
    }

    void edge(int promise, String words, Runnable test) {
        current = "promise " + promise + ", \"" + words + "\"";
        holds = true;
        count++;
        try {
            test.run();
        } catch (RuntimeException e) {
            note(false, "the call that is due to answer threw " + e);
        }
        if (!holds) {
            broken.add(current);
        }
    }

    /** The call throws just this exception; the object is then as its twin on which it was not called. */
    void refused(int promise, String words, Consumer<FoldedVoices> way, Class<? extends RuntimeException> want,
            Consumer<FoldedVoices> call) {
        edge(promise, words, () -> {
            FoldedVoices x = Twins.gone(way);
            dueText("the exception", Check.thrownBy(() -> call.accept(x)), want.getSimpleName());
            sameAsTwin(way, call);
        });
    }

    /** The call answers, and changes nothing. */
    void onlyLooks(int promise, String words, Consumer<FoldedVoices> way, Consumer<FoldedVoices> call) {
        edge(promise, words, () -> {
            FoldedVoices x = Twins.gone(way);
            dueText("the exception", Check.thrownBy(() -> call.accept(x)), "nothing");
            sameAsTwin(way, call);
        });
    }

    private void sameAsTwin(Consumer<FoldedVoices> way, Consumer<FoldedVoices> call) {
        Consumer<FoldedVoices> wayAndCall = x -> {
            way.accept(x);
            Check.thrownBy(() -> call.accept(x));
        };
        dueText("all that is told behind it", Twins.toldBack(wayAndCall), Twins.toldBack(way));
        dueText("how it goes on behind it", Twins.toldAhead(wayAndCall), Twins.toldAhead(way));
    }

    void due(String what, long got, long want) {
        note(got == want, what + " answered " + got + ", due is " + want);
    }

    void dueDouble(String what, double got, double want) {
        note(Double.doubleToLongBits(got) == Double.doubleToLongBits(want),
                what + " answered " + got + ", due is " + want);
    }

    void dueText(String what, String got, String want) {
        note(got.equals(want), what + ": " + got + ", due is " + want);
    }

    void dueThrow(String what, Class<? extends RuntimeException> want, Runnable call) {
        dueText(what + " throws", Check.thrownBy(call), want.getSimpleName());
    }

    void note(boolean isRight, String whatIsWrong) {
        if (!isRight) {
            holds = false;
            System.out.println(name + ": " + current + ": " + whatIsWrong);
        }
    }

    void end() {
        System.out.println(name + ": " + count + " edges, " + broken.size() + " broken");
        if (!broken.isEmpty()) {
            System.exit(1);
        }
    }
}

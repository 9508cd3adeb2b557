/** Counts what is as due and prints what is not. */
final class Check {
    private final String name;
    private int passed;
    private int failed;

    Check(String name) {
        this.name = name;
        Watch.start(name);
    }

    void due(String what, long got, long want) {
        note(got == want, what + " answered " + got + ", due is " + want);
    }

    void dueDouble(String what, double got, double want) {
        note(Double.doubleToLongBits(got) == Double.doubleToLongBits(want),
                what + " answered " + got + ", due is " + want);
    }

    void dueText(String what, String got, String want) {
        note(got.equals(want), what + " is " + got + ", due is " + want);
    }

    /** The call throws just this exception, and changes nothing. */
    void dueThrow(String what, FoldedVoices x, Class<? extends RuntimeException> want, Runnable call) {
        long before = x.digest();
        dueText(what + " throws", thrownBy(call), want.getSimpleName());
        due(what + ", the digest behind it", x.digest(), before);
    }

    static String thrownBy(Runnable call) {
        try {
            call.run();
            return "nothing";
        } catch (RuntimeException e) {
            return e.getClass().getSimpleName();
        }
    }

    void note(boolean isRight, String whatIsWrong) {
        if (isRight) {
            passed++;
        } else {
            failed++;
            System.out.println(name + ": " + whatIsWrong);
        }
    }

    void end() {
        System.out.println(name + ": " + passed + " as due, " + failed + " not");
        if (failed != 0) {
            System.exit(1);
        }
    }
}

/** Counts the answers that are not as due. */
final class Due {
    private int asked = 0;
    private int wrong = 0;
    private String promise = "";

    void promise(String name) {
        promise = name;
    }

    void is(String call, long got, long want) {
        asked++;
        if (got != want) {
            wrong++;
            System.out.println(promise + ": " + call + " answered " + got + ", due is " + want);
        }
    }

    void isTrue(String what, boolean holds) {
        is(what, holds ? 1 : 0, 1);
    }

    void close() {
        System.out.println(asked + " answers, " + wrong + " wrong");
        if (wrong != 0 || asked == 0) {
            System.exit(1);
        }
    }
}

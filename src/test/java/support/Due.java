/** Counts and prints every answer that is not the one that is due. */
final class Due {
    private int asked = 0;
    private int wrong = 0;

    void is(String call, long got, long want) {
        asked++;
        if (got != want) {
            wrong++;
            System.out.println(call + " answered " + got + ", due is " + want);
        }
    }

    boolean allRight() {
        return wrong == 0;
    }

    void end() {
        System.out.println(asked + " answers, " + wrong + " not as due");
        if (wrong != 0 || asked == 0) {
            System.exit(1);
        }
    }
}

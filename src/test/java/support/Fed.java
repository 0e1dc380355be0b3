/** Makes objects of the class with a text told to them. */
final class Fed {
    private Fed() {
    }

    static BellSuitors with(String text) {
        BellSuitors x = new BellSuitors();
        tell(x, text);
        return x;
    }

    static int tell(BellSuitors x, String text) {
        feed(x, text);
        return x.tower();
    }

    static void feed(BellSuitors x, String text) {
        for (int i = 0; i < text.length(); i++) {
            x.feed(text.charAt(i));
        }
    }

    /** With so many ROWS RUNG by as few calls as can be. */
    static BellSuitors rung(String text, int rows) {
        BellSuitors x = with(text);
        for (int left = rows; left > 0; left -= 200) {
            x.ring(Math.min(200, left));
        }
        return x;
    }
}

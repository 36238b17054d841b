/** Feeds a text to the TAPE, filled up with blanks that end() cuts off again. */
final class Texts {
    private Texts() {
    }

    static void feed(HailPads pads, String text) {
        int[] five = new int[5];
        for (int at = 0; at < text.length(); at += 20) {
            for (int k = 0; k < 5; k++) {
                five[k] = four(text, at + 4 * k);
            }
            pads.feed(five[0], five[1], five[2], five[3], five[4]);
        }
        pads.end(text.length());
    }

    static int rules(HailPads pads, String text) {
        feed(pads, text);
        return pads.rules();
    }

    static int four(String text, int at) {
        int number = 0;
        for (int k = at; k < at + 4; k++) {
            number = number << 8 | (k < text.length() ? text.charAt(k) & 255 : 32);
        }
        return number;
    }
}

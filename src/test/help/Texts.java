/** What the tests share. */
final class Texts {
    private Texts() {
    }

    /** Types a text, eight bytes a call; answers what the last call answers. */
    static int type(LastTrick x, String text) {
        int size = 0;
        for (int i = 0; i < text.length(); i += 8) {
            String part = text.substring(i, Math.min(text.length(), i + 8));
            long v = 0;
            for (char c : part.toCharArray()) {
                v = v << 8 | c;
            }
            size = x.type(v, part.length());
        }
        return size;
    }
}

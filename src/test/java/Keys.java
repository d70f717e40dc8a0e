/** ITEMS by their KEYS, for the tests at the edges. */
final class Keys {
    /** Numbers that are none of a HEAP, a SHELF, an ITEM, a place, a what. */
    static final int[] FAR_OUT = {-1, -2, Integer.MIN_VALUE, Integer.MAX_VALUE};

    private Keys() {
    }

    /** ITEMS of whole KEYS in a HEAP, by NAMES xa, xb, ..: the first one as told. */
    static String plain(char first, String heap, int... keys) {
        StringBuilder text = new StringBuilder();
        for (int i = 0; i < keys.length; i++) {
            text.append("item x").append((char) (first + i)).append(" plain ").append(keys[i]).append(" over 1 in ")
                .append(heap).append(';');
        }
        return text.toString();
    }

    static int[] upTo(int most) {
        int[] keys = new int[most];
        for (int i = 0; i < most; i++) {
            keys[i] = i + 1;
        }
        return keys;
    }

    static int bits(double number) {
        return Float.floatToIntBits((float) number);
    }
}

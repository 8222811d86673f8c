/** Brings texts to the TAPE. */
final class Texts {
    private static final int BYTES_A_CALL = 20;

    private Texts() {
    }

    /** The TAPE has these signs alone; each is fed, 20 a call. */
    static void tape(LifeKeys x, String text) {
        x.end(0);
        for (int i = 0; i < text.length(); i += BYTES_A_CALL) {
            int[] f = new int[BYTES_A_CALL / 4];
            for (int j = 0; j < BYTES_A_CALL && i + j < text.length(); j++) {
                f[j / 4] |= text.charAt(i + j) << 24 - j % 4 * 8;
            }
            x.feed(f[0], f[1], f[2], f[3], f[4]);
        }
    }
}

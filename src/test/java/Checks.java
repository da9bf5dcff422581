import java.nio.charset.StandardCharsets;
import java.util.NoSuchElementException;

/** What the tests share: texts put on the tape, answers compared, a closing line. */
final class Checks {
    private static int passed = 0;
    private static int failed = 0;

    private Checks() {
    }

    static void due(String what, long got, long want) {
        if (got == want) {
            passed++;
        } else {
            failed++;
            if (failed <= 50) {
                System.out.println(what + " answered " + got + ", due is " + want);
            }
        }
    }

    static void due(String what, boolean got, boolean want) {
        due(what, got ? 1 : 0, want ? 1 : 0);
    }

    static int failures() {
        return failed;
    }

    static void finish() {
        System.out.println(passed + " passed, " + failed + " failed");
        if (failed != 0) {
            System.exit(1);
        }
    }

    /** Puts bytes behind an empty tape. */
    static void tape(ProperFollow x, byte[] bytes) {
        for (int i = 0; i < bytes.length; i += 20) {
            int[] n = new int[5];
            for (int k = 0; k < 20; k++) {
                int b = i + k < bytes.length ? bytes[i + k] & 255 : 0;
                n[k / 4] = n[k / 4] << 8 | b;
            }
            due("room on the tape", x.feed(n[0], n[1], n[2], n[3], n[4]), i + 20);
        }
        due("end of the tape", x.end(bytes.length), true);
    }

    static void tape(ProperFollow x, String text) {
        tape(x, text.getBytes(StandardCharsets.ISO_8859_1));
    }

    static void tape(ProperFollow x, int... bytes) {
        byte[] row = new byte[bytes.length];
        for (int i = 0; i < bytes.length; i++) {
            row[i] = (byte) bytes[i];
        }
        tape(x, row);
    }

    static ProperFollow townOf(String text) {
        ProperFollow x = new ProperFollow();
        tape(x, text);
        int lines = x.town();
        due("a good town's fault at " + (-1 - lines) + " of '" + text + "'", lines < 0, false);
        return x;
    }

    static int town(ProperFollow x, String text) {
        tape(x, text);
        return x.town();
    }

    static int book(ProperFollow x, String text, int lives) {
        tape(x, text);
        return x.book(lives);
    }

    static int sentence(ProperFollow x, String text) {
        tape(x, text);
        return x.sentence();
    }

    static int fits(ProperFollow x, int... bytes) {
        tape(x, bytes);
        return x.fits();
    }

    static boolean personThrows(ProperFollow x, int p, int what) {
        try {
            x.person(p, what);
            return false;
        } catch (NoSuchElementException e) {
            return true;
        }
    }

    static boolean meanThrows(ProperFollow x, int what) {
        try {
            x.mean(what);
            return false;
        } catch (NoSuchElementException e) {
            return true;
        }
    }

    /** Who may be meant by the sentence, as bits. */
    static int saidBits(ProperFollow x) {
        int bits = 0;
        int n = x.said(ProperFollow.NONE);
        for (int k = 0; k < n; k++) {
            bits |= 1 << x.said(k);
        }
        due("the one behind the last said", x.said(Math.max(n, 0)), ProperFollow.NONE);
        return bits;
    }

    static String lineOf(ProperFollow x, int p) {
        StringBuilder text = new StringBuilder();
        int n = x.line(p);
        for (int i = 0; i < n; i++) {
            text.append((char) x.byteAt(i));
        }
        due("the byte behind a line", x.byteAt(Math.max(n, 0)), ProperFollow.NONE);
        return text.toString();
    }
}

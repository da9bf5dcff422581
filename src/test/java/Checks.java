import java.nio.charset.StandardCharsets;
import java.util.NoSuchElementException;
import java.util.function.Consumer;
import java.util.function.Function;
import java.util.function.Supplier;

/** What the tests share: texts put on the tape, answers compared, a closing line. */
final class Checks {
    private static int passed = 0;
    private static int failed = 0;

    private Checks() {
    }

    static void due(String what, long got, long want) {
        if (got == want) {
            passed++;
        } else {
            failed++;
            if (failed <= 50) {
                System.out.println(what + " answered " + got + ", due is " + want);
            }
        }
    }

    static void due(String what, boolean got, boolean want) {
        due(what, got ? 1 : 0, want ? 1 : 0);
    }

    static int failures() {
        return failed;
    }

    static void finish() {
        System.out.println(passed + " passed, " + failed + " failed");
        if (failed != 0) {
            System.exit(1);
        }
    }

    /** Puts bytes behind an empty tape. */
    static void tape(ProperFollow x, byte[] bytes) {
        for (int i = 0; i < bytes.length; i += 20) {
            int[] n = new int[5];
            for (int k = 0; k < 20; k++) {
                int b = i + k < bytes.length ? bytes[i + k] & 255 : 0;
                n[k / 4] = n[k / 4] << 8 | b;
            }
            due("room on the tape", x.feed(n[0], n[1], n[2], n[3], n[4]), i + 20);
        }
        due("end of the tape", x.end(bytes.length), true);
    }

    static void tape(ProperFollow x, String text) {
        tape(x, text.getBytes(StandardCharsets.ISO_8859_1));
    }

    static void tape(ProperFollow x, int... bytes) {
        byte[] row = new byte[bytes.length];
        for (int i = 0; i < bytes.length; i++) {
            row[i] = (byte) bytes[i];
        }
        tape(x, row);
    }

    static ProperFollow townOf(String text) {
        ProperFollow x = new ProperFollow();
        tape(x, text);
        int lines = x.town();
        due("a good town's fault at " + (-1 - lines) + " of '" + text + "'", lines < 0, false);
        return x;
    }

    static int town(ProperFollow x, String text) {
        tape(x, text);
        return x.town();
    }

    static int book(ProperFollow x, String text, int lives) {
        tape(x, text);
        return x.book(lives);
    }

    static int sentence(ProperFollow x, String text) {
        tape(x, text);
        return x.sentence();
    }

    static int fits(ProperFollow x, int... bytes) {
        tape(x, bytes);
        return x.fits();
    }

    static boolean personThrows(ProperFollow x, int p, int what) {
        try {
            x.person(p, what);
            return false;
        } catch (NoSuchElementException e) {
            return true;
        }
    }

    static boolean meanThrows(ProperFollow x, int what) {
        try {
            x.mean(what);
            return false;
        } catch (NoSuchElementException e) {
            return true;
        }
    }

    /** Who may be meant by the sentence, as bits. */
    static int saidBits(ProperFollow x) {
        int bits = 0;
        int n = x.said(ProperFollow.NONE);
        for (int k = 0; k < n; k++) {
            bits |= 1 << x.said(k);
        }
        due("the one behind the last said", x.said(Math.max(n, 0)), ProperFollow.NONE);
        return bits;
    }

    static String lineOf(ProperFollow x, int p) {
        StringBuilder text = new StringBuilder();
        int n = x.line(p);
        for (int i = 0; i < n; i++) {
            text.append((char) x.byteAt(i));
        }
        due("the byte behind a line", x.byteAt(Math.max(n, 0)), ProperFollow.NONE);
        return text.toString();
    }

    /** All that an object tells without changing, as one text; without fault() and the bytes of the tape, if so told. */
    static String all(ProperFollow x, boolean faultToo) {
        StringBuilder text = new StringBuilder();
        row(text, "count", 3, x::count);
        row(text, "now", 7, x::now);
        for (int p = 0; p < x.count(2); p++) {
            int him = p;
            row(text, "person " + p, 7, k -> x.person(him, k));
            row(text, "was " + p, 6, k -> x.was(him, k));
        }
        for (int c = 0; c < x.count(0); c++) {
            int it = c;
            row(text, "corner " + c, 4, k -> x.corner(it, k));
        }
        row(text, "latest", 1, k -> x.cutting());
        row(text, "latest", 1, k -> x.ask());
        row(text, "latest", 1, k -> x.barred());
        row(text, "latest", 1, k -> x.hiresFar());
        row(text, "path", 8, x::pathAt);
        row(text, "hired", 6, x::hiredBy);
        row(text, "told", 4, x::told);
        row(text, "said", 7, k -> x.said(k - 1));
        row(text, "line", 33, x::byteAt);
        if (faultToo) {
            row(text, "fault, tape", 2, k -> k == 0 ? x.fault() : x.count(3));
        }
        return text.toString();
    }

    private static void row(StringBuilder text, String what, int n, Function<Integer, Integer> told) {
        text.append(what);
        for (int k = 0; k < n; k++) {
            text.append(' ').append(told.apply(k));
        }
        text.append('\n');
    }

    static void same(String what, String got, String want) {
        due(what, got.equals(want), true);
        if (!got.equals(want) && failed <= 5) {
            System.out.println("got\n" + got + "due\n" + want);
        }
    }

    /** A square a b c d, and e apart; ann goes, bob follows cid, dan and eve are in a ring soon, fay stands. */
    static final String RICH_TOWN = "corner a;corner b;corner c;corner d;corner e;street a b;street b c;street c d;"
            + "street a d;person ann a 3;person bob c 2;person cid e 0;person dan b 0;person eve d 1;person fay c 1;"
            + "next ann b;next ann c;next ann b;next ann a;follows bob cid 2;";

    /**
     * An object of which nothing is as in a new one: both images, six acts to undo, a sentence, each of the
     * latest answers, a fault, and a town of one corner on the tape.
     */
    static ProperFollow rich() {
        ProperFollow x = townOf(RICH_TOWN);
        sentence(x, "at e");
        x.image(0);
        x.drop(0);
        x.minutes(2);
        sentence(x, "number > 3");
        x.image(1);
        x.hire(3, 4, 1);
        x.minutes(1);
        x.hire(4, 3, 5);
        x.drop(5);
        sentence(x, "not idle");
        x.cut();
        fits(x, 1);
        x.path(5, 0);
        x.bar(0, 2);
        x.hires();
        x.line(1);
        book(x, "cid drops;", 0);
        book(x, "minute 61;", 0);
        tape(x, "corner zed;");
        return x;
    }

    /** Two calls on like objects leave the like: seen at once, by undoing, going on, restoring, reading and acting. */
    static void alike(String what, Supplier<ProperFollow> made, Consumer<ProperFollow> one,
            Consumer<ProperFollow> other, boolean faultToo) {
        for (int look = 0; look < 10; look++) {
            ProperFollow x = made.get();
            ProperFollow y = made.get();
            one.accept(x);
            other.accept(y);
            same(what + " (look " + look + ")", lookAt(x, look, faultToo), lookAt(y, look, faultToo));
        }
    }

    /** A call leaves everything as it was, the tape and the latest fault, too. */
    static void leavesAll(String what, Supplier<ProperFollow> made, Consumer<ProperFollow> call) {
        alike(what, made, call, y -> { }, true);
    }

    private static String lookAt(ProperFollow x, int look, boolean faultToo) {
        StringBuilder text = new StringBuilder();
        switch (look) {
            case 0: break;
            case 1: row(text, "undo", 9, k -> x.undo()); break;
            case 2: row(text, "minutes", 3, k -> x.minutes(1)); break;
            case 3: row(text, "restore 0", 1, k -> x.restore(0) ? 1 : 0); break;
            case 4: row(text, "restore 1", 1, k -> x.restore(1) ? 1 : 0); break;
            case 5: row(text, "send", 6, p -> x.send(p, 1)); break;
            case 6: row(text, "drop", 6, x::drop); break;
            case 7: row(text, "leave", 6, x::leave); break;
            case 8: row(text, "hire", 6, p -> x.hire(0, p, 3)); break;
            default: row(text, "town", 2, k -> k == 0 ? x.count(3) : x.town()); break;
        }
        return text.append(all(x, faultToo)).toString();
    }
}

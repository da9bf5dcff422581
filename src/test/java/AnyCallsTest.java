import java.util.NoSuchElementException;
import java.util.Random;

/** Whatever is called, with whatever arguments, nothing is thrown but what the document names. */
public final class AnyCallsTest {
    private static final int[] EDGES = {
        Integer.MIN_VALUE, -1001, -1000, -2, -1, 0, 1, 2, 3, 4, 5, 6, 7, 8, 9, 10, 30, 31, 39, 40, 59, 60, 61, 255, 399,
        400, 401, 900, 940, 941, 1 << 30, Integer.MAX_VALUE
    };
    private static final String[] PIECES = {
        "corner ", "street ", "person ", "next ", "follows ", "goes ", "drops", "leaves", "hires ", "minute ", "or ",
        "and ", "not ", "alone", "ringed", "idle", "at ", "after ", "buns", "left", "behind", "number", ";", ";", ";",
        "<", "=", ">", "(", ")", ".", " ", "\n", "0", "1", "5", "60", "9999", "a ", "b ", "p ", "q ", "abcdefg ",
        "abcdefgh ", "A", "a1 ", "\u00ff", "\u0000"
    };
    private static final Random RANDOM = new Random(11);

    public static void main(String[] args) {
        int wild = 0;
        for (int run = 0; run < 400; run++) {
            ProperFollow x = new ProperFollow();
            if (run % 2 == 0) {
                Checks.town(x, "corner a;corner b;corner c;street a b;street b c;person p a 9;person q c 0;person r b 1;next p b;follows q p 2;");
            }
            for (int k = 0; k < 512; k++) {
                try {
                    call(x, RANDOM.nextInt(43));
                } catch (RuntimeException e) {
                    wild++;
                    e.printStackTrace();
                }
            }
        }
        Checks.due("exceptions that the document does not name", wild, 0);
        Checks.finish();
    }

    private static int any() {
        return RANDOM.nextInt(3) == 0 ? EDGES[RANDOM.nextInt(EDGES.length)] : RANDOM.nextInt(7);
    }

    private static void anyText(ProperFollow x) {
        StringBuilder text = new StringBuilder();
        int n = RANDOM.nextInt(20);
        for (int i = 0; i < n; i++) {
            text.append(PIECES[RANDOM.nextInt(PIECES.length)]);
        }
        x.end(0);
        Checks.tape(x, text.toString());
    }

    private static void call(ProperFollow x, int which) {
        switch (which) {
            case 0: x.feed(RANDOM.nextInt(), any(), any(), any(), any()); break;
            case 1: x.end(any()); break;
            case 2: anyText(x); x.town(); break;
            case 3: x.fault(); break;
            case 4: try { x.person(any(), any()); } catch (NoSuchElementException e) { x.fault(); } break;
            case 5: x.was(any(), any()); break;
            case 6: x.corner(any(), any()); break;
            case 7: x.now(any()); break;
            case 8: x.send(any(), any()); break;
            case 9: x.drop(any()); break;
            case 10: x.leave(any()); break;
            case 11: x.hire(any(), any(), any()); break;
            case 12: x.minutes(any()); break;
            case 13: x.undo(); break;
            case 14: x.ring(any()); break;
            case 15: x.cut(); break;
            case 16: x.cutting(); break;
            case 17: x.meet(any(), any()); break;
            case 18: x.proper(any(), any()); break;
            case 19: x.fits(); break;
            case 20: x.ask(); break;
            case 21: x.path(any(), any()); break;
            case 22: x.pathAt(any()); break;
            case 23: x.bar(any(), any()); break;
            case 24: x.barred(); break;
            case 25: x.hires(); break;
            case 26: x.hiresFar(); break;
            case 27: x.hiredBy(any()); break;
            case 28: try { x.mean(any()); } catch (NoSuchElementException e) { x.fault(); } break;
            case 29: x.line(any()); break;
            case 30: x.byteAt(any()); break;
            case 31: x.drawn(any(), RANDOM.nextInt()); break;
            case 32: x.odds(any(), any(), RANDOM.nextInt()); break;
            case 33: anyText(x); x.book(any()); break;
            case 34: x.told(any()); break;
            case 35: anyText(x); x.sentence(); break;
            case 36: x.said(any()); break;
            case 37: x.image(any()); break;
            case 38: x.restore(any()); break;
            case 39: x.count(any()); break;
            case 40: x.town(); break;
            case 41: x.book(any()); break;
            default: x.sentence(); break;
        }
    }
}

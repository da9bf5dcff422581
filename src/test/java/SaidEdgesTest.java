/** What "Terms" says of what a SENTENCE means, kind by kind at its edges, and that a text leaves nothing for the next. */
public final class SaidEdgesTest {
    private static final int NONE = ProperFollow.NONE;

    /** q and r are in a ring, s follows q, t goes, p and u stand. */
    private static final String TOWN = "corner a;corner b;corner c;street a b;street b c;person p a 0;person q b 1;person r b 2;"
            + "person s c 3;person t c 9;person u a 0;follows q r 1;follows r q 2;follows s q 3;next t b;next t a;";

    public static void main(String[] args) {
        plainOnes();
        comparisons();
        bunsAboveNine();
        notOnes();
        andAheadOfOr();
        brackets();
        longest();
        deepest();
        saidOfNow();
        nothingIsLeftOfAFaultySentence();
        nothingIsLeftOfAFaultyTown();
        nothingIsLeftOfAFaultyBook();
        Checks.finish();
    }

    private static void said(String text, int ones, int want) {
        said(Checks.townOf(TOWN), text, ones, want);
    }

    private static void said(ProperFollow x, String text, int ones, int want) {
        Checks.due("how many ONES: " + text, Checks.sentence(x, text), ones);
        Checks.due("said of how many: " + text, x.said(NONE), Integer.bitCount(want));
        Checks.due("said of whom: " + text, Checks.saidBits(x), want);
    }

    private static void plainOnes() {
        said("alone", 1, 57);
        said("ringed", 1, 6);
        said("idle", 1, 33);
        said("at a", 1, 33);
        said("at b", 1, 6);
        said("at c", 1, 24);
        said("after q", 1, 12);
        said("after r", 1, 2);
        said("after p", 1, 0);
        said("after u", 1, 0);
    }

    private static void compared(String kind, int... values) {
        for (int n : new int[] {0, 1, 2, 3, 4, 5, 6, 8, 9, 10, 998, 999}) {
            int less = 0;
            int like = 0;
            for (int p = 0; p < values.length; p++) {
                less |= (values[p] < n ? 1 : 0) << p;
                like |= (values[p] == n ? 1 : 0) << p;
            }
            said(kind + "<" + n, 1, less);
            said(kind + "=" + n, 1, like);
            said(kind + ">" + n, 1, 63 & ~less & ~like);
        }
    }

    private static void comparisons() {
        compared("buns", 0, 1, 2, 3, 9, 0);
        compared("left", 0, 0, 0, 0, 2, 0);
        compared("behind", 0, 2, 1, 0, 0, 0);
        compared("number", 0, 1, 2, 3, 4, 5);
    }

    private static void bunsAboveNine() {
        ProperFollow x = Checks.townOf("corner a;person p a 9;person q a 9;follows q p 1;");
        x.drop(0);
        x.minutes(1);
        said(x, "buns>9", 1, 2);
        said(x, "buns=10", 1, 2);
        said(x, "buns<10", 1, 1);
    }

    private static void notOnes() {
        said("not alone", 2, 6);
        said("not ringed", 2, 57);
        said("not idle", 2, 30);
        said("not not ringed", 3, 6);
        said("not not not ringed", 4, 57);
        said("not number<6", 2, 0);
        said("not number>5", 2, 63);
        said("not alone or idle", 3, 39);
        said("not alone and idle", 3, 0);
        said("idle or not alone", 3, 39);
        said("at a and not idle", 3, 0);
        said("ringed and not at a or number=3", 4, 14);
    }

    private static void andAheadOfOr() {
        said("alone and idle", 2, 33);
        said("alone or ringed", 2, 63);
        said("ringed or alone and at c", 3, 30);
        said("alone and at c or ringed", 3, 30);
        said("at a and idle or at b and after q", 4, 37);
        said("at a or at b and ringed or at c", 4, 63);
        said("at a or at b and after r or number=4", 4, 51);
        said("at b and ringed and after r", 3, 2);
        said("at b and ringed and after p or at a and alone and number=5", 6, 32);
        said("number=1 or number=3 or number=5", 3, 42);
        said("number=1 and number=3 or number=5", 3, 32);
        said("number=1 or number=3 and number=5", 3, 2);
    }

    private static void brackets() {
        said("(alone)", 2, 57);
        said("(((idle)))", 4, 33);
        said("(ringed or alone) and at c", 4, 24);
        said("at c and (ringed or alone)", 4, 24);
        said("not (alone or idle)", 4, 6);
        said("not (alone and idle)", 4, 30);
        said("(at a or at c) and (idle or left>0)", 6, 49);
        said("not (not (not (at a)))", 7, 30);
        said("not (at a) or at a", 4, 63);
        said("(at a or (at b and (ringed and after r)))", 7, 35);
        said("number=0 or (number=1 or number=2 and (number=2 or number=3)) and not number=1", 9, 5);
    }

    private static void longest() {
        said("idle or ".repeat(19) + "at b", 20, 39);
        said("at b or " + "idle or ".repeat(18) + "idle", 20, 39);
        said("idle and ".repeat(19) + "at a", 20, 33);
        said("at c and " + "alone and ".repeat(18) + "at c", 20, 24);
        said("idle or at b and ".repeat(9) + "idle or at c", 20, 57);
        said("not idle or ".repeat(9) + "not idle", 20, 30);
    }

    private static void deepest() {
        said("not ".repeat(7) + "idle", 8, 30);
        said("(".repeat(7) + "idle" + ")".repeat(7), 8, 33);
        said("(idle or ".repeat(7) + "at b" + ")".repeat(7), 15, 39);
        said("(alone and ".repeat(7) + "at c" + ")".repeat(7), 15, 24);
        said("not(".repeat(3) + "not idle" + ")".repeat(3), 8, 33);
        said("(idle and (at c or (at a and (idle or (at b and (idle or (at a and alone)))))))", 15, 33);
    }

    private static void saidOfNow() {
        ProperFollow x = Checks.townOf(TOWN);
        said(x, "left>0 or idle and at b", 3, 16);
        x.send(0, 1);
        Checks.due("said: it is of now", Checks.saidBits(x), 17);
        x.minutes(1);
        Checks.due("said: a MINUTE later", Checks.saidBits(x), 17);
        x.minutes(1);
        Checks.due("said: nobody else", Checks.saidBits(x), 1);
        x.undo();
        x.undo();
        x.undo();
        Checks.due("said: undone", Checks.saidBits(x), 16);
    }

    private static void nothingIsLeftOfAFaultySentence() {
        String[] faulty = {"not", "(", "not (", "(((", "idle and", "idle or", "idle or (at a and", "(idle and", "not ".repeat(8),
            "not ".repeat(9), "idle)", "idle or at a and ringed or (idle and not", "(idle or at b", "idle or ".repeat(20) + "idle"};
        for (String text : faulty) {
            for (String before : faulty) {
                ProperFollow x = Checks.townOf(TOWN);
                Checks.due("faulty: " + before, Checks.sentence(x, before) < 0, true);
                Checks.due("faulty: " + text, Checks.sentence(x, text) < 0, true);
                said(x, "alone", 1, 57);
                Checks.sentence(x, text);
                said(x, "ringed or alone and at c", 3, 30);
                Checks.sentence(x, text);
                said(x, "not ".repeat(7) + "idle", 8, 30);
                Checks.sentence(x, text);
                said(x, "idle or ".repeat(19) + "at b", 20, 39);
            }
        }
    }

    private static void nothingIsLeftOfAFaultyTown() {
        String[] good = {"", "corner a;", "corner a;corner b;person p a 0;person q a 0;", TOWN};
        String[] faulty = {TOWN + "x", TOWN + "corner a;", "corner z;corner y;street z y;person x y 7;next x z", TOWN + "next t"};
        for (String then : good) {
            for (String text : faulty) {
                ProperFollow x = Checks.townOf(TOWN);
                x.minutes(3);
                x.drop(4);
                Checks.due("faulty: " + text, Checks.town(x, text) < 0, true);
                Checks.due("good behind it: " + then, Checks.town(x, then) >= 0, true);
                ProperFollow y = Checks.townOf(then);
                Checks.same("as a TOWN of a new object: " + then, Checks.all(x, true), Checks.all(y, true));
                x.minutes(5);
                y.minutes(5);
                Checks.same("and five MINUTES later: " + then, Checks.all(x, true), Checks.all(y, true));
            }
        }
    }

    private static void nothingIsLeftOfAFaultyBook() {
        ProperFollow x = Checks.townOf(TOWN);
        Checks.due("faulty", Checks.book(x, "minute 9;p goes b;minute 61;", 1), -2 - 25);
        Checks.due("an empty one behind it", x.book(1), NONE);
        Checks.due("none of its LINES", x.told(1) + x.told(2), 0);
        Checks.due("faulty again", Checks.book(x, "minute 9;".repeat(41), 1), -2 - 360);
        Checks.due("one LINE behind it", Checks.book(x, "t drops;", 1), NONE);
        Checks.due("one LINE alone", x.told(1) * 10 + x.told(2), 10);
        Checks.due("a bun", x.corner(2, 2), 1);
    }
}

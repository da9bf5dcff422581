/** What "Terms" says of acts, minutes and what is reckoned from them, sentence by sentence at its edges. */
public final class MinuteEdgesTest {
    private static final int NONE = ProperFollow.NONE;
    private static final String EIGHT = "corner a;corner b;corner c;corner d;corner e;corner f;corner g;corner h;";
    private static final String STREET = EIGHT
            + "street a b;street b c;street c d;street d e;street e f;street f g;street g h;";
    private static final String ROUND = STREET + "street a h;";
    private static final String TWO = "corner a;corner b;street a b;";

    public static void main(String[] args) {
        sending();
        dropping();
        leaving();
        hiring();
        minute400();
        goingTheWay();
        followingByMinutes();
        aheadOfMinuteZero();
        shortestRow();
        staying();
        allAtOnce();
        prints();
        bunsTaken();
        bunsWithoutAMost();
        rows();
        rowsIntoRings();
        rings();
        cuts();
        meeting();
        meetingInNinetyNine();
        properDistance();
        properEdges();
        properNotNow();
        fitting();
        asking();
        askingOfLikeOnes();
        paths();
        bars();
        hireAll();
        hireAllLikeOnes();
        means();
        lines();
        drawsWrap();
        drawsOneByOne();
        newTown();
        Checks.finish();
    }

    private static void due(String what, long got, long want) {
        Checks.due(what, got, want);
    }

    /** Sends a person to corners by number; each must be done. */
    private static void send(ProperFollow x, int p, int... corners) {
        for (int c : corners) {
            due("he is sent to " + c, x.send(p, c), 0);
        }
    }

    private static void pass(ProperFollow x, int minutes) {
        for (int left = minutes; left > 0; left -= 60) {
            due("minutes go by", x.minutes(Math.min(60, left)), Math.min(60, left));
        }
    }

    private static void sending() {
        ProperFollow x = Checks.townOf(ROUND + "person p a 0;person q a 0;follows q p 1;");
        due("SEND 1 he follows somebody", x.send(1, 1), 1);
        due("SEND 1 is less than 3", x.send(1, 4), 1);
        due("SEND 3 not BESIDE where he is", x.send(0, 2), 3);
        due("SEND 3 where he is himself", x.send(0, 0), 3);
        send(x, 0, 1);
        due("SEND: it is the last of his WAY", x.person(0, 4), 1);
        due("SEND 3 BESIDE where he is, not the last of it", x.send(0, 7), 3);
        due("SEND 3 the last of it itself", x.send(0, 1), 3);
        send(x, 0, 2, 3, 4, 5, 6, 7);
        due("SEND: seven", x.person(0, 4), 7);
        send(x, 0, 0);
        due("SEND: eight", x.person(0, 4), 8);
        due("SEND 2 his WAY has 8 CORNERS yet", x.send(0, 1), 2);
        due("SEND 2 is less than 3", x.send(0, 4), 2);
        pass(x, 1);
        due("SEND: seven yet", x.person(0, 4), 7);
        send(x, 0, 1);
        due("SEND: eight again", x.send(0, 2), 2);
        pass(x, 8);
        due("SEND: the way is gone", x.person(0, 4), 0);
        due("SEND: he went it to its end", x.person(0, 0), 1);
        due("SEND 3 where he is, if there is none", x.send(0, 7), 3);
        x.leave(1);
        due("SEND: who follows nobody any more", x.send(1, x.person(1, 0) == 7 ? 6 : 7), x.person(1, 0) == 0 ? 0 : 3);
    }

    private static void dropping() {
        ProperFollow x = Checks.townOf(TWO + "person p b 1;person q b 0;person r a 9;");
        due("DROP 1 he has none", x.drop(1), 1);
        due("DROP: none lies", x.corner(1, 2), 0);
        due("DROP: the last one", x.drop(0), 0);
        due("DROP: he has none", x.person(0, 1), 0);
        due("DROP: it lies at his CORNER", x.corner(1, 2), 1);
        due("DROP: at no other", x.corner(0, 2), 0);
        due("DROP 1 he has none any more", x.drop(0), 1);
        for (int k = 1; k <= 9; k++) {
            due("DROP: one of nine", x.drop(2), 0);
            due("DROP: so many lie", x.corner(0, 2), k);
        }
        due("DROP 1 behind the ninth", x.drop(2), 1);
    }

    private static void leaving() {
        ProperFollow x = Checks.townOf(TWO + "person p a 0;person q a 0;person r b 0;follows q p 3;next r a;");
        due("LEAVE 1 he follows nobody", x.leave(0), 1);
        due("LEAVE 1 who has a WAY, too", x.leave(2), 1);
        due("LEAVE", x.leave(1), 0);
        due("LEAVE: he follows nobody any more", x.person(1, 2), NONE);
        due("LEAVE: by none", x.person(1, 3), NONE);
        due("LEAVE: nobody is behind", x.person(0, 5), 0);
        due("LEAVE 1 twice", x.leave(1), 1);
    }

    private static void hiring() {
        ProperFollow x = Checks.townOf(TWO + "person p a 0;person q a 0;person r b 0;person s b 0;follows q p 3;next r a;");
        due("HIRE 1 that one follows somebody", x.hire(3, 1, 1), 1);
        due("HIRE 1 by the same one", x.hire(0, 1, 1), 1);
        due("HIRE: by so many as it was", x.person(1, 3), 3);
        due("HIRE 2 that one has a WAY", x.hire(0, 2, 1), 2);
        due("HIRE by who follows, one whom he follows", x.hire(1, 0, 5), 0);
        due("HIRE: that one follows him", x.person(0, 2), 1);
        due("HIRE by who has a WAY", x.hire(2, 3, 1), 0);
        pass(x, 1);
        due("HIRE who has no WAY any more", x.hire(0, 2, 4), 0);
        due("HIRE: by four", x.person(2, 3), 4);
    }

    private static void minute400() {
        ProperFollow x = Checks.townOf(TWO + "person p a 5;person q a 0;");
        pass(x, 399);
        due("A MINUTE (0 to 399)", x.now(0), 399);
        send(x, 0, 1, 0);
        due("the last one goes", x.minutes(1), 1);
        due("400: all are over", x.now(0), 400);
        due("400: one CORNER of his WAY went", x.person(0, 4), 1);
        due("400: none goes", x.minutes(1), 0);
        due("400: none is drawn", x.drawn(1, 1), 0);
        due("400: his WAY stays", x.person(0, 4), 1);
        due("400: a BOOK's neither", Checks.book(x, "minute 1;", 1), 0);
        due("400: fewer MINUTES are left", x.told(0), 41);
        due("400: he can DROP yet", x.drop(0), 0);
        due("400: and be SENT", x.send(0, 1), 0);
        due("400: and HIRE", x.hire(0, 1, 1), 0);
        due("400: and LEAVE", x.leave(1), 0);
        due("400: and all of it is undone", x.undo(), 7);
    }

    private static void goingTheWay() {
        ProperFollow x = Checks.townOf(STREET + "person p d 0;next p e;next p d;next p c;");
        int[] at = {4, 3, 2, 2};
        int[] left = {2, 1, 0, 0};
        for (int k = 0; k < at.length; k++) {
            pass(x, 1);
            due("who has a WAY is at the first CORNER of it", x.person(0, 0), at[k]);
            due("and that is off it", x.person(0, 4), left[k]);
            due("who has a WAY", x.now(2), left[k] > 0 ? 1 : 0);
        }
    }

    /** q goes along the street; p, who stands with him, is by n behind at each minute. */
    private static void followingByMinutes() {
        for (int n = 1; n <= 5; n++) {
            ProperFollow x = Checks.townOf(STREET + "person p a 0;person q a 0;follows p q " + n + ";"
                    + "next q b;next q c;next q d;next q e;next q f;next q g;next q h;");
            for (int minute = 1; minute <= 14; minute++) {
                pass(x, 1);
                due("q", x.person(1, 0), Math.min(7, minute));
                due("who follows one " + n + " MINUTES behind", x.person(0, 0), Math.max(0, Math.min(7, minute - n)));
            }
        }
    }

    private static void aheadOfMinuteZero() {
        for (int n = 1; n <= 5; n++) {
            // q is off at once; p goes towards where q was told till n minutes are over, and turns then.
            ProperFollow x = Checks.townOf(STREET + "person p h 0;person q a 0;follows p q " + n + ";"
                    + "next q b;next q c;next q d;next q e;next q f;");
            int at = 7;
            for (int minute = 0; minute < 12; minute++) {
                int towards = Math.max(0, Math.min(5, minute - (n - 1)));
                at += Integer.compare(towards, at);
                pass(x, 1);
                due("ahead of MINUTE 0 all were where they were told, by " + n, x.person(0, 0), at);
            }
        }
        ProperFollow late = Checks.townOf(STREET + "person p a 0;person q c 0;");
        due("he is hired later", late.hire(1, 0, 5), 0);
        pass(late, 1);
        due("he goes to where that one was told", late.person(0, 0), 1);
    }

    private static void shortestRow() {
        // From a to h by b, by c or by d: all as short; the long way by e is not.
        ProperFollow x = Checks.townOf(EIGHT + "street a d;street d h;street a c;street c h;street a e;street e f;street f h;"
                + "person p a 0;person q h 0;follows p q 1;");
        pass(x, 1);
        due("of like ones CORNER by CORNER the least", x.person(0, 0), 2);
        pass(x, 1);
        due("he is there", x.person(0, 0), 7);
        // The least first corner, even if the next one is greater then.
        ProperFollow y = Checks.townOf(EIGHT + "street a b;street b g;street a c;street c d;street g h;street d h;"
                + "person p a 0;person q h 0;follows p q 1;");
        int[] at = {1, 6, 7};
        for (int c : at) {
            pass(y, 1);
            due("of like ones the least at first", y.person(0, 0), c);
        }
        // A shorter row by greater corners goes ahead of a longer one by lesser ones.
        ProperFollow z = Checks.townOf(EIGHT + "street a b;street b c;street c h;street a g;street g h;"
                + "person p a 0;person q h 0;follows p q 1;");
        pass(z, 1);
        due("a shortest row", z.person(0, 0), 6);
    }

    private static void staying() {
        ProperFollow x = Checks.townOf("corner a;corner b;corner c;street a b;person p a 0;person q c 0;person r b 0;"
                + "person s b 0;follows p q 1;follows r s 5;");
        pass(x, 3);
        due("none: he stays", x.person(0, 0), 0);
        due("he is there: he stays", x.person(2, 0), 1);
        due("who does nothing stays", x.person(3, 0), 1);
        due("no PRINTS", x.now(5), 0);
    }

    private static void allAtOnce() {
        ProperFollow x = Checks.townOf(TWO + "person p a 0;person q b 0;follows p q 1;follows q p 1;");
        for (int k = 1; k <= 3; k++) {
            pass(x, 1);
            due("all at once: they change places, p", x.person(0, 0), k % 2);
            due("all at once: they change places, q", x.person(1, 0), 1 - k % 2);
            due("all at once: PRINTS", x.now(5), 2 * k);
        }
    }

    private static void prints() {
        ProperFollow x = Checks.townOf(STREET + "person p a 0;person q c 0;person r b 0;person s b 0;next p b;next q b;"
                + "next p a;next p b;next r c;");
        pass(x, 1);
        due("two leave two", x.corner(1, 3), 2);
        due("who stays leaves none, one comes", x.corner(2, 3), 1);
        due("where he was is none left", x.corner(0, 3), 0);
        pass(x, 2);
        due("who comes again leaves one more", x.corner(1, 3), 3);
        due("one at the corner between", x.corner(0, 3), 1);
        due("all PRINTS", x.now(5), 5);
        ProperFollow most = Checks.townOf(TWO + "person p a 0;person q b 0;person r a 0;person s b 0;person t a 0;person u b 0;"
                + "follows p q 1;follows q p 1;follows r s 1;follows s r 1;follows t u 1;follows u t 1;");
        pass(most, 400);
        due("as many as can be, of one CORNER", most.corner(0, 3), 1200);
        due("of all", most.now(5), 2400);
        due("by how many PERSONS", most.mean(0), 400);
    }

    private static void bunsTaken() {
        ProperFollow x = Checks.townOf("corner a;corner b;corner c;street a b;street b c;person p b 0;person q a 2;person r b 0;"
                + "person s b 0;follows p q 1;follows r q 2;");
        x.drop(1);
        x.drop(1);
        pass(x, 1);
        due("PERSON by PERSON: p comes and takes one", x.person(0, 1), 1);
        due("r takes the other", x.person(2, 1), 1);
        due("none lies", x.corner(0, 2), 0);
        due("buns found so far", x.now(6), 2);
        x.drop(0);
        x.drop(2);
        pass(x, 1);
        due("who dropped it takes it up, if he follows", x.person(0, 1), 1);
        due("buns found so far, again", x.now(6), 4);
        x.drop(0);
        x.leave(0);
        x.leave(2);
        pass(x, 1);
        due("who follows nobody takes none", x.corner(0, 2), 1);
        due("and none is found", x.now(6), 4);
        x.send(1, 1);
        x.hire(1, 0, 1);
        pass(x, 1);
        due("the one at the CORNER where he is then", x.person(0, 1), 1);
        ProperFollow one = Checks.townOf("corner a;person p a 0;person q a 1;person r a 0;follows r q 1;follows p q 1;");
        one.drop(1);
        pass(one, 1);
        due("one bun: the least PERSON takes it", one.person(0, 1), 1);
        due("one bun: the other has none", one.person(2, 1), 0);
        ProperFollow gone = Checks.townOf(TWO + "person p a 1;person q b 0;follows p q 1;");
        gone.drop(0);
        pass(gone, 1);
        due("he has gone from it", gone.corner(0, 2), 1);
    }

    private static void bunsWithoutAMost() {
        ProperFollow x = Checks.townOf("corner a;person p a 9;person q a 9;person r a 9;follows p q 1;");
        for (int k = 0; k < 9; k++) {
            x.drop(1);
            x.drop(2);
        }
        due("buns at a CORNER", x.corner(0, 2), 18);
        pass(x, 17);
        due("buns of a PERSON are without a most", x.person(0, 1), 26);
        pass(x, 2);
        due("till none lies", x.person(0, 1), 27);
        due("found", x.now(6), 18);
    }

    private static final String SIX = "corner a;person p a 0;person q a 0;person r a 0;person s a 0;person t a 0;person u a 0;";

    private static void rows() {
        ProperFollow x = Checks.townOf(SIX + "follows p q 1;follows q r 1;follows r s 1;follows s t 1;follows t u 1;");
        for (int p = 0; p < 6; p++) {
            due("ROW: till one follows nobody", x.person(p, 6), 5);
            due("who follows him", x.person(p, 5), p == 0 ? 0 : 1 << (p - 1));
        }
        x.hire(0, 5, 1);
        for (int p = 0; p < 6; p++) {
            due("ROW: or was there already", x.person(p, 6), (p + 5) % 6);
        }
        ProperFollow y = Checks.townOf(SIX + "follows p q 1;follows q r 1;follows r s 1;follows s q 1;");
        int[] last = {3, 3, 1, 2, 4, 5};
        for (int p = 0; p < 6; p++) {
            due("ROW: of who is behind a RING, in it, and alone", y.person(p, 6), last[p]);
        }
    }

    /** So many one behind the other, the last of them behind the first of a ring of so many. */
    private static void rowsIntoRings() {
        for (int ring = 2; ring <= 6; ring++) {
            for (int ahead = 0; ahead + ring <= 6; ahead++) {
                StringBuilder text = new StringBuilder(SIX);
                int all = ahead + ring;
                for (int p = 0; p < all; p++) {
                    text.append("follows ").append((char) ('p' + p)).append(' ');
                    text.append((char) ('p' + (p + 1 < all ? p + 1 : ahead))).append(" 1;");
                }
                ProperFollow x = Checks.townOf(text.toString());
                for (int p = 0; p < 6; p++) {
                    int last = p >= all ? p : p <= ahead ? all - 1 : p - 1;
                    due("ROW of " + p + ": " + ahead + " ahead of a RING of " + ring, x.person(p, 6), last);
                    int bits = (1 << all) - (1 << ahead);
                    due("RING of " + p + ": " + ahead + " ahead of " + ring, x.ring(p), p >= ahead && p < all ? bits : 0);
                }
                due("CUT: one", x.cut(), 1);
                due("CUT: the least as bits", x.cutting(), 1 << ahead);
            }
        }
    }

    private static void rings() {
        ProperFollow x = Checks.townOf(SIX + "follows p q 1;follows q r 1;follows r s 1;follows s t 1;follows t u 1;");
        due("RING: none", x.ring(0), 0);
        due("RINGS: none", x.now(4), 0);
        x.hire(0, 5, 1);
        for (int p = 0; p < 6; p++) {
            due("RING of six", x.ring(p), 63);
        }
        due("RINGS: one", x.now(4), 1);
        due("who is in it", x.now(3), 63);
        x.leave(3);
        due("RING: the last one not the first", x.now(3), 0);
        ProperFollow y = Checks.townOf(SIX + "follows p q 1;follows q p 1;follows r p 1;follows s t 5;follows t s 5;follows u r 1;");
        int[] ring = {3, 3, 0, 24, 24, 0};
        for (int p = 0; p < 6; p++) {
            due("RINGS of two, and who is behind one", y.ring(p), ring[p]);
        }
        due("RINGS: two", y.now(4), 2);
    }

    private static void cuts() {
        ProperFollow x = Checks.townOf(SIX + "follows u t 1;follows t u 1;follows s p 1;follows p s 1;follows r q 1;follows q r 1;");
        due("CUT: three RINGS", x.cut(), 3);
        due("CUT: of like ones the least as bits", x.cutting(), 1 | 2 | 16);
        for (int p = 0; p < 6; p++) {
            if ((x.cutting() >> p & 1) != 0) {
                due("he leaves", x.leave(p), 0);
            }
        }
        due("CUT: so that there is no RING", x.now(4), 0);
        due("CUT: nobody", x.cut(), 0);
        due("CUT: as bits", x.cutting(), 0);
        ProperFollow y = Checks.townOf(SIX + "follows p u 1;follows q u 1;follows r u 1;follows u t 1;follows t u 1;");
        due("CUT: the fewest", y.cut(), 1);
        due("CUT: not who is behind the RING", y.cutting(), 16);
    }

    private static void meeting() {
        ProperFollow x = Checks.townOf(STREET + "person p a 0;person q a 0;person r d 0;person s g 0;next q b;next q c;next q d;"
                + "next q e;next r e;next r f;next s f;");
        due("MEET 0: they are", x.meet(0, 1), 0);
        due("MEET 0: in whatever order", x.meet(1, 0), 0);
        due("MEET: as they go by", x.meet(2, 3), 2);
        due("MEET: never", x.meet(0, 2), NONE);
        due("MEET: not on the street between", Checks.townOf(TWO + "person p a 0;person q b 0;next p b;next q a;").meet(0, 1), NONE);
        due("MEET: nothing is done", x.now(0), 0);
        due("MEET: nor gone", x.person(1, 4), 4);
        pass(x, 1);
        due("MEET: they are no more, for ever", x.meet(0, 1), NONE);
    }

    private static void meetingInNinetyNine() {
        // Found by trying: p and q are at one corner for the first time at minute 105.
        ProperFollow x = Checks.townOf(ROUND + "person p e 0;person q a 0;person r a 0;person s d 0;person t e 0;person u f 0;"
                + "follows p t 5;follows q u 4;follows r s 2;follows s p 5;follows t r 4;follows u q 3;");
        pass(x, 5);
        due("MEET: not in 99", x.meet(0, 1), NONE);
        pass(x, 1);
        due("MEET: in 99", x.meet(0, 1), 99);
        for (int k = 98; k >= 0; k--) {
            due("they are apart yet", x.person(0, 0) == x.person(1, 0) ? 1 : 0, 0);
            pass(x, 1);
        }
        due("they are not", x.person(0, 0), x.person(1, 0));
        pass(x, 400 - 105 - 10);
        // The same run again at the end: what they do goes on behind minute 400, as if it were none.
        ProperFollow y = Checks.townOf(STREET + "person p a 0;person q h 0;");
        pass(y, 397);
        y.hire(1, 0, 1);
        due("MEET: MINUTE 400 no matter", y.meet(0, 1), 7);
        pass(y, 3);
        due("MEET: at MINUTE 400", y.meet(0, 1), 4);
    }

    private static final String FIVE = "corner a;corner b;corner c;corner d;corner e;street a b;street b c;street c d;street d e;";
    private static final String SEVEN = FIVE + "corner f;corner g;street e f;street f g;street g a;";

    private static void proper(String text, int want) {
        ProperFollow x = Checks.townOf(text);
        due("PROPER in " + text, x.proper(0, 1), want);
        due("PROPER: nothing is done", x.person(0, 2), NONE);
    }

    private static void properDistance() {
        proper(FIVE + "street e a;person p d 0;person q b 0;person r a 0;follows q r 1;follows r p 2;", 1);
        proper(FIVE + "street e a;corner f;person p d 0;person q f 0;", 1);
        proper(FIVE + "street e a;person p a 0;person q d 0;person r b 0;follows q r 3;follows r p 1;", 3);
        proper(FIVE + "street e a;person p d 0;person q b 0;person r e 0;follows q r 3;follows r p 2;", 4);
        proper(FIVE + "street e a;person p a 0;person q c 0;person r e 0;follows q r 4;follows r p 2;", 5);
        proper(FIVE + "street e a;person p e 0;person q e 0;person r a 0;follows q p 4;follows r p 2;", NONE);
        // By three he is seen in the twentieth minute here, and there in the twenty-first alone.
        proper(SEVEN + "person p d 0;person q a 0;person r g 0;person s c 0;person t e 0;follows q t 2;follows r t 4;"
                + "follows s r 3;follows t s 2;", 4);
        proper(SEVEN + "person p a 0;person q c 0;person r d 0;person s b 0;person t f 0;follows q t 1;follows r t 4;"
                + "follows s r 5;follows t s 1;", 3);
    }

    private static void properEdges() {
        ProperFollow x = Checks.townOf(STREET + "person p a 0;person q c 0;person r h 0;");
        due("PROPER: one BESIDE is seen", x.proper(0, 1), NONE);
        due("PROPER: at last he is there", x.proper(0, 2), NONE);
        ProperFollow apart = Checks.townOf("corner a;corner b;corner c;street a b;person p a 0;person q c 0;next p b;person r b 0;");
        due("PROPER: without a row he never comes near", apart.proper(0, 1), 1);
        due("PROPER: a WAY of his is gone then, not now", apart.person(0, 4), 1);
        due("PROPER: who goes away by his WAY does not go it", apart.proper(0, 2), NONE);
        ProperFollow other = Checks.townOf("corner a;corner b;corner c;street a b;person p a 0;person q c 0;person r b 0;follows p r 5;");
        due("PROPER: instead of what he does", other.proper(0, 1), 1);
        due("PROPER: he follows as he did", other.person(0, 2), 2);
        due("PROPER: by so many", other.person(0, 3), 5);
        ProperFollow late = Checks.townOf("corner a;corner b;corner c;street a b;person p a 0;person q c 0;");
        pass(late, 400);
        due("PROPER: MINUTE 400 no matter", late.proper(0, 1), 1);
        ProperFollow seen = Checks.townOf(STREET + "person p a 0;person q h 0;");
        pass(seen, 400);
        due("PROPER: MINUTE 400 no matter, he is seen", seen.proper(0, 1), NONE);
        due("PROPER: and it stays", seen.now(0), 400);
    }

    /** p goes down the ring of seven, q is led round in it: beside one another now, unseen from the next minute on. */
    private static void properNotNow() {
        ProperFollow x = Checks.townOf(SEVEN + "person p g 0;person q f 0;person r g 0;person s a 0;person t d 0;"
                + "follows q t 2;follows r q 4;follows s q 1;follows t s 2;");
        send(x, 0, 5, 4, 3, 2, 1, 0, 6, 5);
        pass(x, 1);
        due("PROPER: they are BESIDE one another now", x.corner(x.person(0, 0), 0) >> x.person(1, 0) & 1, 1);
        due("PROPER: now is none of the 20 MINUTES behind this one", x.proper(0, 1), 2);
        ProperFollow y = Checks.townOf(SEVEN + "person p g 0;person q e 0;person r c 0;follows q r 5;follows r p 4;");
        send(y, 0, 5, 4, 3, 2, 1, 0, 6, 5);
        pass(y, 8);
        due("PROPER: BESIDE now", y.corner(y.person(0, 0), 0) >> y.person(1, 0) & 1, 1);
        due("PROPER: and by four not any more", y.proper(0, 1), 4);
    }

    private static void fitting() {
        ProperFollow x = Checks.townOf(ROUND + "person p a 0;person q h 0;person r b 0;next p b;next p c;next p d;next p e;next p f;"
                + "next p g;next q a;");
        due("FITS: the last CORNER", Checks.fits(x, 7), 2);
        due("FITS: a byte that is neither a CORNER nor 255", Checks.fits(x, 8), NONE);
        due("FITS: 254", Checks.fits(x, 254), NONE);
        due("FITS: 255: not known", Checks.fits(x, 255), 7);
        due("FITS: 128", Checks.fits(x, 128), NONE);
        due("FITS: none", Checks.fits(x), NONE);
        pass(x, 6);
        due("FITS by six bytes", Checks.fits(x, 6, 5, 4, 3, 2, 1), 1);
        due("FITS by the sixth alone", Checks.fits(x, 255, 255, 255, 255, 255, 1), 1 | 4);
        due("FITS: the sixth is not so", Checks.fits(x, 6, 5, 4, 3, 2, 2), 0);
        due("FITS: the sixth is none", Checks.fits(x, 6, 5, 4, 3, 2, 8), NONE);
        due("FITS: not as told, though nobody is left", Checks.fits(x, 7, 8), NONE);
        due("FITS by seven", Checks.fits(x, 6, 5, 4, 3, 2, 1, 0), NONE);
        due("FITS: the tape is empty", x.count(3), 0);
        due("FITS: of who stays", Checks.fits(x, 1, 1, 1, 1, 1, 1), 4);
        due("FITS: of two", Checks.fits(x, 255, 0), 2);
    }

    private static void asking() {
        // All were together 0 to 4 minutes ago, and apart five minutes ago.
        ProperFollow x = Checks.townOf(STREET + "person p a 0;person q b 0;person r c 0;next p b;next r b;");
        pass(x, 5);
        due("all", Checks.fits(x, 255), 7);
        due("ASK: five MINUTES ago", x.ask(), 5);
        due("two of them", Checks.fits(x, 255, 255, 255, 255, 255, 255), 7);
        pass(x, 1);
        due("ASK: by where they were then", x.ask(), 5);
        due("all are where they were", Checks.fits(x, 255), 7);
        due("ASK: of like ones the least", x.ask(), 0);
        due("nobody", Checks.fits(x, 0), 0);
        due("ASK by the latest above 0", x.ask(), 0);
        // Two and one now, all three apart a minute ago: the greatest number left counts.
        ProperFollow y = Checks.townOf(STREET + "person p a 0;person q c 0;person r e 0;person s h 0;next p b;next q b;");
        pass(y, 1);
        due("all four", Checks.fits(y, 255), 15);
        due("ASK: a minute ago", y.ask(), 1);
        due("r and s of the least alone", Checks.fits(y, 4), 4);
        due("ASK: one is left anyway", y.ask(), 0);
        due("not as told", Checks.fits(y, 9), NONE);
        due("ASK stays", y.ask(), 0);
    }

    private static void askingOfLikeOnes() {
        for (int persons = 1; persons <= 6; persons++) {
            for (char c = 'a'; c <= 'h'; c++) {
                StringBuilder text = new StringBuilder(STREET);
                for (int p = 0; p < persons; p++) {
                    text.append("person ").append((char) ('p' + p)).append(' ').append(c).append(" 0;");
                }
                ProperFollow x = Checks.townOf(text.toString());
                due("all together", Checks.fits(x, 255), (1 << persons) - 1);
                due("ASK: all may be left whenever", x.ask(), 0);
            }
        }
        // Three at one end and one apart now, two and two a minute ago: whichever end it is.
        for (int end = 0; end <= 7; end += 7) {
            char at = (char) ('a' + end);
            char by = end == 0 ? 'b' : 'g';
            ProperFollow x = Checks.townOf(STREET + "person p " + at + " 0;person q " + at + " 0;person r " + by + " 0;person s " + by
                    + " 0;next r " + at + ";");
            pass(x, 1);
            due("all four", Checks.fits(x, 255), 15);
            due("ASK: the greatest number is the least a MINUTE ago", x.ask(), 1);
        }
    }

    private static void path(ProperFollow x, int p, int c, int... want) {
        due("PATH to " + c, x.path(p, c), want.length);
        for (int k = 0; k < want.length; k++) {
            due("PATH to " + c + ", " + k, x.pathAt(k), want[k]);
        }
        due("PATH: no more", x.pathAt(want.length), NONE);
    }

    private static void paths() {
        ProperFollow x = Checks.townOf(STREET + "person p a 0;person q h 0;");
        path(x, 0, 0);
        path(x, 0, 1, 1);
        path(x, 0, 7, 1, 2, 3, 4, 5, 6, 7);
        path(x, 1, 0, 6, 5, 4, 3, 2, 1, 0);
        ProperFollow y = Checks.townOf(ROUND + "person p a 0;person q e 0;");
        path(y, 0, 4, 1, 2, 3, 4);
        path(y, 0, 5, 7, 6, 5);
        path(y, 1, 0, 3, 2, 1, 0);
        ProperFollow z = Checks.townOf("corner a;corner b;person p a 0;");
        due("PATH: none", z.path(0, 1), NONE);
    }

    private static void bar(ProperFollow x, int c, int d, int... want) {
        int bits = 0;
        for (int e : want) {
            bits |= 1 << e;
        }
        due("BAR of " + c + ", " + d, x.bar(c, d), want.length);
        due("BAR of " + c + ", " + d + ", which", x.barred(), bits);
        due("BAR of " + d + ", " + c, x.bar(d, c), want.length);
        due("BAR of " + d + ", " + c + ", which", x.barred(), bits);
    }

    private static void bars() {
        bar(Checks.townOf("corner a;corner b;"), 0, 1);
        bar(Checks.townOf(STREET), 0, 7, 1);
        bar(Checks.townOf(STREET), 5, 7, 6);
        bar(Checks.townOf(ROUND), 0, 4, 1, 5);
        bar(Checks.townOf(ROUND), 3, 7, 0, 4);
        // Six corners between a and h: all of them.
        bar(Checks.townOf(EIGHT + "street a b;street a c;street a d;street a e;street a f;street a g;street h b;street h c;"
                + "street h d;street h e;street h f;street h g;"), 0, 7, 1, 2, 3, 4, 5, 6);
        // One corner through which all must go, though it is the greatest.
        bar(Checks.townOf(EIGHT + "street a b;street a c;street b h;street c h;street h d;street h e;street d g;street e g;"), 0, 6, 7);
        ProperFollow x = Checks.townOf(STREET);
        due("BAR: BESIDE one another", x.bar(0, 1), NONE);
        due("BAR: BESIDE one another, the other way", x.bar(1, 0), NONE);
        due("BAR: alike", x.bar(3, 3), NONE);
    }

    private static void hired(ProperFollow x, int pairs, int far, int... by) {
        due("HIRE ALL: how many", x.hires(), pairs);
        due("HIRE ALL: CORNERS of all PATHS", x.hiresFar(), far);
        for (int p = 0; p < by.length; p++) {
            due("HIRE ALL: who would follow " + p, x.hiredBy(p), by[p]);
        }
    }

    private static void hireAll() {
        hired(Checks.townOf(STREET), 0, 0, NONE, NONE);
        hired(Checks.townOf(STREET + "person p a 0;person q a 0;"), 0, 0, NONE, NONE);
        hired(Checks.townOf(STREET + "person p a 0;person q a 0;next p b;next q b;"), 0, 0, NONE, NONE);
        hired(Checks.townOf(STREET + "person p a 0;person q a 0;next p b;"), 1, 0, 1, NONE);
        hired(Checks.townOf(STREET + "person p a 0;person q h 0;next p b;"), 1, 7, 1, NONE);
        hired(Checks.townOf("corner a;corner b;corner c;street a b;person p a 0;person q c 0;next p b;"), 0, 0, NONE, NONE);
        // Who is not alone has one already; who follows is not idle.
        hired(Checks.townOf(STREET + "person p a 0;person q a 0;person r a 0;next p b;follows q p 1;"), 0, 0, NONE, NONE, NONE);
        hired(Checks.townOf(STREET + "person p a 0;person q a 0;person r a 0;next p b;follows q r 1;"), 1, 0, 2, NONE, NONE);
        // Each to one at most, each of these one at most.
        hired(Checks.townOf(STREET + "person p a 0;person q b 0;person r c 0;next p b;next q c;next r d;person s h 0;"), 1, 5,
                NONE, NONE, 3, NONE);
        hired(Checks.townOf(STREET + "person p a 0;person q b 0;person r c 0;person s h 0;next s g;"), 1, 5,
                NONE, NONE, NONE, 2);
        hired(Checks.townOf(STREET + "person p a 0;person q h 0;person r d 0;next p b;next q g;next r e;person s c 0;person t a 0;"
                + "person u g 0;"), 3, 2, 4, 5, 3, NONE, NONE, NONE);
    }

    private static void hireAllLikeOnes() {
        // As many as can be goes ahead of near: only s can come to p, though he stands with q.
        hired(Checks.townOf("corner a;corner b;corner c;corner d;street a b;street c d;person p a 0;person q b 0;next p b;next q a;"
                + "person s b 0;person t a 0;"), 2, 0, 3, 2, NONE, NONE);
        hired(Checks.townOf(STREET + "person p b 0;person q f 0;next p c;next q g;person s d 0;person t d 0;"), 2, 4, 2, 3);
        hired(Checks.townOf(STREET + "person t d 0;person s d 0;person q f 0;person p b 0;next p c;next q g;"), 2, 4, NONE, NONE, 0, 1);
        hired(Checks.townOf(STREET + "person p c 0;person q e 0;next p b;next q f;person s d 0;"), 1, 1, 2, NONE, NONE);
        hired(Checks.townOf(STREET + "person s d 0;person p c 0;person q e 0;next p b;next q f;"), 1, 1, NONE, 0, NONE);
        // Shortest in all: the nearest one to p is needed by q.
        hired(Checks.townOf(STREET + "person p c 0;person q e 0;next p b;next q f;person s d 0;person t a 0;"), 2, 3, 3, 2, NONE, NONE);
    }

    private static void mean(ProperFollow x, int above, int below) {
        due("MEAN above", x.mean(0), above);
        due("MEAN below", x.mean(1), below);
    }

    private static void means() {
        for (int persons = 1; persons <= 6; persons++) {
            StringBuilder text = new StringBuilder(TWO);
            for (int p = 0; p < persons; p++) {
                text.append("person ").append((char) ('p' + p)).append(" a 0;");
            }
            ProperFollow x = Checks.townOf(text.toString());
            mean(x, 0, 1);
            for (int prints = 1; prints <= 13; prints++) {
                send(x, 0, prints % 2);
                pass(x, 1);
                int common = 1;
                for (int d = 2; d <= persons; d++) {
                    common = prints % d == 0 && persons % d == 0 ? d : common;
                }
                mean(x, prints / common, persons / common);
            }
            due("MEAN: no such one above", Checks.meanThrows(x, 2) ? 1 : 0, 1);
            due("MEAN: no such one below", Checks.meanThrows(x, -1) ? 1 : 0, 1);
        }
    }

    private static void line(ProperFollow x, int p, String want) {
        String got = Checks.lineOf(x, p);
        due("LINE '" + got + "', due is '" + want + "'", got.equals(want) ? 1 : 0, 1);
    }

    private static void lines() {
        ProperFollow x = Checks.townOf("corner a;corner bbbbbbb;street a bbbbbbb;person p a 0;person qqqqqqq bbbbbbb 0;"
                + "person rrrrrrr bbbbbbb 0;follows qqqqqqq rrrrrrr 5;");
        line(x, 0, "p at a stays");
        line(x, 1, "qqqqqqq at bbbbbbb after rrrrrrr");
        line(x, 2, "rrrrrrr at bbbbbbb stays");
        for (int k = 1; k <= 8; k++) {
            send(x, 0, k % 2);
            line(x, 0, "p at a goes " + k);
        }
        pass(x, 7);
        line(x, 0, "p at bbbbbbb goes 1");
        pass(x, 1);
        line(x, 0, "p at a stays");
        line(Checks.townOf("corner z;person a z 0;person zz z 0;follows zz a 1;"), 1, "zz at z after a");
    }

    private static long seed;

    /** A draw as the document tells it, without an int that wraps by itself. */
    private static int draw(int n) {
        seed = (seed * 1103515245L + 12345L) & 0xffffffffL;
        return (int) ((seed >> 8) % n);
    }

    private static void byHand(ProperFollow y, int persons, int corners) {
        for (int p = 0; p < persons; p++) {
            int act = draw(8);
            if (act == 0) {
                int q = draw(persons);
                int n = draw(5) + 1;
                y.hire(p, q, n);
            } else if (act == 1) {
                y.leave(p);
            } else if (act <= 4) {
                y.send(p, draw(corners));
            } else if (act == 5) {
                y.drop(p);
            }
        }
        due("then the MINUTE", y.minutes(1), 1);
    }

    private static void drawsWrap() {
        int[] seeds = {0, 1, -1, 2, 255, 256, -256, 65535, Integer.MAX_VALUE, Integer.MIN_VALUE, Integer.MAX_VALUE - 1,
            Integer.MIN_VALUE + 1, 0x55555555, 0xaaaaaaaa, 1103515245, 12345, -12345};
        String text = ROUND + "person p a 9;person q c 3;person r e 0;person s g 1;person t h 2;";
        for (int from : seeds) {
            ProperFollow x = Checks.townOf(text);
            due("DRAWN by seed " + from, x.drawn(12, from), 12);
            ProperFollow y = Checks.townOf(text);
            seed = from & 0xffffffffL;
            for (int k = 0; k < 12; k++) {
                byHand(y, 5, 8);
            }
            Checks.same("an int, wrapping: seed " + from, Checks.all(x, true), Checks.all(y, true));
        }
    }

    private static void drawsOneByOne() {
        // One person: who would hire himself hires nobody, and nothing but his way and his buns changes.
        for (int from = -30; from <= 30; from++) {
            ProperFollow x = Checks.townOf(TWO + "person p a 2;");
            ProperFollow y = Checks.townOf(TWO + "person p a 2;");
            due("DRAWN, one person", x.drawn(9, from), 9);
            seed = from & 0xffffffffL;
            for (int k = 0; k < 9; k++) {
                byHand(y, 1, 2);
            }
            Checks.same("if they are unlike: seed " + from, Checks.all(x, true), Checks.all(y, true));
            due("he follows nobody", x.person(0, 2), NONE);
        }
        ProperFollow none = Checks.townOf(TWO);
        due("DRAWN, nobody", none.drawn(60, 5), 60);
        due("DRAWN, nobody: the MINUTE", none.now(0), 60);
    }

    private static void newTown() {
        ProperFollow x = Checks.townOf(TWO + "person p a 3;person q b 0;follows q p 1;next p b;");
        x.drop(0);
        x.drop(0);
        pass(x, 3);
        Checks.sentence(x, "idle");
        due("a PRINT", x.now(5) > 0 ? 1 : 0, 1);
        x.minutes(1);
        Checks.town(x, TWO + "person p a 3;");
        due("A new TOWN: MINUTE 0", x.now(0), 0);
        due("A new TOWN: no PRINTS", x.now(5) + x.corner(0, 3) + x.corner(1, 3), 0);
        due("A new TOWN: no buns at CORNERS", x.corner(0, 2) + x.corner(1, 2), 0);
        due("A new TOWN: none found", x.now(6), 0);
        due("A new TOWN: no SENTENCE", x.said(NONE), NONE);
        due("A new TOWN: nobody follows", x.now(1), 0);
        due("A new TOWN: nobody has a WAY", x.now(2), 0);
        due("A new TOWN: he was where he is told", x.was(0, 1) + x.was(0, 5), 0);
        Checks.town(x, TWO + "person p a 3;person q b 0;person r a 0;");
        for (int p = 0; p < 3; p++) {
            due("A new TOWN: whom he follows", x.person(p, 2), NONE);
            due("A new TOWN: by how many MINUTES", x.person(p, 3), NONE);
            due("A new TOWN: his WAY", x.person(p, 4), 0);
        }
    }
}

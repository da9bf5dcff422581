/** Promise by promise: ordinary calls, the edges that the document names, and wrong ones. */
public final class PromisesTest {
    private static final int NONE = ProperFollow.NONE;

    /** A square a b c d, and e apart; ann goes, bob follows her by two minutes, cid and dan stand. */
    private static final String SQUARE = "corner a;corner b;corner c;corner d;corner e;street a b;street b c;"
            + "street c d;street a d;person ann a 1;person bob c 2;person cid e 0;person dan b 0;"
            + "next ann b;next ann c;next ann d;follows bob ann 2;";

    /** A long street a b c d e f g h, all idle: p at a, q at h, r at d, s at a. */
    private static final String STREET = "corner a;corner b;corner c;corner d;corner e;corner f;corner g;corner h;"
            + "street a b;street b c;street c d;street d e;street e f;street f g;street g h;"
            + "person p a 2;person q h 0;person r d 1;person s a 0;";

    private static void due(String what, long got, long want) {
        Checks.due(what, got, want);
    }

    private static void due(String what, boolean got, boolean want) {
        Checks.due(what, got, want);
    }

    public static void main(String[] args) {
        promise1();
        promises2And3();
        promise4Town();
        promise4Faults();
        promise4Limits();
        promise4Bytes();
        promise5();
        promise6();
        promise7();
        promise8();
        promise9();
        promises10To13();
        promise14();
        promise14Following();
        promise14Buns();
        promise15();
        promises16To18();
        promise19();
        promise20();
        promises21And22();
        promises23And24();
        promises25And26();
        promises27To29();
        promise30();
        promises31And32();
        promise33();
        promise34();
        promise35Faults();
        promises35And36();
        promise37();
        promise37Faults();
        promise38();
        promises39And40();
        promise41();
        Checks.finish();
    }

    private static void promise1() {
        ProperFollow x = new ProperFollow();
        for (int k = 0; k < 4; k++) {
            due("1: count(" + k + ")", x.count(k), 0);
        }
        due("1: fault", x.fault(), 0);
        due("1: minute", x.now(0), 0);
        due("1: no person", Checks.personThrows(x, 0, 0), true);
    }

    private static void promises2And3() {
        ProperFollow x = new ProperFollow();
        due("3: end(0) of nothing", x.end(0), true);
        due("3: end(1) of nothing", x.end(1), false);
        for (int k = 1; k <= 47; k++) {
            due("2: feed", x.feed(0, 0, 0, 0, 0), 20 * k);
        }
        due("2: no room", x.feed(0, 0, 0, 0, 0), NONE);
        due("2: none came", x.count(3), 940);
        due("3: below 0", x.end(-1), false);
        due("3: too many", x.end(941), false);
        due("3: all", x.end(940), true);
        due("3: fewer", x.end(921), true);
        due("2: 941 is too many", x.feed(0, 0, 0, 0, 0), NONE);
        due("3: fewer", x.end(920), true);
        due("2: 940 is not", x.feed(0, 0, 0, 0, 0), 940);
        due("3: the least number", x.end(Integer.MIN_VALUE), false);
        due("3: none left", x.end(0), true);
        due("3: count", x.count(3), 0);
        // 'corn' 'er a' ';   ' and blanks: the highest byte of each number first, negative ones too.
        x.feed(0x636f726e, 0x65722061, 0x3b202020, 0x20202020, 0x20202020);
        due("2: the order of bytes", x.town(), 1);
        x.feed(0x01020304, 0xff000000, 0, 0, 0);
        x.end(5);
        due("2: five bytes", x.fits(), NONE);
        x.feed(0xffffff00, 0, 0, 0, 0);
        x.end(4);
        due("2: unknown thrice, corner 0", x.fits(), 0);
    }

    private static void promise4Town() {
        ProperFollow x = new ProperFollow();
        due("4: an empty town", x.town(), 0);
        due("4: lines", Checks.town(x, SQUARE), 17);
        due("4: the tape is empty", x.count(3), 0);
        due("4: a fault", Checks.town(x, "corner z;corner"), -16);
        due("4: the tape is empty then, too", x.count(3), 0);
        due("4: the town stays", x.count(0), 5);
        x.minutes(3);
        x.drop(1);
        Checks.sentence(x, "idle");
        due("4: a new one", Checks.town(x, "corner a;\n\n person p a 9 ;"), 2);
        due("4: minute 0", x.now(0), 0);
        due("4: no prints", x.now(5), 0);
        due("4: no buns lie", x.corner(0, 2), 0);
        due("4: no sentence", x.said(NONE), NONE);
        due("4: nothing to undo", x.undo(), NONE);
        due("4: blanks alone", Checks.town(x, " \n \n"), 0);
        due("4: no corner any more", x.count(0), 0);
        due("4: without blanks", Checks.town(x, "corner a;corner b;street a b;person p a 0;next p b;next p a;"), 6);
        due("4: numbers with noughts", Checks.town(x, "corner a;person p a 009;"), 2);
        due("4: nine buns", x.person(0, 1), 9);
    }

    private static void townFault(String text, int kind, int place) {
        ProperFollow x = new ProperFollow();
        due("4: place in '" + text + "'", Checks.town(x, text), -1 - place);
        due("4: kind in '" + text + "'", x.fault(), kind);
    }

    private static void promise4Faults() {
        String two = "corner a;corner b;";
        String persons = "corner a;corner b;street a b;person p a 0;person q b 0;";
        int far = persons.length();
        townFault("corner", 1, 6);
        townFault("corner  ", 1, 8);
        townFault("corner a", 1, 8);
        townFault("corner a corner", 1, 9);
        townFault(";", 1, 0);
        townFault("a;", 1, 0);
        townFault("corner corner;", 1, 7);
        townFault("corner goes;", 1, 7);
        townFault("corner number;", 1, 7);
        townFault("corner 1;", 1, 7);
        townFault("corner abcdefgh;", 1, 7);
        townFault("corner a1;", 1, 7);
        townFault("corner a\u0000;", 1, 8);
        townFault("corner A;", 1, 7);
        townFault("corner\ta;", 1, 6);
        townFault("corner a.", 1, 8);
        townFault("goes a;", 1, 0);
        townFault("corner a;corner a;", 3, 16);
        townFault(two + "street c a;", 3, 25);
        townFault(two + "street a c;", 3, 27);
        townFault(two + "street a a;", 3, 27);
        townFault(two + "street a b;street b a;", 3, 38);
        townFault(two + "street a 1;", 1, 27);
        townFault(two + "person a b 0;", 3, 25);
        townFault(two + "person p q 0;", 3, 27);
        townFault(two + "person p a 10;", 2, 29);
        townFault(two + "person p a 1000;", 1, 29);
        townFault(two + "person p a b;", 1, 29);
        townFault(two + "person p a;", 1, 28);
        townFault(persons + "corner p;", 3, far + 7);
        townFault(persons + "street p a;", 3, far + 7);
        townFault(persons + "next a b;", 3, far + 5);
        townFault(persons + "next r b;", 3, far + 5);
        townFault(persons + "next p q;", 3, far + 7);
        townFault(persons + "next p a;", 3, far + 7);
        townFault(persons + "next p b;next p b;", 3, far + 16);
        townFault(persons + "follows p p 1;", 3, far + 10);
        townFault(persons + "follows p a 1;", 3, far + 10);
        townFault(persons + "follows p q 0;", 2, far + 12);
        townFault(persons + "follows p q 6;", 2, far + 12);
        townFault(persons + "follows p q 1;follows p q 2;", 3, far + 22);
        townFault(persons + "follows p q 1;next p b;", 3, far + 19);
        townFault(persons + "next p b;follows p q 1;", 3, far + 17);
        ProperFollow x = new ProperFollow();
        due("4: a ring", Checks.town(x, persons + "follows p q 1;follows q p 5;"), 7);
        due("4: seven letters, three digits", Checks.town(x, "corner abcdefg;person p abcdefg 001;"), 2);
    }

    private static void promise4Limits() {
        StringBuilder text = new StringBuilder();
        for (char c = 'a'; c <= 'h'; c++) {
            text.append("corner ").append(c).append(';');
        }
        townFault(text + "corner", 4, 72);
        townFault(text + "corner a;", 4, 72);
        int streets = 0;
        for (char c = 'a'; c <= 'h' && streets < 14; c++) {
            for (char d = 'a'; d < c && streets < 14; d++) {
                text.append("street ").append(c).append(' ').append(d).append(';');
                streets++;
            }
        }
        ProperFollow x = new ProperFollow();
        due("4: fourteen streets", Checks.town(x, text.toString()), 22);
        due("4: as told", x.count(1), 14);
        townFault(text + "street zed zed;", 4, text.length());
        for (char p = 'p'; p <= 'u'; p++) {
            text.append("person ").append(p).append(" a 0;");
        }
        due("4: six persons", Checks.town(x, text.toString()), 28);
        townFault(text + "person;", 4, text.length());
        for (int k = 0; k < 8; k++) {
            text.append("next u ").append(k % 2 == 0 ? 'b' : 'a').append(';');
        }
        due("4: eight 'next'", Checks.town(x, text.toString()), 36);
        due("4: his way", x.person(5, 4), 8);
        townFault(text + "next u zed;", 4, text.length() + 5);
    }

    private static void promise4Bytes() {
        ProperFollow x = new ProperFollow();
        String blanks = " ".repeat(891);
        due("4: 900 bytes", Checks.town(x, blanks + "corner a;"), 1);
        due("4: 901 bytes", Checks.town(x, blanks + "corner a; "), -901);
        due("4: kind of 901", x.fault(), 1);
        due("4: a blank ahead of the end", Checks.town(x, blanks + " corner a;"), -901);
        due("4: a token that goes beyond", Checks.town(x, blanks + " corner abc;"), -901);
        due("4: one that is none, read whole", Checks.town(x, blanks + " corner abcdefgh;"), -900);
        due("4: one that begins at 900", Checks.town(x, blanks + "  corner A;"), -901);
        due("4: a fault ahead", Checks.town(x, "zed" + blanks + "corner a;"), -1);
        due("4: 940 blanks", Checks.town(x, " ".repeat(940)), -901);
    }

    private static void promise5() {
        ProperFollow x = new ProperFollow();
        Checks.town(x, "corner a;corner a;");
        due("5: of a town", x.fault(), 3);
        Checks.tape(x, "zed drops;");
        due("5: -1000", x.book(2), -1000);
        due("5: it leaves it", x.fault(), 3);
        due("5: the tape stays", x.count(3), 10);
        x.end(0);
        Checks.book(x, "minute 61;", 0);
        due("5: of a book", x.fault(), 2);
        Checks.sentence(x, "idle)");
        due("5: of a sentence", x.fault(), 1);
        x.fits();
        due("5: fits() leaves it", x.fault(), 1);
        Checks.sentence(x, "idle");
        due("5: without one", x.fault(), 0);
    }

    private static void promise6() {
        ProperFollow x = Checks.townOf(SQUARE + "follows dan bob 5;");
        int[][] want = {{0, 1, -1, -1, 3, 2, 0}, {2, 2, 0, 2, 0, 8, 0}, {4, 0, -1, -1, 0, 0, 2}, {1, 0, 1, 5, 0, 0, 0}};
        for (int p = 0; p < 4; p++) {
            for (int k = 0; k < 7; k++) {
                due("6: person(" + p + ", " + k + ")", x.person(p, k), want[p][k]);
            }
        }
        due("6: no such person", Checks.personThrows(x, 4, 0), true);
        due("6: below 0", Checks.personThrows(x, -1, 0), true);
        due("6: no such what", Checks.personThrows(x, 0, 7), true);
        due("6: what below 0", Checks.personThrows(x, 0, -1), true);
        x.leave(1);
        due("6: nobody", x.person(1, 2), NONE);
        due("6: by none", x.person(1, 3), NONE);
    }

    private static void promise7() {
        ProperFollow x = Checks.townOf("corner a;corner b;street a b;person p a 0;next p b;next p a;next p b;next p a;next p b;next p a;next p b;");
        for (int k = 0; k < 6; k++) {
            due("7: ahead of minute 0", x.was(0, k), 0);
        }
        x.minutes(3);
        int[] three = {1, 0, 1, 0, 0, 0};
        int[] seven = {1, 0, 1, 0, 1, 0};
        for (int k = 0; k < 6; k++) {
            due("7: three minutes", x.was(0, k), three[k]);
        }
        x.image(1);
        x.minutes(4);
        for (int k = 0; k < 6; k++) {
            due("7: seven minutes", x.was(0, k), seven[k]);
        }
        x.undo();
        due("7: undone", x.was(0, 3), 0);
        x.minutes(4);
        x.restore(1);
        due("7: restored", x.was(0, 3), 0);
        due("7: k too great", x.was(0, 6), NONE);
        due("7: k below 0", x.was(0, -1), NONE);
        due("7: no such person", x.was(1, 0), NONE);
    }

    private static void promise8() {
        ProperFollow x = Checks.townOf(SQUARE);
        x.drop(1);
        x.drop(1);
        x.minutes(1);
        int[][] want = {{10, 0, 0, 0}, {5, 11, 0, 2}, {10, 0, 2, 0}, {5, 0, 0, 0}, {0, 4, 0, 0}};
        for (int c = 0; c < 5; c++) {
            for (int k = 0; k < 4; k++) {
                due("8: corner(" + c + ", " + k + ")", x.corner(c, k), want[c][k]);
            }
        }
        due("8: no such corner", x.corner(5, 0), NONE);
        due("8: below 0", x.corner(-1, 0), NONE);
        due("8: no such what", x.corner(0, 4), NONE);
        due("8: what below 0", x.corner(0, -1), NONE);
    }

    private static void promise9() {
        ProperFollow x = Checks.townOf(STREET + "follows p q 1;follows q p 1;follows r p 2;next s b;");
        int[] want = {0, 7, 8, 3, 1, 0, 0};
        for (int k = 0; k < 7; k++) {
            due("9: now(" + k + ")", x.now(k), want[k]);
        }
        x.drop(0);
        x.minutes(1);
        due("9: minute", x.now(0), 1);
        due("9: s has gone his way", x.now(2), 0);
        due("9: prints", x.now(5), 4);
        due("9: another what", x.now(7), NONE);
        due("9: below 0", x.now(-1), NONE);
    }

    private static void promises10To13() {
        ProperFollow x = Checks.townOf(SQUARE);
        due("10: he follows", x.send(1, 1), 1);
        due("10: not beside the last of his way", x.send(0, 1), 3);
        for (int k = 0; k < 5; k++) {
            due("10: on", x.send(0, k % 2 == 0 ? 0 : 3), 0);
        }
        due("10: eight are the most, the least reason first", x.send(0, 4), 2);
        due("10: not beside where he is", x.send(3, 3), 3);
        due("10: where he is himself", x.send(3, 1), 3);
        due("10: no such corner", x.send(3, 5), NONE);
        due("10: no such person", x.send(4, 0), NONE);
        due("10: below 0", x.send(-1, 0), NONE);
        due("10: corner below 0", x.send(3, -1), NONE);
        due("11: a bun", x.drop(1), 0);
        due("11: and one more", x.drop(1), 0);
        due("11: he has none", x.drop(1), 1);
        due("11: they lie there", x.corner(2, 2), 2);
        due("11: no such person", x.drop(4), NONE);
        due("11: below 0", x.drop(-1), NONE);
        due("12: he follows nobody", x.leave(0), 1);
        due("12: he leaves", x.leave(1), 0);
        due("12: once", x.leave(1), 1);
        due("12: no such person", x.leave(4), NONE);
        due("12: below 0", x.leave(-1), NONE);
        due("13: that one has a way", x.hire(1, 0, 1), 2);
        due("13: hired", x.hire(0, 1, 5), 0);
        due("13: whom he follows", x.person(1, 2), 0);
        due("13: by five", x.person(1, 3), 5);
        due("13: that one follows", x.hire(2, 1, 1), 1);
        due("13: who follows may hire", x.hire(1, 2, 1), 0);
        due("13: alike", x.hire(3, 3, 1), NONE);
        due("13: by none", x.hire(1, 3, 0), NONE);
        due("13: by six", x.hire(1, 3, 6), NONE);
        due("13: no such one", x.hire(1, 4, 1), NONE);
        due("13: no such other", x.hire(4, 1, 1), NONE);
    }

    private static void promise14() {
        ProperFollow x = Checks.townOf(SQUARE);
        due("14: none", x.minutes(0), NONE);
        due("14: below 0", x.minutes(-1), NONE);
        due("14: too many", x.minutes(61), NONE);
        for (int k = 1; k <= 6; k++) {
            due("14: sixty", x.minutes(60), 60);
        }
        due("14: the rest", x.minutes(60), 40);
        due("14: minute 400", x.now(0), 400);
        due("14: all are over", x.minutes(1), 0);
        due("14: and stay so", x.now(0), 400);
        due("14: drawn ones, too", x.drawn(5, 1), 0);
        due("14: what was undone last is the rest", x.undo(), 6);
        due("14: minute 360", x.now(0), 360);
    }

    private static void promise14Following() {
        // Two like ways round the square: corner by corner the least; all go at once.
        ProperFollow x = Checks.townOf("corner d;corner c;corner b;corner a;street a b;street b c;street c d;street d a;"
                + "person p a 0;person q c 0;follows q p 1;");
        x.minutes(1);
        due("14: by the least corner", x.person(1, 0), 0);
        x.minutes(1);
        due("14: he is there", x.person(1, 0), 3);
        x.minutes(1);
        due("14: and stays", x.person(1, 0), 3);
        due("14: prints of two steps", x.now(5), 2);
        // p and q follow one another by one minute: they change places, and so on.
        ProperFollow y = Checks.townOf(STREET + "follows p s 1;follows r p 1;next s b;next s c;next s d;");
        y.minutes(1);
        due("14: p is where s was", y.person(0, 0), 0);
        due("14: r comes nearer", y.person(2, 0), 2);
        y.minutes(1);
        due("14: p is a minute behind", y.person(0, 0), 1);
        due("14: r is where p was", y.person(2, 0), 1);
        due("14: s goes", y.person(3, 0), 2);
        // Five minutes behind: four minutes ago is what he goes towards.
        ProperFollow z = Checks.townOf(STREET + "follows p s 5;next s b;next s c;next s d;next s e;next s f;next s g;");
        int[] p = {0, 0, 0, 0, 0, 0, 1, 2, 3, 4, 5, 6, 6};
        for (int k = 0; k < p.length; k++) {
            due("14: p at minute " + k, z.person(0, 0), p[k]);
            z.minutes(1);
        }
        ProperFollow apart = Checks.townOf(SQUARE);
        apart.hire(0, 2, 1);
        apart.minutes(5);
        due("14: no row, he stays", apart.person(2, 0), 4);
    }

    private static void promise14Buns() {
        ProperFollow x = Checks.townOf("corner a;person p a 0;person q a 3;person r a 0;follows p q 1;follows r q 1;");
        x.drop(1);
        x.drop(1);
        x.drop(1);
        x.minutes(1);
        due("14: p takes one", x.person(0, 1), 1);
        due("14: r takes one", x.person(2, 1), 1);
        due("14: who follows nobody takes none", x.person(1, 1), 0);
        due("14: one lies yet", x.corner(0, 2), 1);
        x.minutes(1);
        due("14: p is first", x.person(0, 1), 2);
        due("14: r has none left", x.person(2, 1), 1);
        due("14: found", x.now(6), 3);
        due("14: nobody moved", x.now(5), 0);
    }

    private static void promise15() {
        ProperFollow x = Checks.townOf(SQUARE);
        due("15: none", x.undo(), NONE);
        x.send(0, 0);
        x.send(0, 2);
        due("15: what was not done does not count", x.undo(), 0);
        due("15: as it was", x.person(0, 4), 3);
        due("15: no more", x.undo(), NONE);
        x.drop(0);
        x.leave(1);
        x.hire(0, 1, 4);
        x.minutes(2);
        x.drawn(2, 7);
        Checks.sentence(x, "idle");
        due("15: lived", Checks.book(x, "minute 1;dan goes e;", 1), 1);
        due("15: judged alone", Checks.book(x, "minute 1;", 0), NONE);
        due("15: none lived", Checks.book(x, "dan goes e;", 1), 0);
        due("15: minute", x.now(0), 5);
        due("15: the book", x.undo(), 5);
        due("15: minute", x.now(0), 4);
        due("15: the draws", x.undo(), 4);
        due("15: minute", x.now(0), 2);
        due("15: the minutes", x.undo(), 3);
        due("15: prints", x.now(5), 0);
        due("15: the hiring", x.undo(), 2);
        due("15: nobody", x.person(1, 2), NONE);
        due("15: the leaving", x.undo(), 1);
        due("15: by two", x.person(1, 3), 2);
        due("15: the bun", x.undo(), 0);
        due("15: he has it", x.person(0, 1), 1);
        due("15: the sentence stays", x.said(NONE) != NONE, true);
        for (int k = 0; k < 10; k++) {
            x.minutes(1);
        }
        for (int k = 7; k >= 0; k--) {
            due("15: eight are kept", x.undo(), k);
        }
        due("15: no ninth", x.undo(), NONE);
        due("15: minute 2", x.now(0), 2);
    }

    private static void promises16To18() {
        ProperFollow x = Checks.townOf("corner a;person p a 0;person q a 0;person r a 0;person s a 0;person t a 0;person u a 0;"
                + "follows p u 1;follows u p 1;follows q s 1;follows s r 1;follows r q 1;follows t q 2;");
        due("18: ahead of any", x.cutting(), NONE);
        due("16: two", x.ring(0), 33);
        due("16: three", x.ring(2), 14);
        due("16: behind a ring, in none", x.ring(4), 0);
        due("16: no such one", x.ring(6), NONE);
        due("16: below 0", x.ring(-1), NONE);
        due("9: rings", x.now(4), 2);
        due("9: in rings", x.now(3), 47);
        due("6: the last of his row", x.person(4, 6), 2);
        due("17: two should leave", x.cut(), 2);
        due("18: the least", x.cutting(), 3);
        x.leave(1);
        due("18: by the latest cut()", x.cutting(), 3);
        due("17: one", x.cut(), 1);
        due("18: who", x.cutting(), 1);
        x.leave(0);
        due("17: none", x.cut(), 0);
        due("18: nobody", x.cutting(), 0);
    }

    private static void promise19() {
        ProperFollow x = Checks.townOf(STREET + "follows q p 1;");
        due("19: they are", x.meet(0, 3), 0);
        due("19: seven corners", x.meet(0, 1), 7);
        due("19: on his way", x.meet(1, 2), 4);
        due("19: never", x.meet(0, 2), NONE);
        due("19: alike", x.meet(1, 1), NONE);
        due("19: no such one", x.meet(0, 4), NONE);
        due("19: below 0", x.meet(-1, 0), NONE);
        for (int k = 0; k < 7; k++) {
            x.minutes(60);
        }
        x.hire(2, 3, 1);
        due("19: minute 400 no matter", x.meet(2, 3), 3);
        due("19: nothing has gone by", x.now(0), 400);
        // They change places for ever; only p stops, so that q comes to him.
        ProperFollow y = Checks.townOf("corner a;corner b;street a b;person p a 0;person q b 0;follows p q 1;follows q p 1;");
        due("19: always apart", y.meet(0, 1), NONE);
        y.leave(0);
        due("19: one stands", y.meet(0, 1), 1);
        // These two go round and round and meet for the first time at minute 105.
        ProperFollow late = Checks.townOf("corner a;corner b;corner c;corner d;corner e;corner f;corner g;corner h;street a b;"
                + "street b c;street c d;street d e;street e f;street f g;street g h;street a h;person p e 0;person q a 0;"
                + "person r a 0;person s d 0;person t e 0;person u f 0;follows p t 5;follows q u 4;follows r s 2;"
                + "follows s p 5;follows t r 4;follows u q 3;");
        for (int k = 0; k < 106; k++) {
            due("19: at minute " + k, late.meet(0, 1), 105 - k > 99 ? NONE : 105 - k);
            due("19: they are apart", late.person(0, 0) == late.person(1, 0), k == 105);
            late.minutes(1);
        }
    }

    private static void promise20() {
        ProperFollow x = Checks.townOf(STREET);
        due("20: he comes to him", x.proper(0, 1), NONE);
        due("20: alike", x.proper(0, 0), NONE);
        due("20: no such one", x.proper(0, 4), NONE);
        due("20: below 0", x.proper(-1, 0), NONE);
        due("20: nothing has changed", x.now(1), 0);
        for (int k = 0; k < 7; k++) {
            x.minutes(60);
        }
        due("20: minute 400 no matter, he comes to him", x.proper(0, 1), NONE);
        ProperFollow z = Checks.townOf("corner a;corner b;corner c;corner d;street a b;street b c;"
                + "person p d 0;person q a 0;person r c 0;");
        due("20: no row to him, never near", z.proper(0, 1), 1);
        due("20: the other way round", z.proper(1, 0), 1);
        due("20: two corners away, but he comes near", z.proper(2, 1), NONE);
        chase();
    }

    /** Round five or six corners they run after one another: by what distance p is not seen behind q. */
    private static void chase() {
        String five = "corner a;corner b;corner c;corner d;corner e;street a b;street b c;street c d;street d e;";
        String six = five + "corner f;street e f;street f a;";
        five = five + "street e a;";
        chase(five + "person p e 0;person q e 0;person r a 0;follows q p 4;follows r p 2;", NONE);
        chase(five + "person p d 0;person q b 0;person r a 0;follows q r 1;follows r p 2;", 1);
        chase(six + "person p e 0;person q b 0;person r e 0;follows q p 2;follows r p 5;", 2);
        chase(five + "person p a 0;person q d 0;person r b 0;follows q r 3;follows r p 1;", 3);
        chase(five + "person p d 0;person q b 0;person r e 0;follows q r 3;follows r p 2;", 4);
        chase(five + "person p a 0;person q c 0;person r e 0;follows q r 4;follows r p 2;", 5);
        String seven = "corner a;corner b;corner c;corner d;corner e;corner f;corner g;street a b;street b c;street c d;"
                + "street d e;street e f;street f g;street g a;";
        // By three he is seen in the twentieth minute here, and there in the next one.
        chase(seven + "person p d 0;person q a 0;person r g 0;person s c 0;person t e 0;"
                + "follows q t 2;follows r t 4;follows s r 3;follows t s 2;", 4);
        chase(seven + "person p a 0;person q c 0;person r d 0;person s b 0;person t f 0;"
                + "follows q t 1;follows r t 4;follows s r 5;follows t s 1;", 3);
    }

    private static void chase(String text, int want) {
        ProperFollow x = Checks.townOf(text);
        due("20: " + text, x.proper(0, 1), want);
        for (int n = 1; n <= (want == NONE ? 5 : want); n++) {
            due("20: by " + n + " in " + text, unseen(x, n), n == want);
        }
    }

    private static boolean unseen(ProperFollow x, int n) {
        x.image(0);
        due("20: he follows then", x.hire(1, 0, n), 0);
        boolean unseen = true;
        for (int k = 0; k < 20; k++) {
            x.minutes(1);
            int at = x.person(0, 0);
            int his = x.person(1, 0);
            unseen &= at != his && (x.corner(his, 0) >> at & 1) == 0;
        }
        x.restore(0);
        return unseen;
    }

    private static void promises21And22() {
        ProperFollow x = Checks.townOf(SQUARE);
        due("22: ahead of any", x.ask(), NONE);
        due("21: an empty tape", x.fits(), NONE);
        due("21: seven bytes", Checks.fits(x, 255, 255, 255, 255, 255, 255, 255), NONE);
        due("21: no such corner", Checks.fits(x, 5), NONE);
        due("21: no such corner behind", Checks.fits(x, 255, 254), NONE);
        due("21: nobody", Checks.fits(x, 0, 1), 0);
        due("22: not by a fits() of 0", x.ask(), NONE);
        due("21: six bytes", Checks.fits(x, 255, 255, 255, 255, 255, 255), 15);
        due("21: the tape is empty", x.count(3), 0);
        due("22: all apart now", x.ask(), 0);
        x.minutes(1);
        // Now ann, bob and dan are at b; a minute ago they were apart.
        due("21: at b", Checks.fits(x, 1), 11);
        due("22: a minute ago", x.ask(), 1);
        due("21: at b, from c", Checks.fits(x, 1, 2), 2);
        due("22: of one, the least", x.ask(), 0);
        due("21: from b", Checks.fits(x, 255, 1), 8);
        due("21: all", Checks.fits(x, 255), 15);
        due("22: one of each then", x.ask(), 1);
        x.minutes(1);
        due("22: by where they were then", x.ask(), 1);
        due("21: nobody", Checks.fits(x, 4, 0), 0);
        due("22: the latest above 0", x.ask(), 1);
        due("21: two minutes ago", Checks.fits(x, 255, 255, 2), 2);
    }

    private static void promises23And24() {
        ProperFollow x = Checks.townOf(SQUARE);
        due("24: ahead of any", x.pathAt(0), NONE);
        due("23: two corners", x.path(0, 2), 2);
        due("24: the least", x.pathAt(0), 1);
        due("24: and there", x.pathAt(1), 2);
        due("24: no more", x.pathAt(2), NONE);
        due("24: below 0", x.pathAt(-1), NONE);
        due("23: none", x.path(0, 4), NONE);
        due("23: no such person", x.path(4, 0), NONE);
        due("23: no such corner", x.path(0, 5), NONE);
        due("23: below 0", x.path(0, -1), NONE);
        due("24: by the latest that was not NONE", x.pathAt(1), 2);
        due("23: he is there", x.path(0, 0), 0);
        due("24: no corner", x.pathAt(0), NONE);
        ProperFollow y = Checks.townOf(STREET);
        due("23: seven corners", y.path(0, 7), 7);
        Checks.town(y, "corner a;");
        for (int k = 0; k < 7; k++) {
            due("24: it stays in a new town", y.pathAt(k), k + 1);
        }
    }

    private static void promises25And26() {
        ProperFollow x = Checks.townOf(SQUARE);
        due("26: ahead of any", x.barred(), NONE);
        due("25: both ways", x.bar(0, 2), 2);
        due("26: b and d", x.barred(), 10);
        due("25: beside", x.bar(0, 1), NONE);
        due("25: alike", x.bar(2, 2), NONE);
        due("25: no such one", x.bar(0, 5), NONE);
        due("25: below 0", x.bar(-1, 0), NONE);
        due("26: the latest that was not NONE", x.barred(), 10);
        due("25: no row anyway", x.bar(0, 4), 0);
        due("26: none", x.barred(), 0);
        ProperFollow y = Checks.townOf(STREET);
        due("25: one of six", y.bar(7, 0), 1);
        due("26: the least as bits", y.barred(), 2);
    }

    private static void promises27To29() {
        ProperFollow x = Checks.townOf(STREET + "next p b;next r e;");
        due("28: ahead of any", x.hiresFar(), NONE);
        due("29: ahead of any", x.hiredBy(0), NONE);
        due("27: two", x.hires(), 2);
        due("28: the shortest in all", x.hiresFar(), 4);
        due("29: s by p", x.hiredBy(0), 3);
        due("29: q by r", x.hiredBy(2), 1);
        due("29: nobody", x.hiredBy(1), NONE);
        due("29: no such one", x.hiredBy(6), NONE);
        due("29: below 0", x.hiredBy(-1), NONE);
        due("27: nothing is done", x.now(1), 0);
        x.hire(0, 1, 1);
        due("27: p is not alone, q not idle", x.hires(), 1);
        due("28: s to r", x.hiresFar(), 3);
        due("29: not p", x.hiredBy(0), NONE);
        due("29: r", x.hiredBy(2), 3);
        Checks.town(x, "corner a;");
        due("29: by the latest hires()", x.hiredBy(2), 3);
        // As many as can be goes ahead of near: y is beside x, but w can be had for x alone.
        ProperFollow far = Checks.townOf("corner a;corner b;corner c;corner d;corner z;street a b;street b c;street c d;"
                + "person x a 0;person y d 0;person w a 0;next y c;next x b;person v a 0;person t z 0;");
        due("27: as many as can be", far.hires(), 2);
        due("28: in all", far.hiresFar(), 3);
        due("29: of like ones the first", far.hiredBy(0), 2);
        due("29: the other one", far.hiredBy(1), 3);
        // One to be had for two of them, equally far: none is behind all, so the first one has him.
        ProperFollow like = Checks.townOf("corner a;corner b;corner c;street a b;street b c;person p a 0;person q c 0;"
                + "person r b 0;next p b;next q b;");
        due("27: one", like.hires(), 1);
        due("29: the first", like.hiredBy(0), 2);
        due("29: not the second", like.hiredBy(1), NONE);
    }

    private static void promise30() {
        ProperFollow x = new ProperFollow();
        due("30: nobody", Checks.meanThrows(x, 0), true);
        Checks.town(x, "corner a;");
        due("30: nobody yet", Checks.meanThrows(x, 1), true);
        Checks.town(x, STREET + "next p b;next p c;next p d;next p e;next p f;next p g;");
        due("30: nought", x.mean(0), 0);
        due("30: by one", x.mean(1), 1);
        x.minutes(1);
        due("30: one", x.mean(0), 1);
        due("30: by four", x.mean(1), 4);
        x.minutes(1);
        due("30: least terms", x.mean(0), 1);
        due("30: by two", x.mean(1), 2);
        x.minutes(2);
        due("30: whole", x.mean(0), 1);
        due("30: by one", x.mean(1), 1);
        x.minutes(2);
        due("30: three", x.mean(0), 3);
        due("30: by two", x.mean(1), 2);
        due("30: no such what", Checks.meanThrows(x, 2), true);
        due("30: below 0", Checks.meanThrows(x, -1), true);
    }

    private static void line(ProperFollow x, int p, String want) {
        String got = Checks.lineOf(x, p);
        due("31: line of " + p + ": '" + got + "', due is '" + want + "'", got.equals(want), true);
    }

    private static void promises31And32() {
        ProperFollow x = Checks.townOf(SQUARE);
        due("32: ahead of any", x.byteAt(0), NONE);
        line(x, 0, "ann at a goes 3");
        line(x, 1, "bob at c after ann");
        line(x, 2, "cid at e stays");
        due("31: no such one", x.line(4), NONE);
        due("31: below 0", x.line(-1), NONE);
        due("32: the latest line", x.byteAt(0), 'c');
        due("32: below 0", x.byteAt(-1), NONE);
        x.minutes(3);
        line(x, 0, "ann at d stays");
        due("32: its last", x.byteAt(13), 's');
        due("32: none such", x.byteAt(14), NONE);
        ProperFollow y = Checks.townOf("corner harbour;person abcdefg harbour 0;person zzzzzzz harbour 0;follows zzzzzzz abcdefg 1;");
        line(y, 1, "zzzzzzz at harbour after abcdefg");
    }

    private static void promise33() {
        ProperFollow x = Checks.townOf(STREET);
        due("33: none", x.drawn(0, 1), NONE);
        due("33: too many", x.drawn(61, 1), NONE);
        due("33: below 0", x.drawn(-1, 1), NONE);
        due("33: nothing to undo", x.undo(), NONE);
        for (int seed = -40; seed <= 40; seed++) {
            x.image(0);
            due("33: one by one", x.drawn(1, seed), 1);
            ProperFollow y = Checks.townOf(STREET);
            byHand(y, seed);
            for (int p = 0; p < 4; p++) {
                for (int k = 0; k < 7; k++) {
                    due("33: seed " + seed + ", person(" + p + ", " + k + ")", x.person(p, k), y.person(p, k));
                }
            }
            x.restore(0);
        }
        ProperFollow z = Checks.townOf(STREET);
        for (int k = 0; k < 6; k++) {
            z.minutes(60);
        }
        z.minutes(38);
        due("33: what is left", z.drawn(5, 3), 2);
        due("33: it is undone as one", z.undo(), 7);
        due("33: minute 398", z.now(0), 398);
    }

    private static int seed;

    private static int draw(int n) {
        seed = seed * 1103515245 + 12345;
        return (seed >>> 8) % n;
    }

    private static void byHand(ProperFollow y, int from) {
        seed = from;
        for (int p = 0; p < 4; p++) {
            int act = draw(8);
            if (act == 0) {
                int q = draw(4);
                int n = draw(5) + 1;
                y.hire(p, q, n);
            } else if (act == 1) {
                y.leave(p);
            } else if (act < 5) {
                y.send(p, draw(8));
            } else if (act == 5) {
                y.drop(p);
            }
        }
        y.minutes(1);
    }

    private static void promise34() {
        ProperFollow x = Checks.townOf(STREET);
        due("34: no such person", x.odds(4, 1, 1), NONE);
        due("34: below 0", x.odds(-1, 1, 1), NONE);
        due("34: no seeds", x.odds(0, 0, 1), NONE);
        due("34: too many", x.odds(0, 31, 1), NONE);
        int from = Integer.MAX_VALUE - 3;
        for (int p = 0; p < 4; p++) {
            int followed = 0;
            for (int k = 0; k < 30; k++) {
                due("34: drawn", x.drawn(10, from + k), 10);
                followed += x.person(p, 5) != 0 ? 1 : 0;
                x.undo();
                if (k == 0 || k == 29) {
                    due("34: " + (k + 1) + " seeds", x.odds(p, k + 1, from), followed);
                }
            }
        }
        due("34: all stays", x.now(0), 0);
        due("34: nothing to undo", x.undo(), NONE);
    }

    private static void bookFault(String text, int kind, int place) {
        ProperFollow x = Checks.townOf(SQUARE);
        due("35: place in '" + text + "'", Checks.book(x, text, 0), -2 - place);
        due("35: kind in '" + text + "'", x.fault(), kind);
        due("35: the tape is empty", x.count(3), 0);
        due("36: ahead of any", x.told(0), NONE);
    }

    private static void promise35Faults() {
        bookFault("ann", 1, 3);
        bookFault("ann goes", 1, 8);
        bookFault("ann goes b", 1, 10);
        bookFault("ann goes ann;", 3, 9);
        bookFault("ann goes goes;", 1, 9);
        bookFault("ann goes zed;", 3, 9);
        bookFault("a goes b;", 3, 0);
        bookFault("zed goes b;", 3, 0);
        bookFault("goes b;", 1, 0);
        bookFault("corner b;", 1, 0);
        bookFault("1;", 1, 0);
        bookFault("ann at b;", 1, 4);
        bookFault("ann bob;", 1, 4);
        bookFault("ann drops b;", 1, 10);
        bookFault("ann hires ann 1;", 3, 10);
        bookFault("ann hires a 1;", 3, 10);
        bookFault("ann hires bob 0;", 2, 14);
        bookFault("ann hires bob 6;", 2, 14);
        bookFault("ann hires bob;", 1, 13);
        bookFault("minute;", 1, 6);
        bookFault("minute 0;", 2, 7);
        bookFault("minute 61;", 2, 7);
        bookFault("minute 1;;", 1, 9);
        String forty = "minute 1;".repeat(40);
        bookFault(forty + "minute", 4, 360);
        bookFault(forty + "ann;", 4, 360);
        bookFault(forty + "zed;", 3, 360);
        bookFault(forty + "goes;", 1, 360);
        bookFault(forty + ";", 1, 360);
        bookFault(forty + " ".repeat(41), 1, 400);
        bookFault("ann drops;" + " ".repeat(385) + "ann drops;", 1, 400);
        bookFault("ann drops;" + " ".repeat(386) + "dan dropsss;", 1, 400);
        bookFault("ann drops;" + " ".repeat(385) + "dan dropsddd;", 1, 399);
        ProperFollow x = Checks.townOf(SQUARE);
        due("35: forty lines, 400 bytes", Checks.book(x, forty + " ".repeat(40), 1), NONE);
        due("36: forty", x.told(1), 40);
    }

    private static void told(ProperFollow x, int why, int lines, int minute, int prints) {
        due("36: why", x.told(0), why);
        due("36: lines", x.told(1), lines);
        due("36: minute", x.told(2), minute);
        due("36: prints", x.told(3), prints);
        due("36: another what", x.told(4), NONE);
        due("36: below 0", x.told(-1), NONE);
    }

    private static void promises35And36() {
        ProperFollow x = Checks.townOf(SQUARE);
        due("36: ahead of any", x.told(0), NONE);
        due("35: an empty book", x.book(1), NONE);
        told(x, 0, 0, 0, 0);
        due("35: nothing to undo", x.undo(), NONE);
        due("35: judged", Checks.book(x, "ann drops;minute 1;bob leaves;dan hires bob 3;minute 2;", 0), NONE);
        told(x, 0, 5, 3, 4);
        due("35: all stays", x.now(0), 0);
        due("35: all stays, the bun", x.person(0, 1), 1);
        due("35: sending 1", Checks.book(x, "minute 1;bob goes a;minute 5;", 0), 1);
        told(x, 1, 1, 1, 2);
        due("35: sending 2", Checks.book(x, "ann goes a;ann goes b;ann goes a;ann goes b;ann goes a;ann goes e;", 0), 5);
        told(x, 2, 5, 0, 0);
        due("35: sending 3", Checks.book(x, "dan goes e;", 1), 0);
        told(x, 3, 0, 0, 0);
        due("35: none was lived", x.undo(), NONE);
        due("35: dropping", Checks.book(x, "ann drops;ann drops;", 0), 1);
        told(x, 11, 1, 0, 0);
        due("35: leaving", Checks.book(x, "bob leaves;bob leaves;", 0), 1);
        told(x, 21, 1, 0, 0);
        due("35: hiring 1", Checks.book(x, "cid hires bob 1;", 0), 0);
        told(x, 31, 0, 0, 0);
        due("35: hiring 2", Checks.book(x, "cid hires ann 1;", 0), 0);
        told(x, 32, 0, 0, 0);
        due("35: lived as far as it goes", Checks.book(x, "ann drops;minute 1;ann drops;minute 9;", 1), 2);
        told(x, 11, 2, 1, 2);
        due("35: it is so", x.now(0), 1);
        due("35: the bun lies", x.corner(0, 2), 1);
        due("35: a fault", Checks.book(x, "minute 1;zed", 1), -11);
        told(x, 11, 2, 1, 2);
        due("35: nothing of it", x.now(0), 1);
        Checks.tape(x, "minute 1;");
        due("35: another lives", x.book(-1), -1000);
        due("35: the tape stays", x.count(3), 9);
        told(x, 11, 2, 1, 2);
        due("35: it is read then", x.book(1), NONE);
        told(x, 0, 1, 2, 4);
        due("35: undone", x.undo(), 1);
        due("35: and the first", x.undo(), 0);
        due("35: minute 0", x.now(0), 0);
        due("35: minutes that are left", Checks.book(x, "minute 60;".repeat(6) + "minute 40;minute 1;", 1), 7);
        due("36: fewer are left", x.told(0), 41);
        due("36: minute 400", x.told(2), 400);
        x.undo();
        due("35: none of them goes", Checks.book(x, "minute 60;".repeat(6) + "minute 41;", 1), 6);
        due("36: minute 360", x.told(2), 360);
        due("35: minute 360", x.now(0), 360);
    }

    private static void promise37() {
        ProperFollow x = Checks.townOf(SQUARE);
        due("37: one", Checks.sentence(x, "idle"), 1);
        due("37: not and another one", Checks.sentence(x, "not idle"), 2);
        due("37: a bracket, too", Checks.sentence(x, "(idle)"), 2);
        due("37: all", Checks.sentence(x, "not(alone or ringed and idle)or at a and after ann or buns<1"), 8);
        due("37: twenty", Checks.sentence(x, "idle or ".repeat(19) + "idle"), 20);
        due("37: eight within", Checks.sentence(x, "not ".repeat(7) + "idle"), 8);
        due("37: eight brackets", Checks.sentence(x, "(((((((idle and alone)))))))"), 9);
        due("37: and so on", Checks.sentence(x, "not idle and not idle and not not not not not not not idle"), 12);
        due("37: 200 bytes", Checks.sentence(x, "idle" + " ".repeat(196)), 1);
        due("37: a number of three digits", Checks.sentence(x, "buns<999"), 1);
    }

    private static void sentenceFault(String text, int kind, int place) {
        ProperFollow x = Checks.townOf(SQUARE);
        Checks.sentence(x, "number=2");
        due("37: place in '" + text + "'", Checks.sentence(x, text), -1 - place);
        due("37: kind in '" + text + "'", x.fault(), kind);
        due("37: it stays", Checks.saidBits(x), 4);
        due("37: the tape is empty", x.count(3), 0);
    }

    private static void promise37Faults() {
        sentenceFault("", 1, 0);
        sentenceFault("  ", 1, 2);
        sentenceFault("not", 1, 3);
        sentenceFault("idle and", 1, 8);
        sentenceFault("idle idle", 1, 5);
        sentenceFault("idle;", 1, 4);
        sentenceFault("idle)", 1, 4);
        sentenceFault("(idle", 1, 5);
        sentenceFault("(idle))", 1, 6);
        sentenceFault("()", 1, 1);
        sentenceFault("and idle", 1, 0);
        sentenceFault("ann", 1, 0);
        sentenceFault("goes", 1, 0);
        sentenceFault("at", 1, 2);
        sentenceFault("at ann", 3, 3);
        sentenceFault("at zed", 3, 3);
        sentenceFault("at idle", 1, 3);
        sentenceFault("after a", 3, 6);
        sentenceFault("after zed", 3, 6);
        sentenceFault("after 1", 1, 6);
        sentenceFault("buns", 1, 4);
        sentenceFault("buns 1", 1, 5);
        sentenceFault("buns<", 1, 5);
        sentenceFault("buns<=1", 1, 5);
        sentenceFault("buns(1)", 1, 4);
        sentenceFault("buns<1000", 1, 5);
        sentenceFault("buns<a", 1, 5);
        sentenceFault("idle or ".repeat(20) + "idle", 4, 160);
        sentenceFault("idle or ".repeat(20) + "ann", 1, 160);
        sentenceFault("idle or ".repeat(19) + "not idle", 4, 156);
        sentenceFault("not ".repeat(8) + "idle", 4, 32);
        sentenceFault("not ".repeat(8) + ")", 1, 32);
        sentenceFault("((((((((idle", 4, 8);
        sentenceFault("idle" + " ".repeat(197), 1, 200);
        sentenceFault("idle" + " ".repeat(190) + "or alone", 1, 200);
        sentenceFault("idle" + " ".repeat(193) + "or alone", 1, 200);
        sentenceFault("idle" + " ".repeat(193) + "alone", 1, 197);
    }

    private static void said(String text, int who) {
        ProperFollow x = Checks.townOf(SQUARE + "person eve a 7;follows eve dan 1;follows dan eve 2;");
        Checks.sentence(x, text);
        due("38: kind in '" + text + "'", x.fault(), 0);
        due("38: '" + text + "'", Checks.saidBits(x), who);
    }

    private static void promise38() {
        said("alone", 6);
        said("ringed", 24);
        said("idle", 4);
        said("at a", 17);
        said("after ann", 2);
        said("buns<1", 12);
        said("buns=2", 2);
        said("buns>1", 18);
        said("left=3", 1);
        said("left<1", 30);
        said("behind>0", 25);
        said("number>2", 24);
        said("number=0", 1);
        said("not alone", 25);
        said("alone or ringed and at a", 22);
        said("(alone or ringed) and at a", 16);
        said("at a and ringed or alone", 22);
        said("not alone and at a", 17);
        said("not (alone or at a)", 8);
        said("not not idle", 4);
        said("at a and at b", 0);
        said("idle or ringed or after ann", 30);
        said("not at a and not at b and not at c", 4);
        ProperFollow x = Checks.townOf(SQUARE);
        due("38: there is none", x.said(NONE), NONE);
        due("38: none, k", x.said(0), NONE);
        Checks.sentence(x, "at b");
        due("38: one", x.said(NONE), 1);
        due("38: dan", x.said(0), 3);
        due("38: no more", x.said(1), NONE);
        due("38: below NONE", x.said(-2), NONE);
        x.minutes(1);
        due("38: by what is so now", Checks.saidBits(x), 11);
    }

    private static void promises39And40() {
        ProperFollow x = Checks.townOf(SQUARE);
        due("40: nothing is kept", x.restore(0), false);
        due("40: no such place", x.restore(2), false);
        due("39: no such place", x.image(2), false);
        due("39: below 0", x.image(-1), false);
        due("40: below 0", x.restore(-1), false);
        x.drop(0);
        x.minutes(2);
        Checks.sentence(x, "at a");
        int where = x.person(1, 0);
        due("39: kept", x.image(1), true);
        due("39: what was done can be undone yet", x.undo(), 1);
        x.cut();
        x.path(0, 1);
        x.line(2);
        Checks.town(x, "corner z;person p z 0;");
        due("40: place 0 has nothing", x.restore(0), false);
        due("39: place 0", x.image(0), true);
        x.minutes(1);
        Checks.sentence(x, "idle");
        Checks.tape(x, "abc");
        int fault = x.fault();
        due("40: back", x.restore(1), true);
        due("40: the tape stays", x.count(3), 3);
        due("40: what calls told stays", x.fault(), fault);
        due("40: the line stays", x.byteAt(0), 'c');
        due("40: nothing can be undone", x.undo(), NONE);
        due("40: corners", x.count(0), 5);
        due("40: minute", x.now(0), 2);
        due("40: found", x.now(6), 1);
        due("40: where he was", x.person(1, 0), where);
        due("40: the sentence", Checks.saidBits(x), 2);
        due("40: again", x.restore(0), true);
        due("40: the small town", x.count(2), 1);
        due("40: minute 0", x.now(0), 0);
        due("40: it had no sentence", x.said(NONE), NONE);
        due("40: once more", x.restore(1), true);
        due("40: its minute", x.now(0), 2);
    }

    private static void promise41() {
        ProperFollow x = Checks.townOf(SQUARE);
        Checks.tape(x, "1234567");
        due("41: corners", x.count(0), 5);
        due("41: streets", x.count(1), 4);
        due("41: persons", x.count(2), 4);
        due("41: bytes", x.count(3), 7);
        due("41: another what", x.count(4), NONE);
        due("41: below 0", x.count(-1), NONE);
    }
}

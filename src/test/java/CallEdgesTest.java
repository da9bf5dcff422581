import java.util.function.ToIntFunction;

/** Promises 1 to 20, sentence by sentence at their edges: the last that is taken, the first that is refused. */
public final class CallEdgesTest {
    private static final int NONE = ProperFollow.NONE;
    private static final int LEAST = Integer.MIN_VALUE;
    private static final int GREATEST = Integer.MAX_VALUE;
    private static final String TWO = "corner a;corner b;street a b;";
    private static final String EIGHT = "corner a;corner b;corner c;corner d;corner e;corner f;corner g;corner h;";
    private static final String STREET = EIGHT
            + "street a b;street b c;street c d;street d e;street e f;street f g;street g h;";
    /** What none of a row of n is, beside n itself. */
    private static final int[] OUTSIDE = {-1, -2, 100, LEAST, GREATEST, GREATEST - 1, LEAST + 1};

    public static void main(String[] args) {
        newObjectTells();
        newObjectRefuses();
        newObjectLives();
        newObjectReads();
        feedTillFull();
        feedRefused();
        feedHighestFirst();
        feedBehindTheTape();
        endTakesAsManyAsThereAre();
        endRefused();
        endCutsForGood();
        townTellsLines();
        townWithAFaultStays();
        townLeavesWhatWasToldLast();
        townCanNotBeUndone();
        faultKinds();
        faultIsOfTheLatest();
        faultIsLeft();
        personNoneEach();
        personNoSuchOnes();
        personInAFullTown();
        wasSixMinutes();
        wasNoSuchOnes();
        wasIsBroughtBack();
        cornerNoSuchOnes();
        cornerInAFullTown();
        nowOfAnotherWhat();
        sendNoSuchOnes();
        sendRefused();
        dropNoSuchOne();
        leaveNoSuchOne();
        hireNoSuchOnes();
        hireByOneToFive();
        minutesOneToSixty();
        minutesTillAllAreOver();
        undoNone();
        undoEachAct();
        undoEightAreKept();
        undoWhatWasDoneAlone();
        undoAtFourHundred();
        undoAndGoOn();
        undoLeavesTheRest();
        ringNoSuchOne();
        ringsOfTwoAndSix();
        cutAndCutting();
        meetNoSuchOnes();
        meetZeroAndNinetyNine();
        properNoSuchOnes();
        properOneToFive();
        Checks.finish();
    }

    private static void due(String what, long got, long want) {
        Checks.due(what, got, want);
    }

    private static void due(String what, boolean got, boolean want) {
        Checks.due(what, got, want);
    }

    /** A call on the rich object answers so and leaves all as it was. */
    private static void idle(String what, ToIntFunction<ProperFollow> call, int want) {
        Checks.leavesAll(what, Checks::rich, x -> due(what, call.applyAsInt(x), want));
    }

    private static void pass(ProperFollow x, int minutes) {
        for (int left = minutes; left > 0; left -= 60) {
            due("minutes go by", x.minutes(Math.min(60, left)), Math.min(60, left));
        }
    }

    private static void newObjectTells() {
        ProperFollow x = new ProperFollow();
        for (int what = 0; what <= 3; what++) {
            due("a TOWN without CORNERS; an empty tape: count " + what, x.count(what), 0);
        }
        for (int what = 0; what <= 6; what++) {
            due("a new object: now " + what, x.now(what), 0);
        }
        due("a new object: fault", x.fault(), 0);
        due("a new object: cutting", x.cutting(), NONE);
        due("a new object: ask", x.ask(), NONE);
        due("a new object: barred", x.barred(), NONE);
        due("a new object: hiresFar", x.hiresFar(), NONE);
        for (int k = -1; k <= 8; k++) {
            due("a new object: pathAt " + k, x.pathAt(k), NONE);
            due("a new object: hiredBy " + k, x.hiredBy(k), NONE);
            due("a new object: byteAt " + k, x.byteAt(k), NONE);
            due("a new object: told " + k, x.told(k), NONE);
            due("a new object: said " + k, x.said(k), NONE);
        }
    }

    private static void newObjectRefuses() {
        ProperFollow x = new ProperFollow();
        for (int k = -1; k <= 6; k++) {
            due("a new object: person " + k, Checks.personThrows(x, k, 0), true);
            due("a new object: was " + k, x.was(k, 0), NONE);
            due("a new object: corner " + k, x.corner(k, 0), NONE);
            due("a new object: send " + k, x.send(k, 0), NONE);
            due("a new object: drop " + k, x.drop(k), NONE);
            due("a new object: leave " + k, x.leave(k), NONE);
            due("a new object: hire " + k, x.hire(k, 1, 1), NONE);
            due("a new object: ring " + k, x.ring(k), NONE);
            due("a new object: meet " + k, x.meet(k, 1), NONE);
            due("a new object: proper " + k, x.proper(k, 1), NONE);
            due("a new object: path " + k, x.path(k, 0), NONE);
            due("a new object: bar " + k, x.bar(k, 1), NONE);
            due("a new object: mean " + k, Checks.meanThrows(x, k), true);
            due("a new object: line " + k, x.line(k), NONE);
            due("a new object: odds " + k, x.odds(k, 1, 1), NONE);
        }
        due("a new object: undo", x.undo(), NONE);
        due("a new object: restore 0", x.restore(0), false);
        due("a new object: restore 1", x.restore(1), false);
        due("a new object: end 1", x.end(1), false);
        due("a new object: fits by an empty tape", x.fits(), NONE);
        Checks.same("and is new yet", Checks.all(x, true), Checks.all(new ProperFollow(), true));
    }

    private static void newObjectLives() {
        ProperFollow x = new ProperFollow();
        due("a new object: end 0", x.end(0), true);
        due("a new object: cut", x.cut(), 0);
        due("a new object: cutting behind it", x.cutting(), 0);
        due("a new object: hires", x.hires(), 0);
        due("a new object: hiresFar behind it", x.hiresFar(), 0);
        due("a new object: hiredBy behind it", x.hiredBy(0), NONE);
        due("a new object: minutes", x.minutes(60), 60);
        due("a new object: drawn", x.drawn(60, 7), 60);
        due("a new object: the MINUTE", x.now(0), 120);
        due("a new object: undo", x.undo(), 1);
        due("a new object: undo twice", x.undo(), 0);
        due("a new object: the MINUTE again", x.now(0), 0);
        due("a new object: image", x.image(1), true);
        due("a new object: restore the other", x.restore(0), false);
        due("a new object: restore", x.restore(1), true);
        due("a new object: FITS by not known", Checks.fits(x, 255), 0);
        due("a new object: FITS by a CORNER", Checks.fits(x, 0), NONE);
        due("a new object: nobody fits: ask", x.ask(), NONE);
    }

    private static void newObjectReads() {
        ProperFollow x = new ProperFollow();
        due("a new object: an empty BOOK", x.book(1), NONE);
        for (int what = 0; what <= 3; what++) {
            due("a new object: told behind it", x.told(what), 0);
        }
        due("a new object: nothing was lived", x.undo(), NONE);
        due("a new object: a BOOK of MINUTES", Checks.book(x, "minute 5;", 1), NONE);
        due("a new object: lived", x.now(0), 5);
        due("a new object: no NAME is told", Checks.book(x, "p drops;", 0), -2);
        due("a new object: its kind", x.fault(), 3);
        due("a new object: an empty SENTENCE", x.sentence(), -1);
        due("a new object: its kind, too", x.fault(), 1);
        due("a new object: a SENTENCE", Checks.sentence(x, "alone"), 1);
        due("a new object: of nobody", x.said(NONE), 0);
        due("a new object: none such", x.said(0), NONE);
        due("a new object: an empty TOWN", x.town(), 0);
        due("a new object: is MINUTE 0 again", x.now(0), 0);
    }

    /** An object whose tape has n bytes, all noughts. */
    private static ProperFollow withBytes(int n) {
        ProperFollow x = Checks.rich();
        x.end(0);
        for (int k = 0; k < n; k += 20) {
            x.feed(0, 0, 0, 0, 0);
        }
        x.end(n);
        return x;
    }

    private static void feedTillFull() {
        ProperFollow x = new ProperFollow();
        for (int k = 20; k <= 940; k += 20) {
            due("feed: how many it has", x.feed(1, 2, 3, 4, 5), k);
            due("feed: so many came", x.count(3), k);
        }
        due("feed: it would have 960", x.feed(1, 2, 3, 4, 5), NONE);
        due("feed: none come", x.count(3), 940);
        x.end(921);
        due("feed: it would have 941", x.feed(1, 2, 3, 4, 5), NONE);
        due("feed: none come at 921", x.count(3), 921);
        x.end(920);
        due("feed: it has 940", x.feed(1, 2, 3, 4, 5), 940);
        x.end(919);
        due("feed: it has 939", x.feed(1, 2, 3, 4, 5), 939);
        due("feed: it would have 959", x.feed(1, 2, 3, 4, 5), NONE);
        x.end(1);
        due("feed: behind one byte", x.feed(1, 2, 3, 4, 5), 21);
    }

    private static void feedRefused() {
        for (int n : new int[] {921, 930, 939, 940}) {
            Checks.leavesAll("feed behind " + n, () -> withBytes(n),
                    x -> due("feed behind " + n, x.feed(-1, -1, -1, -1, -1), NONE));
        }
        // The bytes of a full tape are those that came, not those that were refused.
        ProperFollow x = withBytes(0);
        Checks.tape(x, "corner a;person p a ");
        for (int k = 40; k <= 940; k += 20) {
            due("feed on", x.feed(0x20202020, 0x20202020, 0x20202020, 0x20202020, 0x20202020), k);
        }
        due("feed: full", x.feed(0x3b3b3b3b, 0, 0, 0, 0), NONE);
        due("the first bytes stay", x.end(9), true);
        due("and are read", x.town(), 1);
    }

    private static void feedHighestFirst() {
        ProperFollow x = new ProperFollow();
        x.feed(0x636f726e, 0x65722061, 0x3b706572, 0x736f6e20, 0x70206120);
        x.feed(0x373b2020, 0x20202020, 0x20202020, 0x20202020, 0x2020200a);
        due("feed: of each number the highest first", x.town(), 2);
        due("feed: the 21st byte", x.person(0, 1), 7);
        ProperFollow y = Checks.townOf(TWO + "person p a 0;");
        y.feed(0xff00ffff, 0x00ff0000, 0, 0, 0);
        y.end(6);
        due("feed: bytes above 127", y.fits(), 1);
        y.feed(0x80ffffff, 0, 0, 0, 0);
        y.end(4);
        due("feed: 128 is neither", y.fits(), NONE);
    }

    private static void feedBehindTheTape() {
        ProperFollow x = new ProperFollow();
        x.feed(0x636f726e, 0x65722061, 0x3b3b3b3b, 0x3b3b3b3b, 0x3b3b3b3b);
        due("ahead of what should be gone", x.end(9), true);
        x.feed(0x636f726e, 0x65722062, 0x3b000000, 0, 0);
        due("feed: twenty bytes behind nine", x.count(3), 29);
        x.end(18);
        due("feed: behind the tape, not behind what it had", x.town(), 2);
        due("the tape is empty then", x.count(3), 0);
        due("feed: an empty tape again", x.feed(0, 0, 0, 0, 0), 20);
    }

    private static void endTakesAsManyAsThereAre() {
        for (int n : new int[] {0, 1, 19, 20}) {
            ProperFollow x = new ProperFollow();
            x.feed(0, 0, 0, 0, 0);
            due("end " + n + " of 20", x.end(n), true);
            due("end: its first " + n + " alone", x.count(3), n);
            due("end: " + n + " again", x.end(n), true);
            due("end: it has not " + (n + 1), x.end(n + 1), false);
            due("end: " + n + " yet", x.count(3), n);
        }
        ProperFollow full = withBytes(940);
        due("end 941 of 940", full.end(941), false);
        due("end 940 of 940", full.end(940), true);
        due("end 939 of 940", full.end(939), true);
    }

    private static void endRefused() {
        for (int n : new int[] {-1, 12, 20, 940, LEAST, GREATEST}) {
            idle("end " + n + " of 11", x -> x.end(n) ? 1 : 0, 0);
        }
        idle("end of as many as there are", x -> x.end(11) ? 1 : 0, 1);
        Checks.alike("end of fewer leaves all else", Checks::rich, x -> x.end(9), CallEdgesTest::newTape, true);
    }

    /** The first nine bytes of the rich object's tape, come anew. */
    private static void newTape(ProperFollow x) {
        x.end(0);
        Checks.tape(x, "corner ze");
    }

    private static void endCutsForGood() {
        ProperFollow x = new ProperFollow();
        Checks.tape(x, "corner a;corner b;");
        due("end of the first LINE", x.end(9), true);
        due("end: the others do not come back", x.end(18), false);
        due("end: the first LINE alone", x.town(), 1);
        due("end: the tape is empty behind a TOWN", x.end(1), false);
        due("end: of none", x.end(0), true);
    }

    private static void townTellsLines() {
        ProperFollow x = new ProperFollow();
        due("town: an empty tape has no LINES", x.town(), 0);
        due("town: blanks alone, too", Checks.town(x, " \n "), 0);
        due("town: one", Checks.town(x, "corner a;"), 1);
        due("town: the tape is empty then", x.count(3), 0);
        due("town: all sorts of LINES", Checks.town(x, TWO + "person p a 0;person q b 0;next p b;follows q p 1;"), 7);
        due("town: the tape is not one of before", x.town(), 0);
        due("town: a TOWN without CORNERS", x.count(0) + x.count(1) + x.count(2), 0);
    }

    private static void townWithAFaultStays() {
        String[] texts = {"x", "corner a;corner a;", "corner a;person p a 10;", EIGHT + "corner i;", "corner a"};
        int[] places = {0, 16, 20, 72, 8};
        for (int k = 0; k < texts.length; k++) {
            String text = texts[k];
            int want = -1 - places[k];
            Checks.alike("town: -1 less the place of a FAULT: it stays: " + text, Checks::rich, x -> {
                x.end(0);
                due("town: -1 less the place", Checks.town(x, text), want);
            }, y -> y.end(0), false);
        }
        ProperFollow x = Checks.rich();
        x.end(0);
        Checks.town(x, "corner a;;");
        due("town: the tape is empty behind a FAULT", x.count(3), 0);
    }

    /** What other calls told last is told behind a new town, too: none of them is of the town. */
    private static void townLeavesWhatWasToldLast() {
        ProperFollow x = Checks.rich();
        due("town", x.town(), 1);
        due("cutting by the latest cut()", x.cutting(), 8);
        due("ask by the latest fits()", x.ask(), 1);
        due("pathAt by the latest path()", x.pathAt(1), 0);
        due("barred by the latest bar()", x.barred(), 10);
        due("hiresFar by the latest hires()", x.hiresFar(), 1);
        due("hiredBy: in the TOWN that was then", x.hiredBy(0), 5);
        due("told of the latest book()", x.told(0), 11);
        due("the latest LINE", x.byteAt(0), 'b');
        due("no SENTENCE", x.said(NONE), NONE);
        due("an image is kept", x.restore(0), true);
        due("of another TOWN", x.count(2), 6);
    }

    private static void townCanNotBeUndone() {
        ProperFollow x = Checks.rich();
        due("town", x.town(), 1);
        due("town: no act was done in it", x.undo(), NONE);
        due("town: it stays", x.count(0), 1);
        due("minutes", x.minutes(1), 1);
        due("town: acts in it can be", x.undo(), 0);
    }

    private static void faultKinds() {
        ProperFollow x = new ProperFollow();
        due("fault ahead of any", x.fault(), 0);
        String[] towns = {"", "corner;", "corner a;person p a 10;", "corner a;corner a;", EIGHT + "corner i;"};
        for (int kind = 0; kind <= 4; kind++) {
            Checks.town(x, towns[kind]);
            due("fault of town()", x.fault(), kind);
            due("fault told twice", x.fault(), kind);
        }
        Checks.town(x, TWO + "person p a 0;");
        String[] books = {"", ";", "minute 0;", "q drops;", "p drops;".repeat(41)};
        String[] sentences = {"alone", "", "", "at p", "not ".repeat(8) + "idle"};
        for (int kind = 0; kind <= 4; kind++) {
            Checks.book(x, books[kind], 0);
            due("fault of book()", x.fault(), kind);
            if (kind != 2) {
                Checks.sentence(x, sentences[kind]);
                due("fault of sentence()", x.fault(), kind);
            }
        }
    }

    private static void faultIsOfTheLatest() {
        ProperFollow x = Checks.townOf(TWO + "person p a 0;");
        Checks.town(x, "corner a;corner a;");
        due("fault of the town", x.fault(), 3);
        due("a good book", x.book(0), NONE);
        due("0 without one: book", x.fault(), 0);
        Checks.book(x, "minute 61;", 1);
        due("fault of the book", x.fault(), 2);
        Checks.sentence(x, "idle");
        due("0 without one: sentence", x.fault(), 0);
        Checks.sentence(x, "idle idle");
        due("fault of the sentence", x.fault(), 1);
        x.town();
        due("0 without one: town", x.fault(), 0);
    }

    private static void faultIsLeft() {
        for (int lives : new int[] {-1, 2, LEAST, GREATEST}) {
            idle("book " + lives + " of -1000 leaves the fault", x -> x.book(lives), -1000);
        }
        ProperFollow x = Checks.rich();
        x.fits();
        x.restore(0);
        x.minutes(1);
        x.undo();
        due("no other call tells a fault", x.fault(), 2);
    }

    private static void personNoneEach() {
        ProperFollow x = Checks.townOf(TWO + "person p a 9;person q b 0;follows q p 5;next p b;");
        due("person 0: the CORNER", x.person(0, 0) * 10 + x.person(1, 0), 1);
        due("person 1: buns", x.person(0, 1) * 10 + x.person(1, 1), 90);
        due("person 2: NONE", x.person(0, 2), NONE);
        due("person 2: whom he follows, number 0", x.person(1, 2), 0);
        due("person 3: NONE", x.person(0, 3), NONE);
        due("person 3: by how many MINUTES", x.person(1, 3), 5);
        due("person 4: CORNERS of his WAY", x.person(0, 4) * 10 + x.person(1, 4), 10);
        due("person 5: who follows him", x.person(0, 5) * 10 + x.person(1, 5), 20);
        due("person 6: the last of his ROW", x.person(0, 6) * 10 + x.person(1, 6), 0);
    }

    private static void personNoSuchOnes() {
        for (int what = 0; what <= 6; what++) {
            int k = what;
            idle("person 6 of 6, what " + k, x -> Checks.personThrows(x, 6, k) ? 1 : 0, 1);
            idle("person 5 of 6, what " + k, x -> Checks.personThrows(x, 5, k) ? 1 : 0, 0);
        }
        idle("person, what 7", x -> Checks.personThrows(x, 5, 7) ? 1 : 0, 1);
        for (int k : OUTSIDE) {
            idle("person " + k, x -> Checks.personThrows(x, k, 0) ? 1 : 0, 1);
            idle("person, what " + k, x -> Checks.personThrows(x, 0, k) ? 1 : 0, 1);
        }
        ProperFollow one = Checks.townOf("corner a;person p a 0;");
        due("person 0 of 1", Checks.personThrows(one, 0, 0), false);
        due("person 1 of 1", Checks.personThrows(one, 1, 0), true);
    }

    private static void personInAFullTown() {
        ProperFollow x = Checks.townOf(EIGHT + "person p a 0;person q b 0;person r c 0;person s d 0;person t e 0;person u h 9;"
                + "follows p u 1;follows q u 2;follows r u 3;follows s u 4;follows t u 5;");
        due("person: the last CORNER", x.person(5, 0), 7);
        due("person: five follow him, as bits", x.person(5, 5), 31);
        for (int p = 0; p < 5; p++) {
            due("person: follows the last PERSON", x.person(p, 2), 5);
            due("person: by so many", x.person(p, 3), p + 1);
            due("person: the last of his ROW", x.person(p, 6), 5);
        }
        due("person: no seventh", Checks.personThrows(x, 6, 0), true);
    }

    /** p goes along the street, a corner a minute; q stands. */
    private static ProperFollow walking(int minutes) {
        ProperFollow x = Checks.townOf(STREET + "person p a 0;person q h 0;next p b;next p c;next p d;next p e;next p f;"
                + "next p g;next p h;");
        pass(x, minutes);
        return x;
    }

    private static void wasSixMinutes() {
        for (int minutes = 0; minutes <= 8; minutes++) {
            ProperFollow x = walking(minutes);
            for (int k = 0; k <= 5; k++) {
                due("was " + k + " MINUTES ago at MINUTE " + minutes, x.was(0, k),
                        Math.max(0, Math.min(7, minutes - k)));
                due("was: who stands", x.was(1, k), 7);
            }
        }
    }

    private static void wasNoSuchOnes() {
        idle("was 5 MINUTES ago", x -> x.was(5, 5), 2);
        idle("was 6 MINUTES ago", x -> x.was(5, 6), NONE);
        idle("was: PERSON 6 of 6", x -> x.was(6, 0), NONE);
        for (int k : OUTSIDE) {
            idle("was: PERSON " + k, x -> x.was(k, 0), NONE);
            idle("was " + k + " MINUTES ago", x -> x.was(0, k), NONE);
        }
    }

    private static void wasRow(String what, ProperFollow x, int... want) {
        for (int k = 0; k < want.length; k++) {
            due(what + ", " + k + " ago", x.was(0, k), want[k]);
        }
    }

    private static void wasIsBroughtBack() {
        ProperFollow x = walking(6);
        x.image(0);
        wasRow("was", x, 6, 5, 4, 3, 2, 1);
        pass(x, 1);
        wasRow("was a MINUTE later", x, 7, 6, 5, 4, 3, 2);
        due("undo", x.undo(), 1);
        wasRow("undo() brings back that, too", x, 6, 5, 4, 3, 2, 1);
        pass(x, 9);
        wasRow("was nine MINUTES later", x, 7, 7, 7, 7, 7, 7);
        due("restore", x.restore(0), true);
        wasRow("restore() brings back that, too", x, 6, 5, 4, 3, 2, 1);
        due("undo goes back no further", x.undo(), NONE);
    }

    private static void cornerNoSuchOnes() {
        for (int what = 0; what <= 3; what++) {
            int k = what;
            idle("corner 4 of 5, what " + k, x -> x.corner(4, k), k == 1 ? 4 : 0);
            idle("corner 5 of 5, what " + k, x -> x.corner(5, k), NONE);
        }
        idle("corner, what 4", x -> x.corner(2, 4), NONE);
        for (int k : OUTSIDE) {
            idle("corner " + k, x -> x.corner(k, 0), NONE);
            idle("corner, what " + k, x -> x.corner(2, k), NONE);
        }
    }

    private static void cornerInAFullTown() {
        ProperFollow x = Checks.townOf(EIGHT + "street h a;street h b;street h c;street h d;street h e;street h f;street h g;"
                + "person p h 9;person q h 0;person r h 0;person s h 0;person t h 0;person u h 0;");
        due("corner: seven BESIDE it", x.corner(7, 0), 127);
        due("corner: the eighth BESIDE it", x.corner(0, 0), 128);
        due("corner: six are there", x.corner(7, 1), 63);
        due("corner: nobody is there", x.corner(0, 1), 0);
        for (int k = 0; k < 9; k++) {
            x.drop(0);
        }
        due("corner: nine buns", x.corner(7, 2), 9);
        for (int p = 0; p < 6; p++) {
            x.send(p, 6);
        }
        pass(x, 1);
        due("corner: six PRINTS", x.corner(6, 3), 6);
        due("corner: no PRINTS where they were", x.corner(7, 3), 0);
        due("corner: six went", x.corner(6, 1), 63);
        due("corner: no ninth", x.corner(8, 0), NONE);
    }

    private static void nowOfAnotherWhat() {
        int[] want = {3, 26, 1, 24, 1, 4, 1};
        for (int what = 0; what <= 6; what++) {
            int k = what;
            idle("now " + k, x -> x.now(k), want[k]);
        }
        idle("now 7", x -> x.now(7), NONE);
        for (int k : OUTSIDE) {
            idle("now " + k, x -> x.now(k), NONE);
        }
        ProperFollow x = Checks.townOf(TWO + "person p a 1;person q a 0;person r b 0;person s b 0;person t a 0;person u b 0;"
                + "follows p q 1;follows q p 1;follows r s 1;follows s r 1;follows t u 1;follows u t 1;");
        due("now 1: all follow", x.now(1), 63);
        due("now 2: nobody has a WAY", x.now(2), 0);
        due("now 3: all are in RINGS", x.now(3), 63);
        due("now 4: three RINGS", x.now(4), 3);
    }

    private static void sendNoSuchOnes() {
        idle("send PERSON 6 of 6", x -> x.send(6, 0), NONE);
        idle("send to CORNER 5 of 5", x -> x.send(0, 5), NONE);
        idle("send one who follows to no CORNER", x -> x.send(1, 5), NONE);
        for (int k : OUTSIDE) {
            idle("send PERSON " + k, x -> x.send(k, 0), NONE);
            idle("send to CORNER " + k, x -> x.send(0, k), NONE);
        }
        ProperFollow x = Checks.rich();
        due("send the last PERSON", x.send(5, 1), 0);
        due("send: the last of his WAY", x.person(5, 4), 1);
        due("send can be undone", x.undo(), 6);
    }

    private static void sendRefused() {
        idle("send 1", x -> x.send(1, 1), 1);
        idle("send 3: not BESIDE", x -> x.send(2, 0), 3);
        idle("send 3: where he is", x -> x.send(5, 2), 3);
        String way = "next p b;next p a;next p b;next p a;next p b;next p a;next p b;";
        String text = TWO + "person p a 0;" + way;
        due("send: the eighth", Checks.townOf(text).send(0, 0), 0);
        Checks.leavesAll("send 2", () -> Checks.townOf(text + "next p a;"), x -> due("send 2", x.send(0, 1), 2));
    }

    private static void dropNoSuchOne() {
        idle("drop: PERSON 6 of 6", x -> x.drop(6), NONE);
        idle("drop 1", x -> x.drop(5), 1);
        for (int k : OUTSIDE) {
            idle("drop: PERSON " + k, x -> x.drop(k), NONE);
        }
        ProperFollow x = Checks.townOf(TWO + "person p a 0;person q b 1;");
        due("drop: the last PERSON", x.drop(1), 0);
        due("drop: he has none", x.drop(1), 1);
        due("drop can be undone once", x.undo(), 0);
    }

    private static void leaveNoSuchOne() {
        idle("leave: PERSON 6 of 6", x -> x.leave(6), NONE);
        idle("leave 1", x -> x.leave(5), 1);
        for (int k : OUTSIDE) {
            idle("leave: PERSON " + k, x -> x.leave(k), NONE);
        }
        ProperFollow x = Checks.townOf(TWO + "person p a 0;person q b 1;follows q p 1;");
        due("leave: the last PERSON", x.leave(1), 0);
        due("leave: he follows nobody", x.leave(1), 1);
        due("leave can be undone once", x.undo(), 0);
        due("leave: he follows again", x.person(1, 2), 0);
    }

    private static void hireNoSuchOnes() {
        idle("hire: alike", x -> x.hire(5, 5, 1), NONE);
        idle("hire: alike, who follows", x -> x.hire(1, 1, 1), NONE);
        idle("hire by PERSON 6 of 6", x -> x.hire(6, 5, 1), NONE);
        idle("hire PERSON 6 of 6", x -> x.hire(5, 6, 1), NONE);
        idle("hire by 0 MINUTES", x -> x.hire(0, 5, 0), NONE);
        idle("hire by 6 MINUTES", x -> x.hire(0, 5, 6), NONE);
        idle("hire who follows by 6 MINUTES", x -> x.hire(0, 1, 6), NONE);
        idle("hire 1", x -> x.hire(0, 1, 5), 1);
        idle("hire 2", x -> x.hire(1, 0, 5), 2);
        for (int k : OUTSIDE) {
            idle("hire by PERSON " + k, x -> x.hire(k, 5, 1), NONE);
            idle("hire PERSON " + k, x -> x.hire(5, k, 1), NONE);
            idle("hire by " + k + " MINUTES", x -> x.hire(0, 5, k), NONE);
        }
    }

    private static void hireByOneToFive() {
        for (int n = 1; n <= 5; n++) {
            ProperFollow x = Checks.rich();
            due("hire by " + n, x.hire(0, 5, n), 0);
            due("hire: whom he follows", x.person(5, 2), 0);
            due("hire: by so many", x.person(5, 3), n);
            due("hire can be undone", x.undo(), 6);
            due("hire: he follows nobody", x.person(5, 2), NONE);
        }
    }

    private static void minutesOneToSixty() {
        for (int n : new int[] {0, -1, 61, 400, LEAST, GREATEST}) {
            idle("minutes: " + n + " is not as told", x -> x.minutes(n), NONE);
        }
        for (int n : new int[] {1, 2, 59, 60}) {
            ProperFollow x = Checks.rich();
            due("minutes: " + n + " did", x.minutes(n), n);
            due("minutes: it is the MINUTE", x.now(0), 3 + n);
            due("minutes: as one act", x.undo(), 6);
            due("minutes: undone", x.now(0), 3);
        }
    }

    private static ProperFollow late(int minute) {
        ProperFollow x = Checks.townOf(TWO + "person p a 0;person q b 0;");
        pass(x, minute);
        return x;
    }

    private static void minutesTillAllAreOver() {
        due("minutes: all of 60 to 400", late(340).minutes(60), 60);
        due("minutes: 59 of 60", late(341).minutes(60), 59);
        due("minutes: the last of 60", late(399).minutes(60), 1);
        due("minutes: the last", late(399).minutes(1), 1);
        for (int n : new int[] {1, 60}) {
            Checks.leavesAll("minutes: none at 400", () -> late(400), x -> due("minutes: none at 400", x.minutes(n), 0));
        }
        due("minutes: 0 is not as told at 400 either", late(400).minutes(0), NONE);
        due("minutes: 61 is not as told at 400 either", late(400).minutes(61), NONE);
        ProperFollow x = late(341);
        x.minutes(60);
        due("minutes: at most 400", x.now(0), 400);
        due("minutes: what did can be undone", x.undo(), 6);
        due("minutes: 341 again", x.now(0), 341);
    }

    private static void undoNone() {
        Checks.leavesAll("undo: none is", () -> Checks.townOf(Checks.RICH_TOWN), x -> due("undo: none is", x.undo(), NONE));
        ProperFollow x = Checks.rich();
        for (int left = 5; left >= 0; left--) {
            due("undo: how many more can be", x.undo(), left);
        }
        due("undo: none is any more", x.undo(), NONE);
        due("undo: none is yet", x.undo(), NONE);
        due("undo: MINUTE 0", x.now(0), 0);
        due("undo: his bun", x.person(0, 1), 3);
    }

    private static ProperFollow base() {
        return Checks.townOf(STREET + "person p a 9;person q c 9;person r h 0;follows r q 2;");
    }

    private static void undone(String what, ToIntFunction<ProperFollow> act, int want) {
        ProperFollow x = base();
        String before = Checks.all(x, false);
        due(what, act.applyAsInt(x), want);
        String behind = Checks.all(x, false);
        due(what + " changes something", behind.equals(before), false);
        due(what + " is undone", x.undo(), 0);
        Checks.same(what + " is undone, all of it", withoutTold(Checks.all(x, false)), withoutTold(before));
        due(what + " is undone once", x.undo(), NONE);
    }

    private static String withoutTold(String all) {
        StringBuilder text = new StringBuilder();
        for (String row : all.split("\n")) {
            text.append(row.startsWith("told") ? "" : row + "\n");
        }
        return text.toString();
    }

    private static void undoEachAct() {
        undone("send", x -> x.send(0, 1), 0);
        undone("drop", x -> x.drop(1), 0);
        undone("leave", x -> x.leave(2), 0);
        undone("hire", x -> x.hire(2, 0, 5), 0);
        undone("minutes of 1", x -> x.minutes(1), 1);
        undone("minutes of 60", x -> x.minutes(60), 60);
        undone("drawn of 1", x -> x.drawn(1, 1), 1);
        undone("drawn of 60", x -> x.drawn(60, 1), 60);
        undone("a BOOK", x -> Checks.book(x, "p drops;p goes b;minute 9;q drops;r leaves;q hires r 1;minute 60;", 1), NONE);
        undone("a BOOK of one LINE", x -> Checks.book(x, "p drops;", 1), NONE);
        undone("a BOOK that is WRONG behind one", x -> Checks.book(x, "p drops;p leaves;q drops;", 1), 1);
    }

    private static void undoEightAreKept() {
        for (int acts = 1; acts <= 20; acts++) {
            ProperFollow x = base();
            for (int k = 0; k < acts; k++) {
                x.minutes(1);
            }
            int kept = Math.min(8, acts);
            for (int left = kept - 1; left >= 0; left--) {
                due("undo: how many more of " + acts, x.undo(), left);
                due("undo: the latest of " + acts, x.now(0), acts - (kept - left));
            }
            due("undo: 8 at most are kept of " + acts, x.undo(), NONE);
            due("undo: it stays at the ninth", x.now(0), acts - kept);
        }
    }

    private static void undoWhatWasDoneAlone() {
        ProperFollow y = base();
        due("done", y.drop(0), 0);
        due("not done: send", y.send(0, 5), 3);
        due("not done: drop", y.drop(2), 1);
        due("not done: leave", y.leave(0), 1);
        due("not done: hire", y.hire(0, 2, 1), 1);
        due("not done: none such", y.send(9, 9) + y.drop(9) + y.leave(9) + y.hire(9, 9, 9) + y.minutes(0) + y.drawn(0, 0), -6);
        due("not lived: judged alone", Checks.book(y, "p drops;", 0), NONE);
        due("not lived: WRONG at once", Checks.book(y, "p leaves;p drops;", 1), 0);
        due("not lived: empty", Checks.book(y, "", 1), NONE);
        due("not lived: a FAULT behind a LINE", Checks.book(y, "p drops;p;", 1), -11);
        due("not an act: a SENTENCE", Checks.sentence(y, "idle"), 1);
        y.cut();
        y.hires();
        y.image(0);
        due("undo: what was done alone", y.undo(), 0);
        due("undo: his bun", y.person(0, 1), 9);
        due("undo: no more", y.undo(), NONE);
    }

    private static void undoAtFourHundred() {
        ProperFollow x = late(400);
        due("none goes", x.minutes(60), 0);
        due("none is drawn", x.drawn(60, 1), 0);
        due("minutes of 0, drawn of 0 are no acts", x.undo(), 6);
        due("the latest was of 40", x.now(0), 360);
    }

    private static void undoAndGoOn() {
        ProperFollow x = base();
        for (int k = 0; k < 9; k++) {
            x.minutes(1);
        }
        due("undo", x.undo() * 10 + x.undo(), 76);
        due("at 7", x.now(0), 7);
        x.minutes(2);
        x.minutes(3);
        due("undo the last of eight", x.undo(), 7);
        due("at 9", x.now(0), 9);
        due("undo", x.undo(), 6);
        due("at 7 again", x.now(0), 7);
        for (int left = 5; left >= 0; left--) {
            due("undo on", x.undo(), left);
        }
        due("at 1", x.now(0), 1);
        due("undo: none", x.undo(), NONE);
    }

    private static void undoLeavesTheRest() {
        ProperFollow x = Checks.rich();
        x.undo();
        due("undo leaves the tape", x.count(3), 11);
        due("undo leaves cutting", x.cutting(), 8);
        due("undo leaves ask", x.ask(), 1);
        due("undo leaves pathAt", x.pathAt(0), 1);
        due("undo leaves barred", x.barred(), 10);
        due("undo leaves hiredBy", x.hiredBy(0), 5);
        due("undo leaves told", x.told(0), 11);
        due("undo leaves the LINE", x.byteAt(0), 'b');
        due("undo leaves fault", x.fault(), 2);
        due("undo leaves the SENTENCE", x.said(NONE), 4);
    }

    private static void ringNoSuchOne() {
        int[] want = {0, 0, 0, 24, 24, 0};
        for (int p = 0; p < 6; p++) {
            int him = p;
            idle("ring of " + p, x -> x.ring(him), want[him]);
        }
        idle("ring: PERSON 6 of 6", x -> x.ring(6), NONE);
        for (int k : OUTSIDE) {
            idle("ring: PERSON " + k, x -> x.ring(k), NONE);
        }
    }

    private static void ringsOfTwoAndSix() {
        String six = "corner a;person p a 0;person q a 0;person r a 0;person s a 0;person t a 0;person u a 0;";
        ProperFollow x = Checks.townOf(six + "follows p q 1;follows q r 1;follows r s 1;follows s t 1;follows t u 1;");
        for (int p = 0; p < 6; p++) {
            due("ring: a row is none", x.ring(p), 0);
        }
        due("cut: no RING", x.cut() * 100 + x.cutting(), 0);
        due("the last one follows the first", x.hire(0, 5, 1), 0);
        for (int p = 0; p < 6; p++) {
            due("ring: all six", x.ring(p), 63);
            due("ring: the last of his ROW", x.person(p, 6), (p + 5) % 6);
        }
        due("cut: one", x.cut() * 100 + x.cutting(), 101);
        ProperFollow y = Checks.townOf(six + "follows p q 1;follows q r 1;follows r s 1;follows s t 1;follows t s 1;follows u s 1;");
        due("ring: who goes into it is not in it", y.ring(0) + y.ring(1) + y.ring(2) + y.ring(5), 0);
        due("ring: two", y.ring(3), 24);
        due("ring: two, of the other", y.ring(4), 24);
        due("the last of a ROW into it", y.person(0, 6) * 10 + y.person(5, 6), 44);
        due("cut: the least as bits", y.cut() * 100 + y.cutting(), 108);
    }

    private static void cutAndCutting() {
        idle("cutting", ProperFollow::cutting, 8);
        idle("cut again", ProperFollow::cut, 1);
        ProperFollow x = Checks.townOf(TWO + "person p a 0;person q a 0;follows p q 1;");
        due("cutting ahead of any", x.cutting(), NONE);
        due("cut: none", x.cut(), 0);
        due("cutting: nobody", x.cutting(), 0);
        x.hire(0, 1, 1);
        due("cutting by the latest", x.cutting(), 0);
        due("cut: one", x.cut(), 1);
        due("cutting: the first", x.cutting(), 1);
        due("cut: nobody left", x.now(4), 1);
        x.leave(0);
        due("cutting by the latest yet", x.cutting(), 1);
        due("cut: none again", x.cut(), 0);
        due("cutting: nobody again", x.cutting(), 0);
    }

    private static void meetNoSuchOnes() {
        idle("meet", x -> x.meet(0, 3), 0);
        idle("meet in some MINUTES", x -> x.meet(0, 4), Checks.rich().meet(4, 0));
        idle("meet: never", x -> x.meet(0, 2), NONE);
        idle("meet: alike", x -> x.meet(0, 0), NONE);
        idle("meet: PERSON 6 of 6", x -> x.meet(6, 0), NONE);
        idle("meet PERSON 6 of 6", x -> x.meet(0, 6), NONE);
        idle("meet: alike, no such ones", x -> x.meet(6, 6), NONE);
        for (int k : OUTSIDE) {
            idle("meet: PERSON " + k, x -> x.meet(k, 0), NONE);
            idle("meet PERSON " + k, x -> x.meet(0, k), NONE);
        }
    }

    private static void meetZeroAndNinetyNine() {
        ProperFollow x = Checks.townOf(STREET + "person p a 0;person q a 0;person r b 0;person s h 0;next s g;");
        due("meet: they are", x.meet(0, 1), 0);
        due("meet: one BESIDE", x.meet(0, 2), NONE);
        x.send(0, 1);
        due("meet in one", x.meet(0, 2), 1);
        due("meet: they are yet", x.meet(0, 1), 0);
        ProperFollow over = late(400);
        over.send(0, 1);
        due("meet: MINUTE 400 no matter", over.meet(0, 1), 1);
        due("meet: it stays", over.now(0), 400);
    }

    private static void properNoSuchOnes() {
        idle("proper: no row of CORNERS", x -> x.proper(0, 2), 1);
        idle("proper: by none", x -> x.proper(0, 5), NONE);
        idle("proper: alike", x -> x.proper(0, 0), NONE);
        idle("proper: PERSON 6 of 6", x -> x.proper(6, 0), NONE);
        idle("proper behind PERSON 6 of 6", x -> x.proper(0, 6), NONE);
        idle("proper: alike, no such ones", x -> x.proper(6, 6), NONE);
        for (int k : OUTSIDE) {
            idle("proper: PERSON " + k, x -> x.proper(k, 0), NONE);
            idle("proper behind PERSON " + k, x -> x.proper(0, k), NONE);
        }
    }

    private static void properOneToFive() {
        String ring = "corner a;corner b;corner c;corner d;corner e;street a b;street b c;street c d;street d e;street e a;";
        String five = ring + "person p a 0;person q c 0;person r e 0;follows q r 4;follows r p 2;";
        Checks.leavesAll("proper: 5", () -> Checks.townOf(five), x -> due("proper: 5", x.proper(0, 1), 5));
        Checks.leavesAll("proper: 1", () -> late(400), x -> due("proper: seen at once", x.proper(0, 1), NONE));
    }
}

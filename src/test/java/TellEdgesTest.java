import java.util.Arrays;
import java.util.function.ToIntFunction;

/** Promises 21 to 41, sentence by sentence at their edges: the last that is taken, the first that is refused. */
public final class TellEdgesTest {
    private static final int NONE = ProperFollow.NONE;
    private static final int LEAST = Integer.MIN_VALUE;
    private static final int GREATEST = Integer.MAX_VALUE;
    private static final String TWO = "corner a;corner b;street a b;";
    private static final String EIGHT = "corner a;corner b;corner c;corner d;corner e;corner f;corner g;corner h;";
    private static final String STREET = EIGHT
            + "street a b;street b c;street c d;street d e;street e f;street f g;street g h;";
    /** What none of a row of n is, beside n itself. */
    private static final int[] OUTSIDE = {-1, -2, 100, LEAST, GREATEST, GREATEST - 1, LEAST + 1};

    public static void main(String[] args) {
        fitsNotAsTold();
        fitsOneToSix();
        askAheadOfAny();
        askByThen();
        pathNoSuchOnes();
        pathAtNoneSuch();
        pathStays();
        barNoSuchOnes();
        barredAheadOfAny();
        hiresAheadOfAny();
        hiredByNoSuchOne();
        meanNoSuchOnes();
        lineNoSuchOne();
        byteAtNoneSuch();
        drawnOneToSixty();
        drawnTillAllAreOver();
        oddsNoSuchOnes();
        oddsOneToThirty();
        oddsWrap();
        oddsTillAllAreOver();
        bookOfAnotherLives();
        bookWithAFault();
        bookJudged();
        bookLived();
        bookTheLineThatIsWrong();
        bookMinutesLeft();
        toldAheadOfAny();
        toldEachWhy();
        toldOfTheLatest();
        toldThen();
        sentenceOnes();
        sentenceWithAFaultStays();
        saidNoneSuch();
        saidOfAll();
        imageNoSuchOne();
        imageKeepsAll();
        restoreNothing();
        restoreLeavesTheRest();
        restoreTwice();
        countOfAnotherWhat();
        Checks.finish();
    }

    private static void due(String what, long got, long want) {
        Checks.due(what, got, want);
    }

    private static void due(String what, boolean got, boolean want) {
        Checks.due(what, got, want);
    }

    /** A call on the rich object answers so and leaves all as it was. */
    private static void idle(String what, ToIntFunction<ProperFollow> call, int want) {
        Checks.leavesAll(what, Checks::rich, x -> due(what, call.applyAsInt(x), want));
    }

    /** A text on the rich object, its own tape emptied first, answers so and leaves all but the fault as it was. */
    private static void idleText(String what, String text, ToIntFunction<ProperFollow> call, int want) {
        Checks.alike(what, Checks::rich, x -> {
            x.end(0);
            Checks.tape(x, text);
            due(what, call.applyAsInt(x), want);
            due(what + ": the tape is empty then", x.count(3), 0);
        }, y -> y.end(0), false);
    }

    private static void pass(ProperFollow x, int minutes) {
        for (int left = minutes; left > 0; left -= 60) {
            due("minutes go by", x.minutes(Math.min(60, left)), Math.min(60, left));
        }
    }

    private static ProperFollow late(int minute) {
        ProperFollow x = Checks.townOf(TWO + "person p a 0;person q b 0;");
        pass(x, minute);
        return x;
    }

    /** FITS that is NONE, or nobody, empties the tape and leaves all else, the fault and ASK, too. */
    private static void noFits(String what, int want, int... bytes) {
        Checks.alike(what, Checks::rich, x -> {
            x.end(0);
            due(what, Checks.fits(x, bytes), want);
        }, y -> y.end(0), true);
    }

    private static void fitsNotAsTold() {
        noFits("fits by no byte", NONE);
        noFits("fits by seven", NONE, 0, 0, 0, 0, 0, 0, 0);
        noFits("fits by seven not known", NONE, 255, 255, 255, 255, 255, 255, 255);
        noFits("fits by twenty", NONE, new int[20]);
        noFits("fits by 940", NONE, new int[940]);
        for (int b = 5; b <= 254; b++) {
            ProperFollow x = Checks.rich();
            x.end(0);
            due("fits by " + b + " of 5 CORNERS", Checks.fits(x, b), NONE);
            due("fits: the tape is empty then", x.count(3), 0);
            due("fits: ask stays", x.ask(), 1);
        }
        for (int k = 0; k < 6; k++) {
            int[] bytes = {4, 4, 4, 4, 4, 4};
            bytes[k] = 5;
            noFits("fits: byte " + k + " is neither", NONE, bytes);
        }
        noFits("fits: nobody", 0, 3);
        noFits("fits: nobody by six", 0, 4, 4, 4, 4, 4, 3);
    }

    private static void fitsOneToSix() {
        for (int n = 1; n <= 6; n++) {
            ProperFollow x = Checks.rich();
            x.end(0);
            int[] bytes = new int[n];
            Arrays.fill(bytes, 4);
            due("fits by " + n, Checks.fits(x, bytes), 4);
            Arrays.fill(bytes, 255);
            due("fits by " + n + " not known: all", Checks.fits(x, bytes), 63);
            bytes[n - 1] = new int[] {0, 3, 3, 3, 3, 3}[n - 1];
            due("fits by the last of " + n, Checks.fits(x, bytes), 16);
        }
    }

    private static void askAheadOfAny() {
        ProperFollow x = Checks.townOf(TWO + "person p a 0;person q b 0;next p b;");
        due("ask ahead of any", x.ask(), NONE);
        due("nobody was at both", Checks.fits(x, 0, 1), 0);
        due("ask: a fits() of 0 is none", x.ask(), NONE);
        due("not as told", Checks.fits(x, 2), NONE);
        due("ask: a fits() of NONE is none", x.ask(), NONE);
        due("one", Checks.fits(x, 0), 1);
        due("ask: one is left anyway", x.ask(), 0);
        idle("ask", ProperFollow::ask, 1);
    }

    private static void askByThen() {
        // Together now, apart before: k minutes later it is k minutes ago, five at most.
        for (int k = 0; k <= 6; k++) {
            ProperFollow x = Checks.townOf(STREET + "person p a 0;person q c 0;next p b;next q b;");
            if (k > 0) {
                pass(x, k);
            }
            due("all", Checks.fits(x, 255), 3);
            due("ask at MINUTE " + k, x.ask(), k < 6 ? k : 0);
            pass(x, 1);
            due("ask: by where they were then", x.ask(), k < 6 ? k : 0);
            due("undo", x.undo() >= 0, true);
            due("nobody", Checks.fits(x, 7), 0);
            due("ask by the latest above 0", x.ask(), k < 6 ? k : 0);
        }
    }

    private static void pathNoSuchOnes() {
        idle("path: none", x -> x.path(0, 4), NONE);
        idle("path: PERSON 6 of 6", x -> x.path(6, 0), NONE);
        idle("path to CORNER 5 of 5", x -> x.path(0, 5), NONE);
        idle("path again", x -> x.path(5, 0), 2);
        for (int k : OUTSIDE) {
            idle("path: PERSON " + k, x -> x.path(k, 0), NONE);
            idle("path to CORNER " + k, x -> x.path(0, k), NONE);
        }
    }

    private static void pathAtNoneSuch() {
        idle("pathAt 0", x -> x.pathAt(0), 1);
        idle("pathAt 1", x -> x.pathAt(1), 0);
        idle("pathAt 2 of 2", x -> x.pathAt(2), NONE);
        for (int k : OUTSIDE) {
            idle("pathAt " + k, x -> x.pathAt(k), NONE);
        }
        ProperFollow x = Checks.townOf(STREET + "person p a 0;");
        due("pathAt ahead of any", x.pathAt(0), NONE);
        due("no such one", x.path(0, 8), NONE);
        due("pathAt ahead of any that was not NONE", x.pathAt(0), NONE);
        due("the longest", x.path(0, 7), 7);
        for (int k = 0; k < 7; k++) {
            due("pathAt " + k, x.pathAt(k), k + 1);
        }
        due("pathAt 7 of 7", x.pathAt(7), NONE);
        due("pathAt 8 of 7", x.pathAt(8), NONE);
        due("he is there", x.path(0, 0), 0);
        due("pathAt 0 of 0", x.pathAt(0), NONE);
    }

    private static void pathStays() {
        ProperFollow x = Checks.townOf(EIGHT + "street a b;street b c;person p a 0;next p b;");
        due("path", x.path(0, 2), 2);
        pass(x, 1);
        due("none", x.path(0, 3), NONE);
        due("no such one", x.path(1, 2), NONE);
        due("pathAt: by the latest that was not NONE, as it was", x.pathAt(0) * 10 + x.pathAt(1), 12);
        due("path of now", x.path(0, 2), 1);
        due("pathAt: the first he comes to", x.pathAt(0), 2);
        due("pathAt: no second any more", x.pathAt(1), NONE);
    }

    private static void barNoSuchOnes() {
        idle("bar: BESIDE one another", x -> x.bar(0, 1), NONE);
        idle("bar: BESIDE one another, too", x -> x.bar(3, 0), NONE);
        idle("bar: alike", x -> x.bar(2, 2), NONE);
        idle("bar: CORNER 5 of 5", x -> x.bar(5, 0), NONE);
        idle("bar of CORNER 5 of 5", x -> x.bar(0, 5), NONE);
        idle("bar again", x -> x.bar(2, 0), 2);
        for (int k : OUTSIDE) {
            idle("bar: CORNER " + k, x -> x.bar(k, 0), NONE);
            idle("bar of CORNER " + k, x -> x.bar(0, k), NONE);
        }
    }

    private static void barredAheadOfAny() {
        idle("barred", ProperFollow::barred, 10);
        ProperFollow x = Checks.townOf(STREET);
        due("barred ahead of any", x.barred(), NONE);
        due("BESIDE", x.bar(0, 1), NONE);
        due("barred ahead of any that was not NONE", x.barred(), NONE);
        due("bar", x.bar(5, 7), 1);
        due("barred", x.barred(), 64);
        due("alike", x.bar(5, 5), NONE);
        due("barred by the latest that was not NONE", x.barred(), 64);
        ProperFollow y = Checks.townOf(EIGHT);
        due("bar: none are needed", y.bar(0, 7), 0);
        due("barred: none", y.barred(), 0);
    }

    private static void hiresAheadOfAny() {
        idle("hires again", ProperFollow::hires, 1);
        idle("hiresFar", ProperFollow::hiresFar, 1);
        ProperFollow x = Checks.townOf(STREET + "person p a 0;person q h 0;next p b;");
        due("hiresFar ahead of any", x.hiresFar(), NONE);
        due("hiredBy ahead of any", x.hiredBy(0), NONE);
        due("hires", x.hires(), 1);
        due("hiresFar", x.hiresFar(), 7);
        due("hiredBy", x.hiredBy(0), 1);
        due("hires: nobody is hired by it", x.now(1), 0);
        pass(x, 1);
        due("hiresFar by the latest", x.hiresFar(), 7);
        due("hiredBy by the latest", x.hiredBy(0), 1);
        due("hires: nobody has a WAY", x.hires(), 0);
        due("hiresFar: none", x.hiresFar(), 0);
        due("hiredBy: nobody", x.hiredBy(0), NONE);
    }

    private static void hiredByNoSuchOne() {
        idle("hiredBy 0", x -> x.hiredBy(0), 5);
        idle("hiredBy: nobody", x -> x.hiredBy(5), NONE);
        idle("hiredBy: PERSON 6 of 6", x -> x.hiredBy(6), NONE);
        for (int k : OUTSIDE) {
            idle("hiredBy: PERSON " + k, x -> x.hiredBy(k), NONE);
        }
        // The least and the last: person 5 is hired, and hires.
        ProperFollow x = Checks.townOf(TWO + "person p a 0;person q b 0;person r a 0;person s a 0;person t a 0;person u a 0;"
                + "follows p q 1;follows q p 1;follows s p 1;follows t p 1;next u b;");
        due("hires", x.hires(), 1);
        due("hiredBy: the last PERSON", x.hiredBy(5), 2);
        Checks.town(x, "corner a;person p a 0;");
        due("hiredBy: one of the TOWN that was then", x.hiredBy(5), 2);
        due("hires in a TOWN of one", x.hires(), 0);
        for (int p = 0; p <= 6; p++) {
            due("hiredBy: no such one in the TOWN that was then", x.hiredBy(p), NONE);
        }
    }

    private static void meanNoSuchOnes() {
        idle("mean above", x -> x.mean(0), 2);
        idle("mean below", x -> x.mean(1), 3);
        idle("mean 2", x -> Checks.meanThrows(x, 2) ? 1 : 0, 1);
        for (int k : OUTSIDE) {
            idle("mean " + k, x -> Checks.meanThrows(x, k) ? 1 : 0, 1);
        }
        Checks.leavesAll("mean of nobody", () -> Checks.townOf(STREET),
                x -> due("mean of nobody", Checks.meanThrows(x, 0) && Checks.meanThrows(x, 1), true));
        ProperFollow one = Checks.townOf("corner a;person p a 0;");
        due("mean of one, no PRINTS: above", one.mean(0), 0);
        due("mean of one, no PRINTS: below", one.mean(1), 1);
    }

    private static void lineNoSuchOne() {
        idle("line again", x -> x.line(1), 18);
        idle("line: PERSON 6 of 6", x -> x.line(6), NONE);
        for (int k : OUTSIDE) {
            idle("line: PERSON " + k, x -> x.line(k), NONE);
        }
    }

    private static void byteAtNoneSuch() {
        idle("byteAt 0", x -> x.byteAt(0), 'b');
        idle("byteAt 17 of 18", x -> x.byteAt(17), 'd');
        idle("byteAt 18 of 18", x -> x.byteAt(18), NONE);
        for (int k : OUTSIDE) {
            idle("byteAt " + k, x -> x.byteAt(k), NONE);
        }
        ProperFollow x = Checks.townOf("corner aaaaaaa;person bbbbbbb aaaaaaa 0;person ccccccc aaaaaaa 0;person d aaaaaaa 0;"
                + "follows bbbbbbb ccccccc 1;");
        due("byteAt ahead of any", x.byteAt(0), NONE);
        due("no such one", x.line(3), NONE);
        due("byteAt ahead of any LINE", x.byteAt(0), NONE);
        due("the longest LINE", x.line(0), 32);
        due("byteAt: its last", x.byteAt(31), 'c');
        due("byteAt: none behind it", x.byteAt(32), NONE);
        due("a shorter LINE", x.line(2), 18);
        due("byteAt: its last, too", x.byteAt(17), 's');
        due("byteAt: nothing of the longer one", x.byteAt(18), NONE);
    }

    private static void drawnOneToSixty() {
        for (int n : new int[] {0, -1, 61, 400, LEAST, GREATEST}) {
            idle("drawn: " + n + " is not as told", x -> x.drawn(n, 1), NONE);
        }
        for (int n : new int[] {1, 2, 59, 60}) {
            for (int seed : new int[] {0, 1, -1, LEAST, GREATEST}) {
                ProperFollow x = Checks.rich();
                due("drawn: " + n + " went by", x.drawn(n, seed), n);
                due("drawn: it is the MINUTE", x.now(0), 3 + n);
                due("drawn: as one act", x.undo(), 6);
                due("drawn: undone", x.now(0), 3);
            }
        }
    }

    private static void drawnTillAllAreOver() {
        due("drawn: all of 60 to 400", late(340).drawn(60, 1), 60);
        due("drawn: 59 of 60", late(341).drawn(60, 1), 59);
        due("drawn: the last of 60", late(399).drawn(60, 1), 1);
        for (int n : new int[] {1, 60}) {
            Checks.leavesAll("drawn: none at 400", () -> late(400), x -> due("drawn: none at 400", x.drawn(n, 1), 0));
        }
        due("drawn: 0 is not as told at 400 either", late(400).drawn(0, 1), NONE);
        due("drawn: 61 is not as told at 400 either", late(400).drawn(61, 1), NONE);
        // Those that went by are the first of them: no act is drawn behind the last.
        for (int seed = 0; seed < 40; seed++) {
            ProperFollow x = late(397);
            ProperFollow y = late(397);
            due("drawn: three of 60", x.drawn(60, seed), 3);
            due("drawn: three", y.drawn(3, seed), 3);
            Checks.same("drawn: the first three, seed " + seed, Checks.all(x, true), Checks.all(y, true));
        }
    }

    private static void oddsNoSuchOnes() {
        idle("odds: PERSON 6 of 6", x -> x.odds(6, 1, 1), NONE);
        idle("odds of 0 seeds", x -> x.odds(0, 0, 1), NONE);
        idle("odds of 31 seeds", x -> x.odds(0, 31, 1), NONE);
        for (int k : OUTSIDE) {
            idle("odds: PERSON " + k, x -> x.odds(k, 1, 1), NONE);
            idle("odds of " + k + " seeds", x -> x.odds(0, k, 1), NONE);
        }
    }

    /** By how many of n seeds somebody follows him, each tried by drawn() and undone. */
    private static int byDrawn(ProperFollow x, int p, int n, int seed) {
        int followed = 0;
        for (int k = 0; k < n; k++) {
            int gone = x.drawn(10, seed + k);
            followed += x.person(p, 5) != 0 ? 1 : 0;
            if (gone > 0) {
                x.undo();
            }
        }
        return followed;
    }

    private static void oddsOneToThirty() {
        for (int n : new int[] {1, 2, 29, 30}) {
            for (int p = 0; p < 6; p++) {
                int him = p;
                int want = byDrawn(Checks.rich(), p, n, 77);
                idle("odds of " + n + " seeds", x -> x.odds(him, n, 77), want);
            }
        }
    }

    private static void oddsWrap() {
        for (int seed : new int[] {-15, GREATEST - 29, GREATEST - 15, GREATEST, LEAST, LEAST + 1}) {
            for (int p = 0; p < 6; p++) {
                int want = byDrawn(Checks.rich(), p, 30, seed);
                due("odds: x, x and 1, .. from " + seed, Checks.rich().odds(p, 30, seed), want);
            }
        }
    }

    private static void oddsTillAllAreOver() {
        for (int minute : new int[] {389, 390, 391, 395, 399}) {
            for (int p = 0; p < 2; p++) {
                ProperFollow x = late(minute);
                due("odds at MINUTE " + minute, x.odds(p, 30, 3), byDrawn(late(minute), p, 30, 3));
                due("odds: it stays", x.now(0), minute);
            }
        }
        ProperFollow x = late(400);
        due("odds at 400: nobody", x.odds(0, 30, 3), 0);
        x.hire(0, 1, 1);
        due("odds at 400: as it is", x.odds(0, 30, 3), 30);
        due("odds at 400: the other", x.odds(1, 30, 3), 0);
    }

    private static void bookOfAnotherLives() {
        for (int lives : new int[] {-1, 2, -1000, LEAST, GREATEST}) {
            idle("book: another lives " + lives, x -> x.book(lives), -1000);
        }
        ProperFollow x = Checks.townOf(TWO + "person p a 1;");
        Checks.tape(x, "p drops;");
        due("book: another lives", x.book(2), -1000);
        due("book: ahead of any yet", x.told(0), NONE);
        due("book: the tape stays", x.count(3), 8);
        due("book: and is read", x.book(1), NONE);
        due("book: lived", x.corner(0, 2), 1);
    }

    private static void bookWithAFault() {
        String[] texts = {"x", "minute 1;ann drops", "ann drops;zed drops;", "minute 1;minute 0;", "minute 1;".repeat(41)};
        int[] places = {0, 18, 10, 16, 360};
        int[] kinds = {3, 1, 3, 2, 4};
        for (int k = 0; k < texts.length; k++) {
            for (int lives = 0; lives <= 1; lives++) {
                int it = lives;
                idleText("book: -2 less the place of a FAULT, " + k, texts[k], x -> x.book(it), -2 - places[k]);
            }
            ProperFollow x = Checks.rich();
            x.end(0);
            Checks.book(x, texts[k], 1);
            due("book: its kind", x.fault(), kinds[k]);
        }
    }

    private static void bookJudged() {
        String[] texts = {"ann drops;minute 3;", "minute 60;", "fay hires cid 1;ann leaves;", "dan leaves;dan goes c;minute 1;",
            "cid drops;"};
        for (String text : texts) {
            // An empty book behind it tells the same of both.
            Checks.alike("book: judged, all staying as it is: " + text, Checks::rich, x -> {
                x.end(0);
                Checks.book(x, text, 0);
                x.book(0);
            }, y -> {
                y.end(0);
                y.book(0);
            }, true);
        }
    }

    private static void bookLived() {
        ProperFollow x = Checks.townOf(TWO + "person p a 2;person q b 0;");
        due("book: none is WRONG", Checks.book(x, "p drops;p goes b;p hires q 2;minute 1;", 1), NONE);
        due("book: lived: a bun", x.person(0, 1), 1);
        due("book: lived: a corner", x.person(0, 0), 1);
        due("book: lived: a hire", x.person(1, 3), 2);
        due("book: lived: a MINUTE", x.now(0), 1);
        due("book: lived as far as it is not WRONG", Checks.book(x, "p drops;minute 1;p drops;minute 1;", 1), 2);
        due("book: lived: the bun ahead of it", x.person(0, 1), 0);
        due("book: lived: the MINUTE ahead of it", x.now(0), 2);
        due("book: two acts", x.undo() * 10 + x.undo(), 10);
        due("book: nothing else", x.undo(), NONE);
        Checks.alike("book: the first LINE is WRONG: all stays", Checks::rich, y -> {
            y.end(0);
            due("book: the first LINE", Checks.book(y, "cid drops;ann drops;", 1), 0);
        }, y -> y.end(0), false);
    }

    private static void bookTheLineThatIsWrong() {
        for (int k = 0; k <= 39; k++) {
            ProperFollow x = Checks.townOf(TWO + "person p a 1;");
            String good = "minute 1;";
            due("book: LINE " + k, Checks.book(x, good.repeat(k) + "p leaves;" + good.repeat(39 - k), 0), k);
            due("book: LINES that are not", x.told(1), k);
            due("book: the MINUTE then", x.told(2), k);
        }
        ProperFollow x = Checks.townOf(TWO + "person p a 1;");
        due("book: none of 40", Checks.book(x, "minute 1;".repeat(40), 1), NONE);
        due("book: all 40", x.told(1) * 100 + x.now(0), 4040);
        due("book: as one act", x.undo(), 0);
    }

    private static void bookMinutesLeft() {
        due("book: as many as are left", Checks.book(late(340), "minute 60;", 1), NONE);
        ProperFollow x = late(341);
        due("book: fewer are left", Checks.book(x, "minute 60;", 1), 0);
        due("book: 41", x.told(0), 41);
        due("book: none goes", x.now(0), 341);
        due("book: told the MINUTE then", x.told(2), 341);
        due("book: nothing is lived", x.undo(), 5);
        due("book: 59 are left", Checks.book(late(341), "minute 59;", 1), NONE);
        due("book: one is left", Checks.book(late(399), "minute 1;", 1), NONE);
        due("book: none is left", Checks.book(late(400), "minute 1;", 1), 0);
        ProperFollow y = late(390);
        due("book: MINUTE by MINUTE", Checks.book(y, "minute 5;minute 5;p goes b;minute 1;", 1), 3);
        due("book: the MINUTE then is 400", y.told(2) + y.now(0), 800);
    }

    private static void toldAheadOfAny() {
        int[] want = {11, 0, 3, 4};
        for (int what = 0; what <= 3; what++) {
            int k = what;
            idle("told " + k, x -> x.told(k), want[k]);
        }
        idle("told 4", x -> x.told(4), NONE);
        for (int k : OUTSIDE) {
            idle("told " + k, x -> x.told(k), NONE);
        }
        ProperFollow x = Checks.townOf(TWO + "person p a 1;");
        due("a FAULT", Checks.book(x, "p;", 0), -3);
        for (int what = -1; what <= 4; what++) {
            due("told ahead of any that had no FAULT", x.told(what), NONE);
        }
    }

    private static void why(String text, int line, int why) {
        for (int lives = 0; lives <= 1; lives++) {
            ProperFollow x = Checks.townOf(TWO + "corner c;person p a 1;person q b 0;person r a 0;follows r p 1;");
            due("the LINE that is WRONG: " + text, Checks.book(x, text, lives), line);
            due("why it was WRONG: " + text, x.told(0), why);
            due("LINES that are not: " + text, x.told(1), line == NONE ? text.split(";").length : line);
        }
    }

    private static void toldEachWhy() {
        why("p drops;", NONE, 0);
        why("r goes b;", 0, 1);
        why("r goes c;", 0, 1);
        why("p goes b;p goes a;p goes b;p goes a;p goes b;p goes a;p goes b;p goes a;p goes b;", 8, 2);
        why("p goes b;p goes a;p goes b;p goes a;p goes b;p goes a;p goes b;p goes a;", NONE, 0);
        why("p goes c;", 0, 3);
        why("p goes a;", 0, 3);
        why("p drops;p drops;", 1, 11);
        why("p leaves;", 0, 21);
        why("r leaves;r leaves;", 1, 21);
        why("q hires r 1;", 0, 31);
        why("p goes b;q hires p 5;", 1, 32);
        why("p goes b;minute 1;q hires p 5;", NONE, 0);
        why("minute 60;minute 60;minute 60;minute 60;minute 60;minute 60;minute 41;", 6, 41);
        why("minute 60;minute 60;minute 60;minute 60;minute 60;minute 60;minute 40;", NONE, 0);
    }

    private static void toldOfTheLatest() {
        ProperFollow x = Checks.townOf(TWO + "person p a 1;next p b;");
        due("WRONG", Checks.book(x, "minute 1;p leaves;", 0), 1);
        due("why", x.told(0), 21);
        due("a FAULT", Checks.book(x, "minute 61;", 0), -9);
        due("told of the latest that had no FAULT", x.told(0) * 10 + x.told(1), 211);
        due("another lives", x.book(2), -1000);
        due("told of the latest that was not -1000", x.told(2) * 10 + x.told(3), 11);
        due("an empty one", x.book(0), NONE);
        due("0: it was not", x.told(0), 0);
        due("no LINES", x.told(1), 0);
        due("the MINUTE then", x.told(2), 0);
        due("all PRINTS then", x.told(3), 0);
    }

    private static void toldThen() {
        ProperFollow x = Checks.townOf(TWO + "person p a 1;person q b 0;next p b;next q a;");
        due("judged", Checks.book(x, "minute 2;", 0), NONE);
        due("told 2: as if it had been lived", x.told(2), 2);
        due("told 3: as if it had been lived", x.told(3), 2);
        due("the MINUTE stays", x.now(0) + x.now(5), 0);
        due("lived", Checks.book(x, "minute 1;p goes a;minute 3;", 1), NONE);
        due("told 2", x.told(2), 4);
        due("told 3", x.told(3), 3);
        pass(x, 1);
        due("told: then, not now", x.told(2), 4);
        x.undo();
        x.undo();
        due("told: it is not undone", x.told(2) * 10 + x.told(3), 43);
    }

    private static void sentenceOnes() {
        String[] texts = {"alone", "not alone", "(alone)", "((alone))", "not(not alone)", "alone and idle", "alone or idle and ringed",
            "buns<0", "(alone or idle)and at a", "not not alone or alone"};
        int[] ones = {1, 2, 2, 3, 4, 2, 3, 1, 4, 4};
        for (int k = 0; k < texts.length; k++) {
            ProperFollow x = Checks.townOf(TWO + "person p a 1;");
            due("sentence: how many ONES: " + texts[k], Checks.sentence(x, texts[k]), ones[k]);
            due("sentence: the tape is empty then", x.count(3), 0);
            due("sentence: no FAULT", x.fault(), 0);
        }
    }

    private static void sentenceWithAFaultStays() {
        idleText("sentence: an empty one", "", ProperFollow::sentence, -1);
        idleText("sentence: 1 at its end", "idle and", ProperFollow::sentence, -9);
        idleText("sentence: 1", "idle ann", ProperFollow::sentence, -6);
        idleText("sentence: 3", "at ann", ProperFollow::sentence, -4);
        idleText("sentence: 4", "not ".repeat(8) + "idle", ProperFollow::sentence, -33);
        idleText("sentence: 1, four digits", "buns<1234", ProperFollow::sentence, -6);
    }

    private static void saidNoneSuch() {
        int[] want = {4, 0, 1, 3, 4};
        for (int k = -1; k <= 3; k++) {
            int it = k;
            idle("said " + k, x -> x.said(it), want[k + 1]);
        }
        for (int k : new int[] {4, 5, 6, 100, GREATEST, -2, -3, LEAST}) {
            idle("said " + k + " of 4", x -> x.said(k), NONE);
        }
        ProperFollow x = Checks.townOf(TWO + "person p a 1;");
        due("said: there is no SENTENCE", x.said(NONE), NONE);
        due("said: there is no SENTENCE, the first", x.said(0), NONE);
        Checks.sentence(x, "idle idle");
        due("said: there is none behind a FAULT either", x.said(NONE), NONE);
        Checks.sentence(x, "buns>1");
        due("said: of nobody", x.said(NONE), 0);
        due("said: none such", x.said(0), NONE);
    }

    private static void saidOfAll() {
        ProperFollow x = Checks.rich();
        x.end(0);
        due("of all", Checks.sentence(x, "number<6"), 1);
        due("said: six", x.said(NONE), 6);
        for (int k = 0; k < 6; k++) {
            due("said " + k, x.said(k), k);
        }
        due("said: none behind the sixth", x.said(6), NONE);
        due("of the last", Checks.sentence(x, "number>4"), 1);
        due("said: the last", x.said(NONE) * 10 + x.said(0), 15);
        due("said: no second", x.said(1), NONE);
    }

    private static void imageNoSuchOne() {
        for (int k : new int[] {-1, 2, LEAST, GREATEST}) {
            idle("image " + k, x -> x.image(k) ? 1 : 0, 0);
            idle("restore " + k, x -> x.restore(k) ? 1 : 0, 0);
        }
        ProperFollow x = Checks.rich();
        String before = Checks.all(x, true);
        due("image 0", x.image(0), true);
        due("image 1", x.image(1), true);
        Checks.same("an image changes nothing that is told", Checks.all(x, true), before);
        due("an image leaves what can be undone", x.undo(), 5);
    }

    private static void imageKeepsAll() {
        for (int k = 0; k <= 1; k++) {
            ProperFollow x = Checks.rich();
            x.end(0);
            String then = Checks.all(x, false);
            due("image " + k, x.image(k), true);
            x.drawn(40, 5);
            Checks.sentence(x, "at a");
            Checks.town(x, TWO + "person p a 1;");
            x.send(0, 1);
            x.minutes(1);
            due("restore " + k, x.restore(k), true);
            Checks.same("as kept in place " + k, Checks.all(x, false), then);
            due("nothing can be undone", x.undo(), NONE);
            due("and it stays kept", x.restore(k), true);
            Checks.same("as kept in place " + k + " yet", Checks.all(x, false), then);
        }
    }

    private static void restoreNothing() {
        for (int k = 0; k <= 1; k++) {
            int full = k;
            int empty = 1 - k;
            Checks.leavesAll("restore: nothing is kept in place " + empty, () -> {
                ProperFollow x = Checks.townOf(Checks.RICH_TOWN);
                x.image(full);
                x.minutes(1);
                x.drop(0);
                return x;
            }, x -> due("restore: nothing is kept there", x.restore(empty), false));
        }
        ProperFollow x = new ProperFollow();
        x.image(0);
        Checks.town(x, TWO + "person p a 1;");
        due("restore: of a new object", x.restore(0), true);
        due("restore: no CORNERS", x.count(0) + x.count(1) + x.count(2), 0);
    }

    private static void restoreLeavesTheRest() {
        for (int k = 0; k <= 1; k++) {
            ProperFollow x = Checks.rich();
            due("restore " + k, x.restore(k), true);
            due("restore: the MINUTE", x.now(0), k == 0 ? 0 : 2);
            due("restore: the SENTENCE", x.said(NONE) * 10 + x.said(0), k == 0 ? 12 : 24);
            due("restore: the tape stays", x.count(3), 11);
            due("restore: fault", x.fault(), 2);
            due("restore: cutting", x.cutting(), 8);
            due("restore: ask", x.ask(), 1);
            due("restore: pathAt", x.pathAt(0) * 10 + x.pathAt(1), 10);
            due("restore: barred", x.barred(), 10);
            due("restore: hiresFar", x.hiresFar(), 1);
            due("restore: hiredBy", x.hiredBy(0), 5);
            due("restore: told", x.told(0) * 10 + x.told(3), 114);
            due("restore: the LINE", x.byteAt(17), 'd');
            due("restore: nothing can be undone", x.undo(), NONE);
            due("restore: the other place stays", x.restore(1 - k), true);
            due("restore: the other MINUTE", x.now(0), k == 0 ? 2 : 0);
            due("restore: the tape is what it was", x.town(), 1);
        }
    }

    private static void restoreTwice() {
        ProperFollow x = Checks.townOf(TWO + "person p a 1;next p b;");
        x.image(0);
        x.minutes(1);
        x.image(0);
        x.minutes(1);
        x.restore(0);
        due("restore: the latest image of the place", x.now(0), 1);
        x.minutes(1);
        due("restore: acts behind it can be undone", x.undo(), 0);
        due("restore: no further", x.undo(), NONE);
        ProperFollow y = Checks.townOf(TWO + "person p a 1;");
        Checks.sentence(y, "idle");
        Checks.town(y, TWO + "person p a 1;");
        y.image(0);
        Checks.sentence(y, "idle");
        y.restore(0);
        due("restore: no SENTENCE, if there was none", y.said(NONE), NONE);
    }

    private static void countOfAnotherWhat() {
        int[] want = {5, 4, 6, 11};
        for (int what = 0; what <= 3; what++) {
            int k = what;
            idle("count " + k, x -> x.count(k), want[k]);
        }
        idle("count 4", x -> x.count(4), NONE);
        for (int k : OUTSIDE) {
            idle("count " + k, x -> x.count(k), NONE);
        }
        String streets = "";
        for (char c = 'b'; c <= 'h'; c++) {
            streets += "street a " + c + ";" + (c > 'b' ? "street b " + c + ";" : "") + (c == 'd' ? "street c d;" : "");
        }
        ProperFollow full = Checks.townOf(EIGHT + streets + "person p a 0;person q a 0;person r a 0;person s a 0;person t a 0;"
                + "person u a 0;");
        due("count: 8 CORNERS", full.count(0), 8);
        due("count: 14 STREETS", full.count(1), 14);
        due("count: 6 PERSONS", full.count(2), 6);
    }
}

import java.util.ArrayList;
import java.util.List;

/**
 * What "Terms" says of texts, sentence by sentence: the last that is taken, the first that is refused.
 * In a text that is refused the sign ^ stands right ahead of the place of its fault, and is no part of it.
 */
public final class TextEdgesTest {
    private static final int NONE = ProperFollow.NONE;

    /** A square a b c d, and e apart; ann goes, bob follows her, cid and dan stand. */
    private static final String SQUARE = "corner a;corner b;corner c;corner d;corner e;street a b;street b c;"
            + "street c d;street a d;person ann a 1;person bob c 2;person cid e 0;person dan b 0;"
            + "next ann b;next ann c;next ann d;follows bob ann 2;";
    private static final String PAIR = "corner a;corner b;street a b;person p a 0;person q b 0;";
    private static final String[] WORDS = {
        "corner", "street", "person", "next", "follows", "goes", "drops", "leaves", "hires", "minute", "or", "and",
        "not", "alone", "ringed", "idle", "at", "after", "buns", "left", "behind", "number"
    };

    public static void main(String[] args) {
        everyByteInATown();
        everyByteForAToken();
        everyByteInABook();
        everyByteInASentence();
        wordsOfSevenLetters();
        numbersOfThreeDigits();
        tokensGoOn();
        blanks();
        names();
        bytesOfATown();
        bytesOfABook();
        bytesOfASentence();
        cornersOfATown();
        streetsOfATown();
        personsOfATown();
        nextOfATown();
        followsOfATown();
        numberedFromZero();
        linesOfABook();
        hiringInABook();
        minutesOfABook();
        onesOfASentence();
        withinOneAnother();
        numbersOfASentence();
        theEndOfATown();
        theEndOfABook();
        theEndOfASentence();
        theFirstAlongTheText();
        ofOneTokenTheLeast();
        kindOne();
        kindThree();
        Checks.finish();
    }

    private static int placeIn(String text) {
        return text.indexOf('^');
    }

    private static String bare(String text) {
        return text.replace("^", "");
    }

    private static String shortened(String text) {
        return text.length() < 90 ? text : ".." + text.substring(text.length() - 88);
    }

    private static void town(String why, int lines, String text) {
        ProperFollow x = new ProperFollow();
        Checks.due(why + ": '" + shortened(text) + "'", Checks.town(x, text), lines);
        Checks.due(why + ", no fault: '" + shortened(text) + "'", x.fault(), 0);
    }

    private static void noTown(String why, int kind, String text) {
        noTown(why, kind, placeIn(text), bare(text));
    }

    private static void noTown(String why, int kind, int place, String text) {
        ProperFollow x = Checks.townOf("corner z;person y z 4;");
        Checks.due(why + ": '" + shortened(text) + "'", Checks.town(x, text), -1 - place);
        Checks.due(why + ", its kind: '" + shortened(text) + "'", x.fault(), kind);
        Checks.due(why + ", the tape is empty", x.count(3), 0);
        Checks.due(why + ", the town stays", x.count(0) * 100 + x.count(1) * 10 + x.person(0, 1), 104);
    }

    private static void book(String why, int wrong, String text) {
        ProperFollow x = Checks.townOf(SQUARE);
        Checks.due(why + ": '" + shortened(text) + "'", Checks.book(x, text, 0), wrong);
        Checks.due(why + ", no fault: '" + shortened(text) + "'", x.fault(), 0);
    }

    private static void noBook(String why, int kind, String text) {
        noBook(why, kind, placeIn(text), bare(text));
    }

    private static void noBook(String why, int kind, int place, String text) {
        ProperFollow x = Checks.townOf(SQUARE);
        Checks.due(why + ": '" + shortened(text) + "'", Checks.book(x, text, 1), -2 - place);
        Checks.due(why + ", its kind: '" + shortened(text) + "'", x.fault(), kind);
        Checks.due(why + ", the tape is empty", x.count(3), 0);
        Checks.due(why + ", nothing is lived", x.undo(), NONE);
    }

    private static void sentence(String why, int ones, String text) {
        ProperFollow x = Checks.townOf(SQUARE);
        Checks.due(why + ": '" + shortened(text) + "'", Checks.sentence(x, text), ones);
        Checks.due(why + ", no fault: '" + shortened(text) + "'", x.fault(), 0);
    }

    private static void noSentence(String why, int kind, String text) {
        noSentence(why, kind, placeIn(text), bare(text));
    }

    private static void noSentence(String why, int kind, int place, String text) {
        ProperFollow x = Checks.townOf(SQUARE);
        Checks.sentence(x, "number=2");
        Checks.due(why + ": '" + shortened(text) + "'", Checks.sentence(x, text), -1 - place);
        Checks.due(why + ", its kind: '" + shortened(text) + "'", x.fault(), kind);
        Checks.due(why + ", the tape is empty", x.count(3), 0);
        Checks.due(why + ", the sentence stays", Checks.saidBits(x), 4);
    }

    private static boolean isLetter(char b) {
        return b >= 'a' && b <= 'z';
    }

    private static boolean isDigit(char b) {
        return b >= '0' && b <= '9';
    }

    private static void everyByteInATown() {
        String why = "TOKENS: small letters, digits, ; < = > ( ), blanks 32, 10";
        for (char b = 0; b < 256; b++) {
            String text = "corner z" + b + ";";
            if (b == ' ' || b == '\n' || isLetter(b)) {
                town(why, 1, text);
            } else if (isDigit(b)) {
                noTown(why, 1, 7, text);
            } else {
                noTown(why, 1, b == ';' ? 9 : 8, text);
            }
        }
    }

    private static void everyByteForAToken() {
        String why = "no TOKEN, wherever it stands";
        for (char b = 0; b < 256; b++) {
            if (b == ' ' || b == '\n' || isLetter(b) || isDigit(b)) {
                continue;
            }
            noTown(why, 1, 0, b + "corner y;");
            noTown(why, 1, 9, "corner y;" + b);
            noTown(why, 1, 7, "corner " + b + ";");
            noTown(why, 1, 20, "corner y;person p y " + b + ";");
            noBook(why, 1, 0, b + " drops;");
            noBook(why, 1, 4, "ann " + b + ";");
            noBook(why, 1, 7, "minute " + b + ";");
            noSentence(why, 1, 3, "at " + b);
            noSentence(why, 1, 5, "buns=" + b);
            noSentence(why, 1, 4, "idle" + b);
        }
    }

    private static void everyByteInABook() {
        String why = "TOKENS of a BOOK";
        for (char b = 0; b < 256; b++) {
            String text = "ann" + b + "drops;";
            if (b == ' ' || b == '\n') {
                book(why, NONE, text);
            } else {
                noBook(why, 1, isLetter(b) || isDigit(b) ? 0 : 3, text);
            }
        }
    }

    private static void everyByteInASentence() {
        String why = "TOKENS of a SENTENCE, SIGN: < = >";
        for (char b = 0; b < 256; b++) {
            String text = "buns" + b + "1";
            if (b == '<' || b == '=' || b == '>') {
                sentence(why, 1, text);
            } else if (b == ' ' || b == '\n') {
                noSentence(why, 1, 5, text);
            } else {
                noSentence(why, 1, isLetter(b) || isDigit(b) ? 0 : 4, text);
            }
        }
    }

    private static void wordsOfSevenLetters() {
        String why = "WORDS: small letters, 1 to 7";
        for (int n = 1; n <= 20; n++) {
            String name = "z".repeat(n);
            if (n <= 7) {
                town(why, 2, "corner " + name + ";person a " + name + " 0;");
            } else {
                noTown(why, 1, "corner ^" + name + ";");
                noBook(why, 1, "^" + name + " drops;");
                noSentence(why, 1, "at ^" + name);
            }
        }
        for (char c = 'a'; c <= 'z'; c++) {
            town(why, 1, "corner " + c + ";");
            town(why, 1, "corner " + c + "bcdef" + c + ";");
        }
        // Words that begin alike, or are one another's beginning, are not the same.
        town(why, 7, "corner a;corner aa;corner ab;corner aaa;corner aaaaaaa;corner aaaaaab;corner baaaaaa;");
    }

    private static void numbersOfThreeDigits() {
        String why = "NUMBERS: 1 to 3 digits";
        town(why, 2, "corner a;person p a 0;");
        town(why, 2, "corner a;person p a 00;");
        town(why, 2, "corner a;person p a 009;");
        noTown(why, 1, "corner a;person p a ^0009;");
        noTown(why, 1, "corner a;person p a ^9999;");
        noTown(why, 1, "corner a;person p a ^4294967296;");
        book(why, NONE, "minute 060;");
        noBook(why, 1, "minute ^0060;");
        book(why, NONE, "dan hires cid 005;");
        noBook(why, 1, "dan hires cid ^0005;");
        sentence(why, 1, "buns=000");
        noSentence(why, 1, "buns=^0000");
    }

    private static void tokensGoOn() {
        String why = "A WORD, NUMBER goes on as long as small letters and digits do";
        noTown(why, 1, "corner ^a1;");
        noTown(why, 1, "corner ^1a;");
        noTown(why, 1, "^cornera;");
        noTown(why, 1, "^corner1;");
        noTown(why, 1, "corner a;person p ^a0;");
        noTown(why, 1, "corner a;person p a ^0x;");
        noTown(why, 1, "corner a;^streeta b;");
        noBook(why, 1, "^minute1;");
        noBook(why, 1, "minute ^1a;");
        noSentence(why, 1, "^notidle");
        noSentence(why, 1, "idle ^andidle");
        noSentence(why, 1, "buns<^1or idle");
        noSentence(why, 1, "(idle)^orat a");
    }

    private static void blanks() {
        String why = "with blanks (32, 10) between them or not";
        town(why, 4, "corner a;corner b;street a b;person p a 0;");
        town(why, 4, "  corner\na ;\n\ncorner  b\n;street a\nb ; person p a 0 ; \n");
        book(why, NONE, "ann drops;minute 1;");
        book(why, NONE, "\nann\n drops ;minute\n1\n;\n ");
        sentence(why, 6, "not(idle)and(buns<1)or at a");
        sentence(why, 6, " not ( idle ) and\n(\nbuns < 1 ) or at\na\n");
    }

    private static void names() {
        String why = "NAME: a WORD, none of those told here, in a BOOK or a SENTENCE";
        for (String word : WORDS) {
            noTown(why, 1, "corner ^" + word + ";");
            noTown(why, 1, "corner a;person ^" + word + " a 0;");
            noTown(why, 1, "corner a;street ^" + word + " a;");
            noTown(why, 1, PAIR + "next ^" + word + " b;");
            noTown(why, 1, PAIR + "follows p ^" + word + " 1;");
            noBook(why, 1, "ann goes ^" + word + ";");
            noBook(why, 1, "ann hires ^" + word + " 1;");
            noSentence(why, 1, "at ^" + word);
            noSentence(why, 1, "after ^" + word);
            if (!word.equals("minute")) {
                noBook(why, 1, "^" + word + " drops;");
            }
            if (word.length() > 2) {
                town(why, 1, "corner " + word.substring(1) + ";");
            }
            if (word.length() < 7) {
                town(why, 1, "corner " + word + "z;");
            }
        }
        String[] others = {"town", "line", "stays", "says", "way", "bun", "hire", "leave", "drop", "send", "all", "one",
            "cond", "none", "name", "book", "ring", "row"};
        for (String word : others) {
            town("other WORDS are NAMES", 2, "corner a;person " + word + " a 0;");
        }
        noTown("told once", 3, "corner a;corner ^a;");
        noTown("told once, corner and person", 3, "corner a;person ^a a 0;");
        noTown("told once, person and corner", 3, "corner a;person p a 0;corner ^p;");
        noTown("told once, two persons", 3, "corner a;person p a 0;person ^p a 0;");
    }

    private static String padded(String text, int bytes) {
        return " ".repeat(bytes - text.length()) + text;
    }

    /** Blanks between two pieces, so that the second one begins at a place. */
    private static String at(String first, int place, String second) {
        return first + " ".repeat(place - first.length()) + second;
    }

    private static void bytesOfATown() {
        String why = "A TOWN is a text of at most 900 bytes";
        town(why, 2, padded("corner a;person p a 0;", 899));
        town(why, 2, padded("corner a;person p a 0;", 900));
        town(why, 1, at("corner a;", 900, ""));
        noTown(why, 1, 900, at("corner a;", 901, ""));
        noTown(why, 1, 900, at("corner a;", 940, ""));
        noTown(why, 1, 900, padded("corner a;", 901));
        noTown(why, 1, 900, " ".repeat(901));
        noTown("if no FAULT is ahead", 3, at("corner a;corner ^a;", 930, "corner b;"));
        noTown("if no FAULT is ahead: the last ahead", 1, 899, at("corner a;", 899, "; "));
        String read = "TOKENS that begin ahead of it are read whole";
        String two = "corner a;corner zz;corner b;";
        noTown(read + ": told, and its beginning is not", 1, 900, at(two + "street a", 899, "zz;"));
        noTown(read + ": not told, and its beginning is", 3, 899, at(two + "street a", 899, "bb;"));
        noTown(read + ": too great", 2, 899, at(two + "person p a", 899, "10;"));
        noTown(read + ": eight letters", 1, 893, at(two + "corner", 893, "abcdefgh;"));
        noTown(read + ": seven letters", 1, 900, at(two + "corner", 893, "abcdefg;"));
        noTown(read + ": seven letters beyond it", 1, 900, at(two + "corner", 895, "abcdefg;"));
        noTown("what begins there is not read", 1, 900, at(two + "street a", 900, "bb;"));
        noTown("what begins there is not read", 1, 900, at(two + "street a", 900, "b;"));
        noTown("what begins behind it is not read", 1, 900, at(two + "street a", 901, "bb;"));
    }

    private static void bytesOfABook() {
        String why = "A BOOK is a text of at most 400 bytes";
        book(why, NONE, padded("ann drops;", 399));
        book(why, NONE, padded("ann drops;", 400));
        book(why, NONE, at("ann drops;", 400, ""));
        book(why, NONE, " ".repeat(400));
        noBook(why, 1, 400, at("ann drops;", 401, ""));
        noBook(why, 1, 400, padded("ann drops;", 401));
        noBook(why, 1, 400, " ".repeat(401));
        noBook(why, 1, 400, " ".repeat(940));
        noBook("if no FAULT is ahead", 3, at("ann drops;^zed drops;", 430, "ann drops;"));
        noBook("TOKENS that begin ahead are read whole", 1, 400, at("", 399, "ann drops;"));
        noBook("TOKENS that begin ahead are read whole", 3, 399, at("", 399, "an drops;"));
        noBook("TOKENS that begin ahead are read whole", 2, 399, at("minute", 399, "61;"));
        noBook("TOKENS that begin ahead are read whole", 1, 400, at("minute", 399, "60;"));
        noBook("what begins there is not read", 1, 400, at("", 400, "zed drops;"));
        noBook("what begins there is not read", 1, 400, at("minute", 400, "61;"));
    }

    private static void bytesOfASentence() {
        String why = "A SENTENCE is a text of at most 200 bytes";
        sentence(why, 1, padded("idle", 199));
        sentence(why, 1, padded("idle", 200));
        sentence(why, 1, at("idle", 200, ""));
        noSentence(why, 1, 200, at("idle", 201, ""));
        noSentence(why, 1, 200, padded("idle or idle", 201));
        noSentence(why, 1, 200, " ".repeat(201));
        noSentence(why, 1, 200, at("(idle", 201, ""));
        noSentence("if no FAULT is ahead", 3, at("at ^zed", 230, "or idle"));
        noSentence("TOKENS that begin ahead are read whole", 1, 200, at("at a or at", 199, "a "));
        noSentence("TOKENS that begin ahead are read whole", 3, 199, at("at a or at", 199, "aa"));
        noSentence("TOKENS that begin ahead are read whole", 1, 200, at("after", 199, "ann"));
        noSentence("what begins there is not read", 1, 200, at("at", 200, "zed"));
        noSentence("what begins there is not read", 1, 200, at("idle or", 200, "idle"));
    }

    private static String corners(int n) {
        StringBuilder text = new StringBuilder();
        for (int k = 0; k < n; k++) {
            text.append("corner ").append((char) ('a' + k)).append(';');
        }
        return text.toString();
    }

    private static String streets(int n) {
        StringBuilder text = new StringBuilder(corners(8));
        int told = 0;
        for (char c = 'a'; c <= 'h'; c++) {
            for (char d = 'a'; d < c && told < n; d++) {
                text.append("street ").append(c).append(' ').append(d).append(';');
                told++;
            }
        }
        return text.toString();
    }

    private static String persons(int n) {
        StringBuilder text = new StringBuilder("corner a;corner b;street a b;");
        for (int k = 0; k < n; k++) {
            text.append("person ").append((char) ('p' + k)).append(" a ").append(k).append(';');
        }
        return text.toString();
    }

    private static void cornersOfATown() {
        town("8 CORNERS at most: none", 0, "");
        town("8 CORNERS at most", 7, corners(7));
        town("8 CORNERS at most", 8, corners(8));
        noTown("one more than there may be of a sort", 4, corners(8) + "^corner i;");
        noTown("4 at its first WORD, whatever comes", 4, corners(8) + " ^corner");
        noTown("4 at its first WORD, ahead of a name told twice", 4, corners(8) + "^corner a;");
        town("8 CORNERS, and other LINES", 10, corners(8) + "street a h;person p h 9;");
    }

    private static void streetsOfATown() {
        town("14 STREETS at most: none", 8, streets(0));
        town("14 STREETS at most", 21, streets(13));
        town("14 STREETS at most", 22, streets(14));
        noTown("one more than there may be of a sort", 4, streets(14) + "^street h a;");
        noTown("4 at its first WORD, ahead of two alike", 4, streets(14) + "^street a a;");
        noTown("unlike", 3, "corner a;corner b;street a ^a;");
        noTown("each two once", 3, "corner a;corner b;street a b;street a ^b;");
        noTown("in whatever order", 3, "corner a;corner b;street a b;street b ^a;");
        town("each two once, three times two", 6, "corner a;corner b;corner c;street a b;street c b;street a c;");
        ProperFollow x = Checks.townOf("corner a;corner b;corner c;street b a;");
        Checks.due("they are BESIDE one another, a", x.corner(0, 0), 2);
        Checks.due("they are BESIDE one another, b", x.corner(1, 0), 1);
        Checks.due("they are BESIDE one another, c not", x.corner(2, 0), 0);
    }

    private static void personsOfATown() {
        town("6 PERSONS at most", 8, persons(5));
        town("6 PERSONS at most", 9, persons(6));
        noTown("one more than there may be of a sort", 4, persons(6) + "^person v a 0;");
        noTown("4 at its first WORD, ahead of a name told twice", 4, persons(6) + "^person p a 0;");
        for (int buns = 0; buns <= 9; buns++) {
            ProperFollow x = Checks.townOf("corner a;person p a " + buns + ";");
            Checks.due("BUNS (0 to 9)", x.person(0, 1), buns);
        }
        noTown("BUNS (0 to 9)", 2, "corner a;person p a ^10;");
        noTown("BUNS (0 to 9)", 2, "corner a;person p a ^010;");
        noTown("BUNS (0 to 9)", 2, "corner a;person p a ^999;");
        noTown("BUNS are told", 1, "corner a;person p a^;");
        noTown("where he is: not told yet", 3, "person p ^a 0;corner a;");
    }

    private static String next(String who, int n) {
        StringBuilder text = new StringBuilder();
        for (int k = 0; k < n; k++) {
            text.append("next ").append(who).append(k % 2 == 0 ? " b;" : " a;");
        }
        return text.toString();
    }

    private static void nextOfATown() {
        town("8 'next' of each at most", 12, persons(2) + next("p", 7));
        town("8 'next' of each at most", 13, persons(2) + next("p", 8));
        town("8 'next' of each", 21, persons(2) + next("p", 8) + next("q", 8));
        noTown("one more (a 'next': at the PERSON)", 4, persons(2) + next("p", 8) + "next ^p b;");
        noTown("4 at the PERSON, ahead of what is not BESIDE", 4, persons(2) + next("p", 8) + "next ^p a;");
        noTown("4 of the second, too", 4, persons(2) + next("p", 8) + next("q", 8) + "next ^q b;");
        noTown("4 of one, not of another", 3, persons(2) + next("p", 8) + "next q ^a;");
        noTown("beside where he is, if it has none yet: himself", 3, persons(1) + "next p ^a;");
        noTown("beside where he is, if it has none yet: no street", 3,
                "corner a;corner b;person p a 0;next p ^b;street a b;");
        noTown("BESIDE the last of it", 3, corners(3) + "street a b;street a c;person p a 0;next p b;next p ^c;");
        town("BESIDE the last of it", 8, corners(3) + "street a b;street b c;person p a 0;next p b;next p c;");
        noTown("not the last itself", 3, persons(1) + "next p b;next p ^b;");
        noTown("who follows has no WAY", 3, persons(2) + "follows p q 1;next ^p b;");
        noTown("who follows has no WAY: at him, ahead of the CORNER", 3, persons(2) + "follows p q 1;next ^p zed;");
        town("who is followed may have one", 7, persons(2) + "follows p q 1;next q b;");
        ProperFollow x = Checks.townOf(persons(1) + next("p", 8));
        Checks.due("all eight are his WAY", x.person(0, 4), 8);
        Checks.due("he goes them", x.minutes(9), 9);
        Checks.due("eight PRINTS", x.now(5), 8);
    }

    private static void followsOfATown() {
        for (int n = 1; n <= 5; n++) {
            ProperFollow x = Checks.townOf(PAIR + "follows p q " + n + ";");
            Checks.due("1 to 5 MINUTES", x.person(0, 3), n);
            Checks.due("whom he follows", x.person(0, 2), 1);
        }
        noTown("1 to 5 MINUTES", 2, PAIR + "follows p q ^0;");
        noTown("1 to 5 MINUTES", 2, PAIR + "follows p q ^6;");
        noTown("1 to 5 MINUTES", 2, PAIR + "follows p q ^999;");
        noTown("N is told", 1, PAIR + "follows p q^;");
        noTown("unlike", 3, PAIR + "follows p ^p 1;");
        noTown("once for each", 3, PAIR + "follows p q 1;follows ^p q 1;");
        noTown("once for each, ahead of the second one", 3, PAIR + "follows p q 1;follows ^p p 9;");
        noTown("of whom no 'next' was told", 3, PAIR + "next p b;follows ^p q 1;");
        town("each may be followed, by many", 9, persons(4) + "follows p q 1;follows r q 5;");
        town("one another", 7, PAIR + "follows p q 5;follows q p 5;");
        noTown("not told yet", 3, "corner a;person p a 0;follows p ^q 1;person q a 0;");
    }

    private static void numberedFromZero() {
        String why = "CORNERS, PERSONS numbered from 0 each";
        ProperFollow x = Checks.townOf("corner b;person q b 1;corner a;person p a 2;person r b 3;");
        Checks.due(why + ": q at b", x.person(0, 0), 0);
        Checks.due(why + ": p at a", x.person(1, 0), 1);
        Checks.due(why + ": r at b", x.person(2, 0), 0);
        Checks.due(why + ": at a", x.corner(1, 1), 2);
    }

    private static void linesOfABook() {
        String one = "ann goes a;";
        book("{ LINE ; }: none", NONE, "");
        book("40 at most", NONE, "bob leaves;dan hires bob 1;".repeat(14) + "minute 2;");
        book("40 at most", NONE, "minute 1;".repeat(39));
        book("40 at most", NONE, "minute 1;".repeat(40));
        noBook("a 41st LINE (at the LINE's first WORD)", 4, "minute 1;".repeat(40) + "^minute 1;");
        noBook("a 41st LINE (at the LINE's first WORD)", 4, "minute 1;".repeat(40) + " ^ann zed");
        noBook("a 41st LINE, a NAME not told is less", 3, "minute 1;".repeat(40) + "^zed drops;");
        noBook("a 41st LINE, what can't come is less", 1, "minute 1;".repeat(40) + "^goes a;");
        noBook("the end of each LINE", 1, one + one + "minute 1^");
        noBook("an empty LINE", 1, one + "^;");
    }

    private static void hiringInABook() {
        for (int n = 1; n <= 5; n++) {
            ProperFollow x = Checks.townOf(SQUARE);
            Checks.due("hires by 1 to 5", Checks.book(x, "dan hires cid " + n + ";", 1), NONE);
            Checks.due("that one follows him", x.person(2, 2), 3);
            Checks.due("by so many", x.person(2, 3), n);
        }
        noBook("1 to 5", 2, "dan hires cid ^0;");
        noBook("1 to 5", 2, "dan hires cid ^6;");
        noBook("two alike (at the second; of 'hires', too)", 3, "dan hires ^dan 9;");
        noBook("not told", 3, "dan hires ^zed 9;");
        noBook("of another sort", 3, "dan hires ^a 9;");
    }

    private static void minutesOfABook() {
        for (int n = 1; n <= 60; n++) {
            ProperFollow x = Checks.townOf(SQUARE);
            Checks.due("'minute' N (1 to 60)", Checks.book(x, "minute " + n + ";", 1), NONE);
            Checks.due("so many", x.now(0), n);
        }
        noBook("'minute' N (1 to 60)", 2, "minute ^0;");
        noBook("'minute' N (1 to 60)", 2, "minute ^61;");
        noBook("'minute' N (1 to 60)", 2, "minute ^999;");
    }

    private static void onesOfASentence() {
        sentence("20 ONES", 1, "idle");
        sentence("20 ONES", 19, "idle or ".repeat(18) + "idle");
        sentence("20 ONES", 20, "idle or ".repeat(19) + "idle");
        noSentence("a 21st ONE (at its first TOKEN)", 4, "idle or ".repeat(20) + "^idle");
        noSentence("a 21st ONE: a 'not'", 4, "idle or ".repeat(20) + "^not idle");
        noSentence("a 21st ONE: a bracket", 4, "idle or ".repeat(20) + "^(idle)");
        noSentence("each not counts", 4, "idle or ".repeat(19) + "not ^idle");
        noSentence("each bracket counts", 4, "idle or ".repeat(19) + "(^idle)");
        noSentence("a 21st ONE, ahead of a NAME not told", 4, "idle or ".repeat(20) + "^at zed");
        noSentence("a 21st, what can't come is less", 1, "idle or ".repeat(20) + "^or");
        noSentence("a 21st, the end is less", 1, "idle or ".repeat(20) + "^");
        sentence("each not, bracket and other one", 20, "not(idle)or ".repeat(6) + "not idle");
        sentence("brackets of many", 20, "(" + "idle and ".repeat(18) + "idle)");
        noSentence("brackets of many", 4, "(" + "idle and ".repeat(19) + "^idle)");
    }

    private static void withinOneAnother() {
        sentence("8 within one another", 7, "not ".repeat(6) + "idle");
        sentence("8 within one another", 8, "not ".repeat(7) + "idle");
        noSentence("a ninth within (at its first TOKEN)", 4, "not ".repeat(8) + "^idle");
        noSentence("a ninth within: a 'not'", 4, "not ".repeat(8) + "^not idle");
        sentence("8 within one another, brackets", 8, "(".repeat(7) + "idle" + ")".repeat(7));
        noSentence("a ninth within, brackets", 4, "(".repeat(8) + "^idle" + ")".repeat(8));
        noSentence("a ninth within: a bracket", 4, "(".repeat(8) + "^(idle");
        sentence("8 within, of both sorts", 8, "not(not(not(not idle)))");
        noSentence("a ninth within, of both sorts", 4, "not(not(not(not(^idle))))");
        sentence("beside one another, not within", 16, "not ".repeat(7) + "idle and " + "not ".repeat(7) + "idle");
        sentence("within a bracket beside one another", 14, "((((((not idle or not idle or not idle or idle and idle))))))");
        sentence("what is closed is within no more", 14, "((((((idle)))))) or ((((((idle))))))");
        noSentence("the second of two, too", 4, "((((((idle)))))) or ((((((((^idle))))))))");
        noSentence("a ninth within that can't come is less", 1, "not ".repeat(8) + "^a");
        noSentence("a ninth within that is the end is less", 1, "not ".repeat(8) + "^");
    }

    private static void numbersOfASentence() {
        String[] words = {"buns", "left", "behind", "number"};
        for (String word : words) {
            sentence("SIGN NUMBER", 1, word + "<0");
            sentence("SIGN NUMBER", 1, word + "=999");
            sentence("SIGN NUMBER", 1, word + ">999");
            noSentence("SIGN NUMBER", 1, word + ">^1000");
            noSentence("SIGN NUMBER", 1, word + ">^a");
            noSentence("SIGN NUMBER", 1, word + "^(1");
            noSentence("SIGN NUMBER", 1, word + " ^1");
            noSentence("one SIGN alone", 1, word + "<^=1");
        }
    }

    /** The ends of all tokens of a text that has single blanks, signs and words alone. */
    private static List<Integer> tokenEnds(String text) {
        List<Integer> ends = new ArrayList<>();
        for (int i = 1; i <= text.length(); i++) {
            char last = text.charAt(i - 1);
            boolean sign = !isLetter(last) && !isDigit(last);
            boolean runsOn = i < text.length() && (isLetter(text.charAt(i)) || isDigit(text.charAt(i)));
            if (last != ' ' && (sign || !runsOn)) {
                ends.add(i);
            }
        }
        return ends;
    }

    private static void theEndOfATown() {
        String why = "1 one that can't come (the end: how many bytes there are)";
        int lines = 0;
        for (int end : tokenEnds(SQUARE)) {
            String text = SQUARE.substring(0, end);
            if (text.endsWith(";")) {
                lines++;
                town(why, lines, text);
                town(why, lines, text + " \n");
            } else {
                noTown(why, 1, end, text);
                noTown(why, 1, end + 2, text + "\n ");
            }
        }
    }

    private static void theEndOfABook() {
        String why = "1 the end of a BOOK";
        String all = "ann goes a;bob leaves;dan hires bob 3;ann drops;minute 9;";
        for (int end : tokenEnds(all)) {
            String text = all.substring(0, end);
            if (text.endsWith(";")) {
                book(why, NONE, text);
                book(why, NONE, text + "\n");
            } else {
                noBook(why, 1, end, text);
                noBook(why, 1, end + 3, text + "   ");
            }
        }
    }

    private static void theEndOfASentence() {
        String why = "1 the end of a SENTENCE";
        noSentence(why, 1, "^");
        noSentence(why, 1, " \n^");
        String open = "(not ( alone or after ann and at a or buns < 1 or left = 2 and behind > 0 or number = 0";
        for (int end : tokenEnds(open)) {
            noSentence(why, 1, end, open.substring(0, end));
            noSentence(why, 1, end + 1, open.substring(0, end) + " ");
        }
        noSentence(why, 1, open + ")^");
        sentence(why, 10, open + "))");
        noSentence("one bracket too many", 1, open + "))^)");
        String flat = "idle or not at a and ringed";
        int[] ones = {1, 0, 0, 0, 3, 0, 4};
        List<Integer> ends = tokenEnds(flat);
        for (int k = 0; k < ends.size(); k++) {
            String text = flat.substring(0, ends.get(k));
            if (ones[k] == 0) {
                noSentence(why, 1, ends.get(k), text);
            } else {
                sentence(why, ones[k], text);
            }
        }
    }

    private static void theFirstAlongTheText() {
        String why = "FAULTS, the first along the text";
        noTown(why, 3, "corner a;corner ^a;corner A;");
        noTown(why, 1, "corner a;corner ^A;corner a;");
        noTown(why, 2, "corner a;person p a ^10;corner a;");
        noTown(why, 3, "corner a;person ^a zed 10;");
        noTown(why, 3, "corner a;person p ^zed 10;");
        noTown(why, 3, "corner a;corner ^a b;");
        noTown(why, 1, "corner a ^b;corner a;");
        noTown(why, 4, corners(8) + "^corner A");
        noBook(why, 3, "^zed hires zed 9;");
        noBook(why, 3, "ann hires ^ann 9;");
        noBook(why, 2, "ann hires bob ^9 9;");
        noBook(why, 2, "minute ^61;zed drops;");
        noSentence(why, 3, "at ^zed zed");
        noSentence(why, 1, "idle ^at zed");
    }

    private static void ofOneTokenTheLeast() {
        String why = "of one TOKEN the least";
        noBook(why + ": 1 and 4", 1, "minute 1;".repeat(40) + "^A");
        noBook(why + ": 3 and 4", 3, "minute 1;".repeat(40) + "^a drops;");
        noSentence(why + ": 1 and 4", 1, "idle or ".repeat(20) + "^)");
        noSentence(why + ": 1 and 4, within", 1, "(".repeat(8) + "^)");
        noTown(why + ": two of 3", 3, "corner a;street a ^a;");
    }

    private static void kindOne() {
        String why = "1 no TOKEN, or one that can't come (at it)";
        noTown(why, 1, "^;");
        noTown(why, 1, "^a;");
        noTown(why, 1, "^1;");
        noTown(why, 1, "^goes a;");
        noTown(why, 1, "corner a;^;");
        noTown(why, 1, "corner ^1;");
        noTown(why, 1, "corner ^;");
        noTown(why, 1, "corner a^(;");
        noTown(why, 1, "corner a;person p a ^b;");
        noTown(why, 1, "corner a;person p ^1 0;");
        noTown(why, 1, "corner a;corner b;street a b ^c;");
        noTown(why, 1, PAIR + "follows p q ^q;");
        noTown(why, 1, PAIR + "next p b ^1;");
        noBook(why, 1, "ann ^ann;");
        noBook(why, 1, "ann ^at a;");
        noBook(why, 1, "ann ^minute 1;");
        noBook(why, 1, "ann drops ^1;");
        noBook(why, 1, "ann leaves ^bob;");
        noBook(why, 1, "ann goes ^1;");
        noBook(why, 1, "minute ^ann;");
        noBook(why, 1, "^1 drops;");
        noSentence(why, 1, "^ann");
        noSentence(why, 1, "^1");
        noSentence(why, 1, "^goes");
        noSentence(why, 1, "^or idle");
        noSentence(why, 1, "(^)");
        noSentence(why, 1, "idle^;");
        noSentence(why, 1, "idle ^not idle");
        noSentence(why, 1, "idle^(idle)");
        noSentence(why, 1, "idle and ^or idle");
        noSentence(why, 1, "at ^1");
    }

    private static void kindThree() {
        String why = "3 a NAME not told, or of another sort";
        noTown(why, 3, "corner a;street ^b a;");
        noTown(why, 3, "corner a;street a ^b;");
        noTown(why, 3, PAIR + "street ^p a;");
        noTown(why, 3, PAIR + "street a ^p;");
        noTown(why, 3, PAIR + "person r ^p 0;");
        noTown(why, 3, "corner a;person r ^r 0;");
        noTown(why, 3, PAIR + "next ^a b;");
        noTown(why, 3, PAIR + "next ^zed b;");
        noTown(why, 3, PAIR + "next p ^q;");
        noTown(why, 3, PAIR + "next p ^zed;");
        noTown(why, 3, PAIR + "follows ^a q 1;");
        noTown(why, 3, PAIR + "follows ^zed q 1;");
        noTown(why, 3, PAIR + "follows p ^a 1;");
        noTown(why, 3, PAIR + "follows p ^zed 1;");
        noBook(why, 3, "^a drops;");
        noBook(why, 3, "^zed goes a;");
        noBook(why, 3, "ann goes ^bob;");
        noBook(why, 3, "ann goes ^zed;");
        noSentence(why, 3, "at ^ann");
        noSentence(why, 3, "at ^zed");
        noSentence(why, 3, "after ^a");
        noSentence(why, 3, "after ^zed");
        noTown("names of the town that was are told no more", 3, "street ^z z;");
    }
}

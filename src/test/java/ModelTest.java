import java.util.ArrayDeque;
import java.util.ArrayList;
import java.util.Arrays;
import java.util.HashMap;
import java.util.HashSet;
import java.util.LinkedList;
import java.util.List;
import java.util.Map;
import java.util.Random;
import java.util.Set;
import java.util.function.IntPredicate;
import java.util.regex.Matcher;
import java.util.regex.Pattern;

/**
 * Long random runs of calls, each answer compared with that of a second reading of the document: a model that
 * looks through all cases where the program reckons, and keeps whole copies where the program keeps rows.
 */
public final class ModelTest {
    private static final int NONE = -1;
    private static final Random RANDOM = new Random(20261118);
    private static final Set<String> TOLD = new HashSet<>(Arrays.asList("corner", "street", "person", "next", "follows",
            "goes", "drops", "leaves", "hires", "minute", "or", "and", "not", "alone", "ringed", "idle", "at", "after",
            "buns", "left", "behind", "number"));

    /** A fault of a text. */
    private static final class Fault extends Exception {
        final int kind;
        final int place;

        Fault(int kind, int place) {
            this.kind = kind;
            this.place = place;
        }
    }

    /** A token: w word, n number, e the end, x none, or the sign itself. */
    private static final class Token {
        final char kind;
        final String text;
        final int place;

        Token(char kind, String text, int place) {
            this.kind = kind;
            this.text = text;
            this.place = place;
        }
    }

    private static final class Tokens {
        final List<Token> all = new ArrayList<>();
        int at = 0;

        Tokens(String text, int most) {
            Matcher m = Pattern.compile("[a-z0-9]+|[^ \n]", Pattern.DOTALL).matcher(text);
            while (m.find() && m.start() < most) {
                String s = m.group();
                char kind = 'x';
                if (s.matches("[a-z]{1,7}")) {
                    kind = 'w';
                } else if (s.matches("[0-9]{1,3}")) {
                    kind = 'n';
                } else if (s.matches("[;<=>()]")) {
                    kind = s.charAt(0);
                }
                all.add(new Token(kind, s, m.start()));
            }
            all.add(text.length() > most ? new Token('x', "", most) : new Token('e', "", text.length()));
        }

        Token look() {
            return all.get(at);
        }

        boolean is(String word) {
            return look().kind == 'w' && look().text.equals(word);
        }

        Token take(char kind) throws Fault {
            Token t = look();
            if (t.kind != kind) {
                throw new Fault(1, t.place);
            }
            at++;
            return t;
        }

        void takeWord(String word) throws Fault {
            if (!is(word)) {
                throw new Fault(1, look().place);
            }
            at++;
        }

        Token takeName() throws Fault {
            Token t = look();
            if (t.kind != 'w' || TOLD.contains(t.text)) {
                throw new Fault(1, t.place);
            }
            at++;
            return t;
        }

        int takeOf(List<String> names) throws Fault {
            Token t = takeName();
            if (!names.contains(t.text)) {
                throw new Fault(3, t.place);
            }
            return names.indexOf(t.text);
        }

        int takeNumber(int low, int high) throws Fault {
            Token t = take('n');
            int n = Integer.parseInt(t.text);
            if (n < low || n > high) {
                throw new Fault(2, t.place);
            }
            return n;
        }
    }

    private static final class Person {
        int follows = NONE;
        int by = NONE;
        int buns;
        LinkedList<Integer> way = new LinkedList<>();
        /** Where he was, minute by minute, the latest at the end. */
        List<Integer> places = new ArrayList<>();

        Person copy() {
            Person q = new Person();
            q.follows = follows;
            q.by = by;
            q.buns = buns;
            q.way = new LinkedList<>(way);
            q.places = new ArrayList<>(places);
            return q;
        }

        int ago(int k) {
            return places.get(Math.max(0, places.size() - 1 - k));
        }
    }

    private static final class Town {
        List<String> corners = new ArrayList<>();
        List<String> persons = new ArrayList<>();
        List<int[]> streets = new ArrayList<>();
        List<Person> all = new ArrayList<>();
        int[] lying = new int[8];
        int[] prints = new int[8];
        int minute;
        int found;
        int lines;

        Town copy() {
            Town t = new Town();
            t.corners = corners;
            t.persons = persons;
            t.streets = streets;
            for (Person p : all) {
                t.all.add(p.copy());
            }
            t.lying = lying.clone();
            t.prints = prints.clone();
            t.minute = minute;
            t.found = found;
            return t;
        }

        boolean beside(int c, int d) {
            for (int[] s : streets) {
                if (s[0] == c && s[1] == d || s[0] == d && s[1] == c) {
                    return true;
                }
            }
            return false;
        }

        boolean hasPerson(int p) {
            return p >= 0 && p < persons.size();
        }

        boolean hasCorner(int c) {
            return c >= 0 && c < corners.size();
        }

        /** The row of corners behind c up to d; null: there is none. */
        List<Integer> row(int c, int d) {
            ArrayDeque<List<Integer>> rows = new ArrayDeque<>();
            Set<Integer> seen = new HashSet<>();
            rows.add(List.of(c));
            seen.add(c);
            while (!rows.isEmpty()) {
                List<Integer> row = rows.remove();
                int last = row.get(row.size() - 1);
                if (last == d) {
                    return row.subList(1, row.size());
                }
                for (int e = 0; e < corners.size(); e++) {
                    if (beside(last, e) && seen.add(e)) {
                        List<Integer> longer = new ArrayList<>(row);
                        longer.add(e);
                        rows.add(longer);
                    }
                }
            }
            return null;
        }

        int send(int p, int c) {
            Person x = all.get(p);
            if (x.follows != NONE) {
                return 1;
            }
            if (x.way.size() == 8) {
                return 2;
            }
            if (!beside(x.way.isEmpty() ? x.ago(0) : x.way.getLast(), c)) {
                return 3;
            }
            x.way.add(c);
            return 0;
        }

        int drop(int p) {
            Person x = all.get(p);
            if (x.buns == 0) {
                return 1;
            }
            x.buns--;
            lying[x.ago(0)]++;
            return 0;
        }

        int leave(int p) {
            Person x = all.get(p);
            if (x.follows == NONE) {
                return 1;
            }
            x.follows = NONE;
            x.by = NONE;
            return 0;
        }

        int hire(int p, int q, int n) {
            Person y = all.get(q);
            if (y.follows != NONE) {
                return 1;
            }
            if (!y.way.isEmpty()) {
                return 2;
            }
            y.follows = p;
            y.by = n;
            return 0;
        }

        void pass() {
            int[] to = new int[all.size()];
            for (int p = 0; p < to.length; p++) {
                Person x = all.get(p);
                to[p] = x.ago(0);
                if (!x.way.isEmpty()) {
                    to[p] = x.way.removeFirst();
                } else if (x.follows != NONE) {
                    List<Integer> row = row(x.ago(0), all.get(x.follows).ago(x.by - 1));
                    if (row != null && !row.isEmpty()) {
                        to[p] = row.get(0);
                    }
                }
            }
            for (int p = 0; p < to.length; p++) {
                Person x = all.get(p);
                if (x.ago(0) != to[p]) {
                    prints[to[p]]++;
                }
                x.places.add(to[p]);
            }
            for (Person x : all) {
                if (x.follows != NONE && lying[x.ago(0)] > 0) {
                    lying[x.ago(0)]--;
                    x.buns++;
                    found++;
                }
            }
            minute++;
        }

        int passAll(int n) {
            int gone = 0;
            while (gone < n && minute < 400) {
                pass();
                gone++;
            }
            return gone;
        }

        int passDrawn(int n, int seed) {
            int[] x = {seed};
            int gone = 0;
            while (gone < n && minute < 400) {
                for (int p = 0; p < all.size(); p++) {
                    int act = draw(x, 8);
                    if (act == 0) {
                        int q = draw(x, all.size());
                        int by = draw(x, 5) + 1;
                        if (q != p) {
                            hire(p, q, by);
                        }
                    } else if (act == 1) {
                        leave(p);
                    } else if (act >= 2 && act <= 4) {
                        send(p, draw(x, corners.size()));
                    } else if (act == 5) {
                        drop(p);
                    }
                }
                pass();
                gone++;
            }
            return gone;
        }

        static int draw(int[] x, int n) {
            x[0] = x[0] * 1103515245 + 12345;
            return (x[0] >>> 8) % n;
        }

        int followers(int p) {
            int bits = 0;
            for (int q = 0; q < all.size(); q++) {
                if (all.get(q).follows == p) {
                    bits |= 1 << q;
                }
            }
            return bits;
        }

        List<Integer> rowOf(int p) {
            List<Integer> row = new ArrayList<>();
            for (int q = p; q != NONE && !row.contains(q); q = all.get(q).follows) {
                row.add(q);
            }
            return row;
        }

        int ring(int p) {
            List<Integer> row = rowOf(p);
            int bits = 0;
            for (int q : row) {
                bits |= 1 << q;
            }
            return all.get(row.get(row.size() - 1)).follows == p ? bits : 0;
        }

        Set<Integer> rings() {
            Set<Integer> rings = new HashSet<>();
            for (int p = 0; p < all.size(); p++) {
                if (ring(p) != 0) {
                    rings.add(ring(p));
                }
            }
            return rings;
        }

        int cut() {
            int best = NONE;
            for (int who = 0; who < 1 << all.size(); who++) {
                Town t = copy();
                for (int p = 0; p < all.size(); p++) {
                    if ((who >> p & 1) != 0) {
                        t.leave(p);
                    }
                }
                if (t.rings().isEmpty() && (best == NONE || Integer.bitCount(who) < Integer.bitCount(best))) {
                    best = who;
                }
            }
            return best;
        }

        int meet(int p, int q) {
            Town t = copy();
            for (int k = 0; k <= 99; k++) {
                if (t.all.get(p).ago(0) == t.all.get(q).ago(0)) {
                    return k;
                }
                t.pass();
            }
            return NONE;
        }

        int proper(int p, int q) {
            for (int n = 1; n <= 5; n++) {
                Town t = copy();
                Person x = t.all.get(p);
                x.way.clear();
                x.follows = q;
                x.by = n;
                boolean seen = false;
                for (int k = 1; k <= 20; k++) {
                    t.pass();
                    int c = x.ago(0);
                    int d = t.all.get(q).ago(0);
                    seen |= c == d || beside(c, d);
                }
                if (!seen) {
                    return n;
                }
            }
            return NONE;
        }

        boolean joined(int c, int d, int without) {
            Set<Integer> seen = new HashSet<>();
            ArrayDeque<Integer> open = new ArrayDeque<>(List.of(c));
            while (!open.isEmpty()) {
                int e = open.remove();
                if (seen.add(e)) {
                    for (int f = 0; f < corners.size(); f++) {
                        if (beside(e, f) && (without >> f & 1) == 0) {
                            open.add(f);
                        }
                    }
                }
            }
            return seen.contains(d);
        }

        int bar(int c, int d) {
            for (int fewest = 0; fewest <= 6; fewest++) {
                for (int set = 0; set < 256; set++) {
                    if (Integer.bitCount(set) == fewest && (set >> c & 1) == 0 && (set >> d & 1) == 0
                            && set < 1 << corners.size() && !joined(c, d, set)) {
                        return set;
                    }
                }
            }
            throw new IllegalStateException("beside");
        }

        /** Each choice is a row of hired persons, 6 for none; {-pairs, far, choice..}, the least is the one. */
        int[] hireAll() {
            List<int[]> choices = new ArrayList<>();
            choices.add(new int[] {6, 6, 6, 6, 6, 6});
            for (int p = 0; p < all.size(); p++) {
                for (int[] choice : new ArrayList<>(choices)) {
                    for (int q = 0; q < all.size() && !all.get(p).way.isEmpty(); q++) {
                        int[] other = choice.clone();
                        other[p] = q;
                        choices.add(other);
                    }
                }
            }
            int[] best = null;
            for (int[] choice : choices) {
                int[] told = judged(choice);
                if (told != null && (best == null || Arrays.compare(told, best) < 0)) {
                    best = told;
                }
            }
            return best;
        }

        private int[] judged(int[] choice) {
            int used = 0;
            int pairs = 0;
            int far = 0;
            for (int p = 0; p < all.size(); p++) {
                int q = choice[p];
                if (q == 6) {
                    continue;
                }
                Person y = all.get(q);
                boolean wanted = !all.get(p).way.isEmpty() && followers(p) == 0;
                boolean idle = y.follows == NONE && y.way.isEmpty();
                List<Integer> row = row(y.ago(0), all.get(p).ago(0));
                if (!wanted || !idle || row == null || (used >> q & 1) != 0) {
                    return null;
                }
                used |= 1 << q;
                pairs++;
                far += row.size();
            }
            int[] told = new int[8];
            told[0] = -pairs;
            told[1] = far;
            System.arraycopy(choice, 0, told, 2, 6);
            return told;
        }

        int allPrints() {
            return Arrays.stream(prints).sum();
        }

        String line(int p) {
            Person x = all.get(p);
            String s = persons.get(p) + " at " + corners.get(x.ago(0));
            if (x.follows != NONE) {
                return s + " after " + persons.get(x.follows);
            }
            return x.way.isEmpty() ? s + " stays" : s + " goes " + x.way.size();
        }

        static Town read(String text) throws Fault {
            Town t = new Town();
            Tokens in = new Tokens(text, 900);
            while (in.look().kind != 'e') {
                t.readLine(in);
                in.take(';');
                t.lines++;
            }
            return t;
        }

        private void readLine(Tokens in) throws Fault {
            int place = in.look().place;
            if (in.is("corner")) {
                limit(corners.size() == 8, place);
                in.at++;
                corners.add(newName(in));
            } else if (in.is("street")) {
                limit(streets.size() == 14, place);
                in.at++;
                int c = in.takeOf(corners);
                place = in.look().place;
                int d = in.takeOf(corners);
                bad(c == d || beside(c, d), place);
                streets.add(new int[] {c, d});
            } else if (in.is("person")) {
                limit(persons.size() == 6, place);
                in.at++;
                String name = newName(in);
                Person x = new Person();
                x.places.add(in.takeOf(corners));
                x.buns = in.takeNumber(0, 9);
                persons.add(name);
                all.add(x);
            } else if (in.is("next")) {
                in.at++;
                place = in.look().place;
                int p = in.takeOf(persons);
                bad(all.get(p).follows != NONE, place);
                limit(all.get(p).way.size() == 8, place);
                place = in.look().place;
                int c = in.takeOf(corners);
                bad(send(p, c) != 0, place);
            } else {
                in.takeWord("follows");
                place = in.look().place;
                int p = in.takeOf(persons);
                bad(all.get(p).follows != NONE || !all.get(p).way.isEmpty(), place);
                place = in.look().place;
                int q = in.takeOf(persons);
                bad(p == q, place);
                all.get(p).by = in.takeNumber(1, 5);
                all.get(p).follows = q;
            }
        }

        private String newName(Tokens in) throws Fault {
            Token t = in.takeName();
            bad(corners.contains(t.text) || persons.contains(t.text), t.place);
            return t.text;
        }
    }

    private static void bad(boolean so, int place) throws Fault {
        if (so) {
            throw new Fault(3, place);
        }
    }

    private static void limit(boolean so, int place) throws Fault {
        if (so) {
            throw new Fault(4, place);
        }
    }

    /** A sentence's reader and what it comes to: a question of a town, by the holder, and a person. */
    private static final class Said {
        Town now;
        int ones;
        IntPredicate holds;

        static Said read(String text, Town town) throws Fault {
            Said s = new Said();
            s.now = town;
            Tokens in = new Tokens(text, 200);
            s.holds = s.cond(in, 1);
            in.take('e');
            return s;
        }

        private IntPredicate cond(Tokens in, int depth) throws Fault {
            IntPredicate a = each(in, depth);
            while (in.is("or")) {
                in.at++;
                a = a.or(each(in, depth));
            }
            return a;
        }

        private IntPredicate each(Tokens in, int depth) throws Fault {
            IntPredicate a = one(in, depth);
            while (in.is("and")) {
                in.at++;
                a = a.and(one(in, depth));
            }
            return a;
        }

        private IntPredicate one(Tokens in, int depth) throws Fault {
            Token t = in.look();
            String words = " not alone ringed idle at after buns left behind number ";
            boolean known = t.kind == '(' || t.kind == 'w' && words.contains(" " + t.text + " ");
            if (!known) {
                throw new Fault(1, t.place);
            }
            ones++;
            limit(ones > 20 || depth > 8, t.place);
            in.at++;
            if (t.kind == '(') {
                IntPredicate a = cond(in, depth + 1);
                in.take(')');
                return a;
            }
            switch (t.text) {
                case "not": return one(in, depth + 1).negate();
                case "alone": return p -> now.followers(p) == 0;
                case "ringed": return p -> now.ring(p) != 0;
                case "idle": return p -> now.all.get(p).follows == NONE && now.all.get(p).way.isEmpty();
                case "at":
                    int c = in.takeOf(now.corners);
                    return p -> now.all.get(p).ago(0) == c;
                case "after":
                    int q = in.takeOf(now.persons);
                    return p -> now.all.get(p).follows == q;
                default:
                    return comparison(in, t.text);
            }
        }

        private IntPredicate comparison(Tokens in, String what) throws Fault {
            char sign = in.look().kind;
            if (sign != '<' && sign != '=' && sign != '>') {
                throw new Fault(1, in.look().place);
            }
            in.at++;
            int n = in.takeNumber(0, 999);
            return p -> {
                Person x = now.all.get(p);
                int v = what.equals("buns") ? x.buns : what.equals("left") ? x.way.size()
                        : what.equals("behind") ? Integer.bitCount(now.followers(p)) : p;
                return sign == '<' ? v < n : sign == '=' ? v == n : v > n;
            };
        }
    }

    /** A whole object by the second reading. */
    private static final class Model {
        String tape = "";
        Town town = new Town();
        Said said;
        ArrayList<Town> undo = new ArrayList<>();
        Town[] imageTowns = new Town[2];
        Said[] imageSaids = new Said[2];
        int fault;
        int cut = NONE;
        List<Integer> path;
        int bar = NONE;
        int[] hired;
        Town asked;
        int askedBits;
        String line = "";
        int[] told;

        String takeTape() {
            String text = tape;
            tape = "";
            return text;
        }

        void keep(Town before) {
            undo.add(before);
            if (undo.size() > 8) {
                undo.remove(0);
            }
        }

        int town() {
            String text = takeTape();
            try {
                town = Town.read(text);
                fault = 0;
                said = null;
                undo.clear();
                return town.lines;
            } catch (Fault f) {
                fault = f.kind;
                return -1 - f.place;
            }
        }

        int sentence() {
            String text = takeTape();
            try {
                said = Said.read(text, town);
                fault = 0;
                return said.ones;
            } catch (Fault f) {
                fault = f.kind;
                return -1 - f.place;
            }
        }

        List<Integer> saidOf() {
            List<Integer> who = new ArrayList<>();
            said.now = town;
            for (int p = 0; p < town.all.size(); p++) {
                if (said.holds.test(p)) {
                    who.add(p);
                }
            }
            return who;
        }

        int book(int lives) {
            if (lives != 0 && lives != 1) {
                return -1000;
            }
            String text = takeTape();
            List<int[]> lines;
            try {
                lines = readBook(text);
                fault = 0;
            } catch (Fault f) {
                fault = f.kind;
                return -2 - f.place;
            }
            Town t = town.copy();
            int why = 0;
            int k = 0;
            while (k < lines.size() && why == 0) {
                why = live(t, lines.get(k));
                k += why == 0 ? 1 : 0;
            }
            told = new int[] {why, k, t.minute, t.allPrints()};
            if (lives == 1 && k > 0) {
                keep(town);
                town = t;
            }
            return why == 0 ? NONE : k;
        }

        private static int live(Town t, int[] a) {
            int why;
            switch (a[0]) {
                case 'g': return t.send(a[1], a[2]);
                case 'd': why = t.drop(a[1]); return why == 0 ? 0 : 10 + why;
                case 'l': why = t.leave(a[1]); return why == 0 ? 0 : 20 + why;
                case 'h': why = t.hire(a[1], a[2], a[3]); return why == 0 ? 0 : 30 + why;
                default:
                    if (t.minute + a[1] > 400) {
                        return 41;
                    }
                    t.passAll(a[1]);
                    return 0;
            }
        }

        private List<int[]> readBook(String text) throws Fault {
            List<int[]> lines = new ArrayList<>();
            Tokens in = new Tokens(text, 400);
            while (in.look().kind != 'e') {
                int place = in.look().place;
                if (in.is("minute")) {
                    limit(lines.size() == 40, place);
                    in.at++;
                    lines.add(new int[] {'m', in.takeNumber(1, 60)});
                } else {
                    int p = in.takeOf(town.persons);
                    limit(lines.size() == 40, place);
                    String act = in.look().kind == 'w' ? in.look().text : "";
                    if (act.equals("goes")) {
                        in.at++;
                        lines.add(new int[] {'g', p, in.takeOf(town.corners)});
                    } else if (act.equals("drops") || act.equals("leaves")) {
                        in.at++;
                        lines.add(new int[] {act.charAt(0), p});
                    } else {
                        in.takeWord("hires");
                        place = in.look().place;
                        int q = in.takeOf(town.persons);
                        bad(p == q, place);
                        lines.add(new int[] {'h', p, q, in.takeNumber(1, 5)});
                    }
                }
                in.take(';');
            }
            return lines;
        }

        int fits() {
            String bytes = takeTape();
            if (bytes.length() < 1 || bytes.length() > 6) {
                return NONE;
            }
            for (char c : bytes.toCharArray()) {
                if (c != 255 && c >= town.corners.size()) {
                    return NONE;
                }
            }
            int bits = 0;
            for (int p = 0; p < town.all.size(); p++) {
                boolean so = true;
                for (int k = 0; k < bytes.length(); k++) {
                    so &= bytes.charAt(k) == 255 || bytes.charAt(k) == town.all.get(p).ago(k);
                }
                bits |= so ? 1 << p : 0;
            }
            if (bits > 0) {
                asked = town.copy();
                askedBits = bits;
            }
            return bits;
        }

        int ask() {
            if (asked == null) {
                return NONE;
            }
            int best = 0;
            int bestLeft = 99;
            for (int k = 0; k <= 5; k++) {
                Map<Integer, Integer> groups = new HashMap<>();
                int left = 0;
                for (int p = 0; p < asked.all.size(); p++) {
                    if ((askedBits >> p & 1) != 0) {
                        left = Math.max(left, groups.merge(asked.all.get(p).ago(k), 1, Integer::sum));
                    }
                }
                if (left < bestLeft) {
                    bestLeft = left;
                    best = k;
                }
            }
            return best;
        }
    }

    // ---- texts

    private static String pick(String... of) {
        return of[RANDOM.nextInt(of.length)];
    }

    /** The town whose names the texts use, but for a slip now and then. */
    private static Town around = new Town();

    private static String cornerName() {
        return nameOf(around.corners, "a", "b", "c", "d", "e", "f", "gg", "harbour");
    }

    private static String personName() {
        return nameOf(around.persons, "ann", "bob", "cid", "dan", "eve", "fay");
    }

    private static String nameOf(List<String> known, String... any) {
        return known.isEmpty() || RANDOM.nextInt(60) == 0 ? pick(any) : known.get(RANDOM.nextInt(known.size()));
    }

    private static String repeated(String piece, int times) {
        return piece.repeat(Math.max(0, times));
    }

    private static String townText() {
        StringBuilder s = new StringBuilder();
        int corners = 1 + RANDOM.nextInt(8);
        int persons = RANDOM.nextInt(7);
        String[] c = {"a", "b", "c", "d", "e", "f", "gg", "harbour"};
        String[] p = {"ann", "bob", "cid", "dan", "eve", "fay"};
        for (int i = 0; i < corners; i++) {
            s.append("corner ").append(c[i]).append(pick(";", " ;", ";\n"));
        }
        List<List<Integer>> beside = new ArrayList<>();
        for (int i = 0; i < 8; i++) {
            beside.add(new ArrayList<>());
        }
        int streets = RANDOM.nextInt(1 + corners * 3);
        for (int i = 0; i < streets; i++) {
            int x = RANDOM.nextInt(corners);
            int y = RANDOM.nextInt(corners);
            if (x != y && !beside.get(x).contains(y)) {
                beside.get(x).add(y);
                beside.get(y).add(x);
                s.append("street ").append(c[x]).append(' ').append(c[y]).append(';');
            }
        }
        for (int i = 0; i < persons; i++) {
            int at = RANDOM.nextInt(corners);
            s.append("person ").append(p[i]).append(' ').append(c[at]).append(' ').append(RANDOM.nextInt(10)).append(';');
            int steps = RANDOM.nextInt(3) == 0 ? RANDOM.nextInt(9) : 0;
            for (int k = 0; k < steps && !beside.get(at).isEmpty(); k++) {
                at = beside.get(at).get(RANDOM.nextInt(beside.get(at).size()));
                s.append("next ").append(p[i]).append(' ').append(c[at]).append(';');
            }
            if (steps == 0 && i > 0 && RANDOM.nextBoolean()) {
                s.append("follows ").append(p[i]).append(' ').append(p[RANDOM.nextInt(i)]).append(' ')
                        .append(1 + RANDOM.nextInt(5)).append(';');
            }
        }
        return s.toString();
    }

    private static String bookText() {
        StringBuilder s = new StringBuilder();
        if (RANDOM.nextInt(12) == 0) {
            return repeated("minute 1;", 39) + pick("", "minute 1;") + pick("", "zed", "minute 2", personName() + " drops;", ";", "goes");
        }
        int n = RANDOM.nextInt(4) == 0 ? RANDOM.nextInt(45) : RANDOM.nextInt(8);
        for (int i = 0; i < n; i++) {
            switch (RANDOM.nextInt(6)) {
                case 0: s.append(personName()).append(" drops;"); break;
                case 1: s.append(personName()).append(" leaves;"); break;
                case 2: s.append(personName()).append(" hires ").append(personName()).append(' ')
                        .append(RANDOM.nextInt(12) == 0 ? 6 : 1 + RANDOM.nextInt(5)).append(" ;"); break;
                case 3: s.append("minute ").append(RANDOM.nextInt(30) == 0 ? 61 : 1 + RANDOM.nextInt(9)).append(';'); break;
                default: s.append(personName()).append(" goes ").append(cornerName()).append(';'); break;
            }
        }
        return s.toString();
    }

    private static String sentenceText() {
        switch (RANDOM.nextInt(8)) {
            case 0: return repeated("not ", 6 + RANDOM.nextInt(4)) + pick("alone", "(idle)", ")", "zed", "not idle");
            case 1: return repeated("(", 6 + RANDOM.nextInt(4)) + one(9) + repeated(")", 6 + RANDOM.nextInt(4));
            case 2: return repeated(pick("idle or ", "idle and "), 17 + RANDOM.nextInt(4)) + pick("idle", "not idle", "(idle)", ")");
            default: return cond(1);
        }
    }

    private static String cond(int depth) {
        StringBuilder s = new StringBuilder(one(depth));
        for (int k = RANDOM.nextInt(3); k > 0; k--) {
            s.append(pick(" or ", " and ")).append(one(depth));
        }
        return s.toString();
    }

    private static String one(int depth) {
        int which = RANDOM.nextInt(depth > 10 ? 8 : 11);
        switch (which) {
            case 0: return "alone";
            case 1: return "ringed";
            case 2: return "idle";
            case 3: return "at " + cornerName();
            case 4: return "after " + personName();
            case 8: return "(" + cond(depth + 1) + ")";
            case 9:
            case 10: return "not " + one(depth + 1);
            default: return pick("buns", "left", "behind", "number") + pick("<", "=", ">", " > ") + RANDOM.nextInt(6);
        }
    }

    private static String spoilt(String text) {
        String[] wrong = {"corner", ";", "(", ")", "<", "9", "1000", "abcdefgh", "a1", "1a", "A", ".", "", " ", "ann", "a",
            "zed", "not", "goes", "minute", "minute 3;", "ann drops;", "and", "or", "next ann a;", "street a b;",
            "corner z;", "person z a 1;", "follows ann bob 1;", "\u00ff", "\u0000", "\t"};
        StringBuilder s = new StringBuilder(text);
        for (int k = 1 + RANDOM.nextInt(2); k > 0; k--) {
            int at = RANDOM.nextInt(s.length() + 1);
            int to = RANDOM.nextBoolean() ? at : Math.min(s.length(), at + RANDOM.nextInt(9));
            s.replace(at, to, wrong[RANDOM.nextInt(wrong.length)]);
        }
        return s.toString();
    }

    private static String blown(String text, int most) {
        StringBuilder s = new StringBuilder(text);
        int want = most - 2 + RANDOM.nextInt(12);
        while (s.length() < want) {
            int at = s.indexOf(";", RANDOM.nextInt(Math.max(1, s.length())));
            s.insert(at < 0 ? s.length() : at, RANDOM.nextInt(20) == 0 ? "\n" : " ");
            if (RANDOM.nextInt(40) == 0) {
                s.append(' ');
            }
        }
        return s.toString();
    }

    private static String made(String text, int most) {
        int luck = RANDOM.nextInt(12);
        String s = luck == 0 || luck == 1 ? spoilt(text) : luck == 2 ? blown(text, most) : text;
        return s.length() > 940 ? s.substring(0, 940) : s;
    }

    // ---- runs

    private static String name;
    /** So that some runs come to the last minute. */
    private static boolean hasty;

    private static void same(String call, long got, long want) {
        Checks.due(name + call, got, want);
    }

    private static void put(ProperFollow x, Model m, String text) {
        x.end(0);
        Checks.tape(x, text);
        m.tape = text;
    }

    private static int any(int n) {
        return RANDOM.nextInt(12) == 0 ? RANDOM.nextInt(n + 4) - 2 : RANDOM.nextInt(Math.max(1, n));
    }

    private static void look(ProperFollow x, Model m) {
        Town t = m.town;
        same("count(0)", x.count(0), t.corners.size());
        same("count(1)", x.count(1), t.streets.size());
        same("count(2)", x.count(2), t.persons.size());
        same("count(3)", x.count(3), m.tape.length());
        same("fault()", x.fault(), m.fault);
        int follows = 0;
        int ways = 0;
        int ringed = 0;
        for (int p = 0; p < t.all.size(); p++) {
            Person q = t.all.get(p);
            List<Integer> row = t.rowOf(p);
            int[] want = {q.ago(0), q.buns, q.follows, q.by, q.way.size(), t.followers(p), row.get(row.size() - 1)};
            for (int k = 0; k < 7; k++) {
                same("person(" + p + "," + k + ")", x.person(p, k), want[k]);
            }
            for (int k = 0; k < 6; k++) {
                same("was(" + p + "," + k + ")", x.was(p, k), q.ago(k));
            }
            same("ring(" + p + ")", x.ring(p), t.ring(p));
            follows |= q.follows != NONE ? 1 << p : 0;
            ways |= q.way.isEmpty() ? 0 : 1 << p;
            ringed |= t.ring(p);
        }
        for (int c = 0; c < t.corners.size(); c++) {
            int beside = 0;
            int there = 0;
            for (int d = 0; d < t.corners.size(); d++) {
                beside |= t.beside(c, d) ? 1 << d : 0;
            }
            for (int p = 0; p < t.all.size(); p++) {
                there |= t.all.get(p).ago(0) == c ? 1 << p : 0;
            }
            same("corner(" + c + ",0)", x.corner(c, 0), beside);
            same("corner(" + c + ",1)", x.corner(c, 1), there);
            same("corner(" + c + ",2)", x.corner(c, 2), t.lying[c]);
            same("corner(" + c + ",3)", x.corner(c, 3), t.prints[c]);
        }
        int[] now = {t.minute, follows, ways, ringed, t.rings().size(), t.allPrints(), t.found};
        for (int k = 0; k < 7; k++) {
            same("now(" + k + ")", x.now(k), now[k]);
        }
    }

    private static void act(ProperFollow x, Model m) {
        Town t = m.town;
        int persons = t.persons.size();
        int p = any(persons);
        int q = any(persons);
        int c = any(t.corners.size());
        int n = RANDOM.nextInt(10) == 0 ? any(62) : 1 + RANDOM.nextInt(hasty ? 60 : 6);
        int by = RANDOM.nextInt(7);
        Town before = t.copy();
        int want = NONE;
        int seed = RANDOM.nextInt();
        switch (RANDOM.nextInt(hasty ? 7 : 8)) {
            case 0:
            case 1:
                want = t.hasPerson(p) && t.hasCorner(c) ? t.send(p, c) : NONE;
                same("send(" + p + "," + c + ")", x.send(p, c), want);
                break;
            case 2:
                want = t.hasPerson(p) ? t.drop(p) : NONE;
                same("drop(" + p + ")", x.drop(p), want);
                break;
            case 3:
                want = t.hasPerson(p) ? t.leave(p) : NONE;
                same("leave(" + p + ")", x.leave(p), want);
                break;
            case 4:
                boolean may = t.hasPerson(p) && t.hasPerson(q) && p != q && by >= 1 && by <= 5;
                want = may ? t.hire(p, q, by) : NONE;
                same("hire(" + p + "," + q + "," + by + ")", x.hire(p, q, by), want);
                break;
            case 5:
                int gone = n >= 1 && n <= 60 ? t.passAll(n) : NONE;
                same("minutes(" + n + ")", x.minutes(n), gone);
                want = gone > 0 ? 0 : 1;
                break;
            case 6:
                int drawn = n >= 1 && n <= 60 ? t.passDrawn(n, seed) : NONE;
                same("drawn(" + n + "," + seed + ")", x.drawn(n, seed), drawn);
                want = drawn > 0 ? 0 : 1;
                break;
            default:
                int left = NONE;
                if (!m.undo.isEmpty()) {
                    m.town = m.undo.remove(m.undo.size() - 1);
                    left = m.undo.size();
                }
                same("undo()", x.undo(), left);
                want = 1;
                break;
        }
        if (want == 0) {
            m.keep(before);
        }
    }

    private static void text(ProperFollow x, Model m) {
        around = m.town;
        switch (hasty ? 1 + RANDOM.nextInt(8) : RANDOM.nextInt(9)) {
            case 0:
                put(x, m, made(townText(), 900));
                same("town() of '" + m.tape + "'", x.town(), m.town());
                break;
            case 1:
            case 2:
            case 3:
                int lives = any(2);
                put(x, m, made(bookText(), 400));
                same("book(" + lives + ") of '" + m.tape + "'", x.book(lives), m.book(lives));
                for (int k = -1; k < 5; k++) {
                    same("told(" + k + ")", x.told(k), m.told == null || k < 0 || k > 3 ? NONE : m.told[k]);
                }
                break;
            case 4:
                StringBuilder bytes = new StringBuilder();
                for (int k = any(8); k > 0; k--) {
                    bytes.append(RANDOM.nextInt(3) > 0 ? (char) 255 : (char) Math.abs(any(m.town.corners.size())));
                }
                put(x, m, bytes.toString());
                same("fits()", x.fits(), m.fits());
                break;
            default:
                put(x, m, made(sentenceText(), 200));
                same("sentence() of '" + m.tape + "'", x.sentence(), m.sentence());
                break;
        }
    }

    private static void ask(ProperFollow x, Model m) {
        Town t = m.town;
        int p = any(t.persons.size());
        int q = any(t.persons.size());
        int c = any(t.corners.size());
        int d = any(t.corners.size());
        boolean two = t.hasPerson(p) && t.hasPerson(q) && p != q;
        switch (RANDOM.nextInt(12)) {
            case 0:
                m.cut = t.cut();
                same("cut()", x.cut(), Integer.bitCount(m.cut));
                break;
            case 1:
                same("meet(" + p + "," + q + ")", x.meet(p, q), two ? t.meet(p, q) : NONE);
                break;
            case 2:
                same("proper(" + p + "," + q + ")", x.proper(p, q), two ? t.proper(p, q) : NONE);
                break;
            case 3:
                List<Integer> row = t.hasPerson(p) && t.hasCorner(c) ? t.row(t.all.get(p).ago(0), c) : null;
                m.path = row == null ? m.path : row;
                same("path(" + p + "," + c + ")", x.path(p, c), row == null ? NONE : row.size());
                break;
            case 4:
                boolean may = t.hasCorner(c) && t.hasCorner(d) && c != d && !t.beside(c, d);
                m.bar = may ? t.bar(c, d) : m.bar;
                same("bar(" + c + "," + d + ")", x.bar(c, d), may ? Integer.bitCount(m.bar) : NONE);
                break;
            case 5:
                if (t.all.stream().filter(y -> !y.way.isEmpty()).count() < 5) {
                    m.hired = t.hireAll();
                    same("hires()", x.hires(), -m.hired[0]);
                }
                break;
            case 6:
                if (t.hasPerson(p)) {
                    m.line = t.line(p);
                }
                same("line(" + p + ")", x.line(p), t.hasPerson(p) ? m.line.length() : NONE);
                break;
            case 7:
                int n = any(31);
                int seed = RANDOM.nextInt(5) == 0 ? Integer.MAX_VALUE : RANDOM.nextInt();
                int odds = 0;
                for (int k = 0; t.hasPerson(p) && k < n; k++) {
                    Town u = t.copy();
                    u.passDrawn(10, seed + k);
                    odds += u.followers(p) != 0 ? 1 : 0;
                }
                same("odds(" + p + "," + n + "," + seed + ")", x.odds(p, n, seed),
                        t.hasPerson(p) && n >= 1 && n <= 30 ? odds : NONE);
                break;
            case 8:
                image(x, m);
                break;
            case 9:
                mean(x, t);
                break;
            default:
                said(x, m);
                break;
        }
    }

    private static void mean(ProperFollow x, Town t) {
        int below = t.persons.size();
        Checks.due("mean(0) without persons", Checks.meanThrows(x, 0), below == 0);
        if (below > 0) {
            int above = t.allPrints();
            for (int k = 2; k <= 6; k++) {
                while (above % k == 0 && below % k == 0 && below > 1) {
                    above /= k;
                    below /= k;
                }
            }
            same("mean(0)", x.mean(0), above);
            same("mean(1)", x.mean(1), above == 0 ? 1 : below);
        }
    }

    private static void said(ProperFollow x, Model m) {
        int k = any(6) - 1;
        int want = NONE;
        if (m.said != null) {
            List<Integer> who = m.saidOf();
            want = k == NONE ? who.size() : k >= 0 && k < who.size() ? who.get(k) : NONE;
        }
        same("said(" + k + ")", x.said(k), want);
    }

    private static void image(ProperFollow x, Model m) {
        int k = any(2);
        boolean place = k == 0 || k == 1;
        if (RANDOM.nextBoolean()) {
            same("image(" + k + ")", x.image(k) ? 1 : 0, place ? 1 : 0);
            if (place) {
                m.imageTowns[k] = m.town.copy();
                m.imageSaids[k] = m.said;
            }
        } else {
            boolean full = place && m.imageTowns[k] != null;
            same("restore(" + k + ")", x.restore(k) ? 1 : 0, full ? 1 : 0);
            if (full) {
                m.town = m.imageTowns[k].copy();
                m.said = m.imageSaids[k];
                m.undo.clear();
            }
        }
    }

    private static void told(ProperFollow x, Model m) {
        same("cutting()", x.cutting(), m.cut);
        same("barred()", x.barred(), m.bar);
        same("ask()", x.ask(), m.ask());
        int n = m.path == null ? 0 : m.path.size();
        for (int k = -1; k <= n; k++) {
            same("pathAt(" + k + ")", x.pathAt(k), k >= 0 && k < n ? m.path.get(k) : NONE);
        }
        for (int k = -1; k < 7; k++) {
            int want = m.hired == null || k < 0 || k > 5 || m.hired[2 + k] == 6 ? NONE : m.hired[2 + k];
            same("hiredBy(" + k + ")", x.hiredBy(k), want);
        }
        same("hiresFar()", x.hiresFar(), m.hired == null ? NONE : m.hired[1]);
        for (int k = -1; k <= m.line.length(); k++) {
            same("byteAt(" + k + ")", x.byteAt(k), k >= 0 && k < m.line.length() ? m.line.charAt(k) : NONE);
        }
    }

    public static void main(String[] args) {
        int runs = args.length > 0 ? Integer.parseInt(args[0]) : 800;
        Map<String, Integer> faults = new HashMap<>();
        int over = 0;
        for (int run = 0; run < runs && Checks.failures() == 0; run++) {
            ProperFollow x = new ProperFollow();
            Model m = new Model();
            hasty = run % 4 == 0;
            for (int k = 0; k < 150 && Checks.failures() == 0; k++) {
                name = "run " + run + ", step " + k + ": ";
                int luck = k == 1 ? 0 : RANDOM.nextInt(10);
                if (k == 1) {
                    put(x, m, townText());
                    same("town()", x.town(), m.town());
                } else if (luck < 2) {
                    text(x, m);
                    faults.merge("faults of kind " + m.fault, 1, Integer::sum);
                } else if (luck < 6) {
                    act(x, m);
                } else {
                    ask(x, m);
                }
                look(x, m);
                told(x, m);
                over += m.town.minute == 400 ? 1 : 0;
            }
        }
        System.out.println(faults + ", all over: " + over);
        Checks.finish();
    }
}

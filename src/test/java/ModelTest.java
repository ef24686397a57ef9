import java.nio.charset.StandardCharsets;
import java.util.ArrayDeque;
import java.util.ArrayList;
import java.util.Arrays;
import java.util.Collections;
import java.util.Comparator;
import java.util.Deque;
import java.util.HashSet;
import java.util.List;
import java.util.NoSuchElementException;
import java.util.Random;
import java.util.Set;
import java.util.TreeSet;
import java.util.regex.Matcher;
import java.util.regex.Pattern;

/** Runs of up to 512 calls, made by a fixed seed, against a model that tries all days there are. */
public final class ModelTest {
    private static final int NONE = -1;
    /** What stands for the exception of ring(). */
    private static final int THROWN = -123456789;
    private static final int RUNS = 800;
    private static final int CALLS = 512;

    /** The schedule, without any cleverness. */
    private record State(int teams, List<List<Integer>> days) {
        boolean hasMet(int a, int b) {
            return days.stream().anyMatch(day -> day.get(a) == b);
        }
    }

    private static final class Fault extends Exception {
        private static final long serialVersionUID = 1L;
        final int place;
        final int kind;

        Fault(int place, int kind) {
            this.place = place;
            this.kind = kind;
        }
    }

    private record Token(int place, String signs) { }

    private static final class Model {
        State state = new State(0, List.of());
        String tape = "";
        int fault = 0;
        final Deque<State> acts = new ArrayDeque<>();
        final State[] images = new State[2];

        void act(State then) {
            acts.push(state);
            if (acts.size() > 8) {
                acts.removeLast();
            }
            state = then;
        }

        int n() {
            return state.teams();
        }

        int d() {
            return state.days().size();
        }

        boolean team(int t) {
            return t >= 0 && t < n();
        }

        boolean day(int t) {
            return t >= 0 && t < d();
        }
    }

    private static List<List<Integer>> allDays(int teams) {
        List<List<Integer>> all = new ArrayList<>();
        if (teams > 0) {
            Integer[] row = new Integer[teams];
            allDays(row, all);
        }
        return all;
    }

    private static void allDays(Integer[] row, List<List<Integer>> all) {
        int a = Arrays.asList(row).indexOf(null);
        if (a < 0) {
            all.add(List.of(row));
            return;
        }
        for (int b = a + 1; b < row.length; b++) {
            if (row[b] == null) {
                row[a] = b;
                row[b] = a;
                allDays(row, all);
                row[a] = null;
                row[b] = null;
            }
        }
    }

    private static final List<List<List<Integer>>> DAYS_OF = new ArrayList<>();

    static {
        for (int teams = 0; teams <= 14; teams++) {
            DAYS_OF.add(teams % 2 == 0 ? allDays(teams) : List.of());
        }
    }

    private static List<List<Integer>> mayCome(State s) {
        List<List<Integer>> may = new ArrayList<>();
        boolean[][] met = new boolean[s.teams()][s.teams()];
        for (List<Integer> day : s.days()) {
            for (int t = 0; t < s.teams(); t++) {
                met[t][day.get(t)] = true;
            }
        }
        for (List<Integer> day : DAYS_OF.get(s.teams())) {
            boolean good = true;
            for (int t = 0; t < s.teams() && good; t++) {
                good = !met[t][day.get(t)];
            }
            if (good) {
                may.add(day);
            }
        }
        return may;
    }

    private static List<Set<Integer>> rings(List<Integer> d, List<Integer> e) {
        List<Set<Integer>> rings = new ArrayList<>();
        Set<Integer> seen = new HashSet<>();
        for (int t = 0; t < d.size(); t++) {
            if (!seen.contains(t)) {
                Set<Integer> ring = new TreeSet<>();
                Deque<Integer> todo = new ArrayDeque<>(List.of(t));
                while (!todo.isEmpty()) {
                    int at = todo.pop();
                    if (ring.add(at)) {
                        todo.push(d.get(at));
                        todo.push(e.get(at));
                    }
                }
                rings.add(ring);
                seen.addAll(ring);
            }
        }
        return rings;
    }

    private static List<Integer> coming(State s, boolean best) {
        if (s.teams() == 0) {
            return null;
        }
        for (List<Integer> day : mayCome(s)) {
            if (!best || s.days().stream().allMatch(d -> rings(d, day).size() == 1)) {
                return day;
            }
        }
        return null;
    }

    private static int sign(State s, int day) {
        int count = 0;
        for (int e = 0; e < s.days().size(); e++) {
            if (e != day && rings(s.days().get(day), s.days().get(e)).size() == 1) {
                count++;
            }
        }
        return count;
    }

    private static int makes(State s, int n) {
        int count = 0;
        for (int d = 0; d < s.days().size(); d++) {
            for (int e = 0; e < d; e++) {
                if (rings(s.days().get(d), s.days().get(e)).size() == n) {
                    count++;
                }
            }
        }
        return count;
    }

    private static List<Integer> profile(State s) {
        List<Integer> all = new ArrayList<>();
        for (int day = 0; day < s.days().size(); day++) {
            all.add(sign(s, day));
        }
        Collections.sort(all);
        all.add(0, s.days().size());
        all.add(0, s.teams());
        for (int n = 1; n <= 7; n++) {
            all.add(makes(s, n));
        }
        return all;
    }

    private static State with(State s, List<Integer> day) {
        List<List<Integer>> days = new ArrayList<>(s.days());
        days.add(day);
        return new State(s.teams(), days);
    }

    private static State without(State s, int day) {
        List<List<Integer>> days = new ArrayList<>(s.days());
        days.remove(day);
        return new State(s.teams(), days);
    }

    private static List<Integer> mapped(List<Integer> day, int[] to) {
        Integer[] row = new Integer[day.size()];
        for (int t = 0; t < row.length; t++) {
            row[to[t]] = to[day.get(t)];
        }
        return List.of(row);
    }

    private static State named(State s, int a, int b) {
        int[] to = new int[s.teams()];
        for (int t = 0; t < to.length; t++) {
            to[t] = t == a ? b : t == b ? a : t;
        }
        List<List<Integer>> days = new ArrayList<>();
        for (List<Integer> day : s.days()) {
            days.add(mapped(day, to));
        }
        return new State(s.teams(), days);
    }

    private static int turned(State s) {
        if (s.teams() == 0) {
            return NONE;
        }
        int bits = 0;
        for (int c = 0; c < s.teams() - 1; c++) {
            int[] to = new int[s.teams()];
            for (int t = 0; t < s.teams(); t++) {
                to[t] = t == s.teams() - 1 ? t : (t + c) % (s.teams() - 1);
            }
            if (s.days().stream().allMatch(day -> s.days().contains(mapped(day, to)))) {
                bits |= 1 << c;
            }
        }
        return bits;
    }

    private static List<Integer> rowOfPairs(int teams, List<int[]> pairs) {
        Integer[] row = new Integer[teams];
        for (int[] p : pairs) {
            row[p[0]] = p[1];
            row[p[1]] = p[0];
        }
        return List.of(row);
    }

    private static State family(int f, int n) {
        List<List<Integer>> days = new ArrayList<>();
        if (f == 0) {
            int m = n - 1;
            for (int d = 0; d < m; d++) {
                List<int[]> pairs = new ArrayList<>();
                pairs.add(new int[] {m, d});
                for (int k = 1; k < n / 2; k++) {
                    pairs.add(new int[] {Math.floorMod(d + k, m), Math.floorMod(d - k, m)});
                }
                days.add(rowOfPairs(n, pairs));
            }
            return new State(n, days);
        }
        int p = n / 2;
        for (int r = 0; r < p; r++) {
            List<int[]> pairs = new ArrayList<>();
            pairs.add(new int[] {r, r + p});
            for (int x = 0; x < n; x++) {
                for (int y = x + 1; y < n; y++) {
                    if ((x + y) % n == 2 * r % n) {
                        pairs.add(new int[] {x, y});
                    }
                }
            }
            days.add(rowOfPairs(n, pairs));
        }
        for (int i = 1; i < n; i += 2) {
            if (i != p) {
                List<int[]> pairs = new ArrayList<>();
                for (int x = 0; x < n; x += 2) {
                    pairs.add(new int[] {x, (x + i) % n});
                }
                days.add(rowOfPairs(n, pairs));
            }
        }
        return new State(n, days);
    }

    /** Of all ways to pair m less 1 numbers (a day of teams, each a number less 1) those with unlike differences. */
    private static List<List<Integer>> starters(int m) {
        List<List<Integer>> all = new ArrayList<>();
        for (List<Integer> day : DAYS_OF.get(m - 1 == 2 ? 0 : m - 1)) {
            if (haveUnlikeDifferences(day, m)) {
                all.add(day);
            }
        }
        if (m == 3) {
            all.add(List.of(1, 0));
        }
        return all;
    }

    private static boolean haveUnlikeDifferences(List<Integer> day, int m) {
        Set<Integer> differences = new HashSet<>();
        for (int t = 0; t < day.size(); t++) {
            if (!differences.add(Math.floorMod(day.get(t) - t, m))) {
                return false;
            }
        }
        return true;
    }

    private static State by(int m, List<Integer> starter) {
        List<List<Integer>> days = new ArrayList<>();
        for (int d = 0; d < m; d++) {
            List<int[]> pairs = new ArrayList<>();
            pairs.add(new int[] {m, d});
            for (int t = 0; t < m - 1; t++) {
                pairs.add(new int[] {(t + 1 + d) % m, (starter.get(t) + 1 + d) % m});
            }
            days.add(rowOfPairs(m + 1, pairs));
        }
        return new State(m + 1, days);
    }

    private static final class Parser {
        private final List<Token> tokens = new ArrayList<>();
        private int at = 0;
        int lines = 0;

        Parser(String text) {
            Matcher m = Pattern.compile("[a-z0-9]+|[^ \n]", Pattern.DOTALL).matcher(text);
            while (m.find()) {
                if (m.start() >= 700) {
                    break;
                }
                tokens.add(new Token(m.start(), m.group()));
            }
            if (text.length() > 700) {
                tokens.add(new Token(700, "?"));
            } else {
                tokens.add(new Token(text.length(), ""));
            }
        }

        private Token take(String form) throws Fault {
            Token t = tokens.get(at);
            if (!t.signs().matches(form)) {
                throw new Fault(t.place(), 1);
            }
            at++;
            return t;
        }

        State parse() throws Fault {
            State s = new State(0, List.of());
            if (tokens.get(at).signs().isEmpty()) {
                return s;
            }
            take("teams");
            Token number = take("[0-9]{1,2}");
            int teams = Integer.parseInt(number.signs());
            if (teams < 4 || teams > 14 || teams % 2 != 0) {
                throw new Fault(number.place(), 2);
            }
            take(";");
            lines++;
            s = new State(teams, List.of());
            while (!tokens.get(at).signs().isEmpty()) {
                s = with(s, parseDay(s));
                lines++;
            }
            return s;
        }

        private List<Integer> parseDay(State s) throws Fault {
            Token word = take("day");
            if (s.days().size() == s.teams() - 1) {
                throw new Fault(word.place(), 4);
            }
            List<Integer> told = new ArrayList<>();
            List<int[]> pairs = new ArrayList<>();
            while (told.size() < s.teams()) {
                Token number = take("[0-9]{1,2}");
                int team = Integer.parseInt(number.signs());
                if (team >= s.teams()) {
                    throw new Fault(number.place(), 2);
                }
                boolean second = told.size() % 2 == 1;
                if (told.contains(team) || second && s.hasMet(told.get(told.size() - 1), team)) {
                    throw new Fault(number.place(), 3);
                }
                if (second) {
                    pairs.add(new int[] {told.get(told.size() - 1), team});
                }
                told.add(team);
            }
            take(";");
            return rowOfPairs(s.teams(), pairs);
        }
    }

    private final Random random;
    private final int run;
    private final int mostTeams;
    private final RoundDays x = new RoundDays();
    private final Model m = new Model();
    private int calls = 0;
    private static int wrong = 0;

    private ModelTest(int run) {
        this.run = run;
        random = new Random(run);
        mostTeams = run % 8 == 0 ? 14 : run % 4 == 0 ? 12 : 10;
    }

    private void due(String call, long got, long want) {
        calls++;
        if (got != want) {
            wrong++;
            System.out.println("run " + run + ", call " + calls + ": " + call + " answered " + got + ", due is " + want);
        }
    }

    private int r(int n) {
        return random.nextInt(n);
    }

    /** A number mostly from 0 to n less 1, at times at or beyond the edges. */
    private int near(int n) {
        int dice = r(20);
        if (dice == 0) {
            return r(2) == 0 ? -1 : n;
        }
        if (dice == 1) {
            int[] far = {Integer.MIN_VALUE, Integer.MAX_VALUE, -2, n + 1, 32, 64, 13, 14};
            return far[r(far.length)];
        }
        return r(Math.max(1, n));
    }

    private void feed(String bytes) {
        for (int at = 0; at < bytes.length() && wrong == 0; at += 20) {
            int[] five = new int[5];
            for (int i = 0; i < 20; i++) {
                five[i / 4] = five[i / 4] << 8 | (at + i < bytes.length() ? bytes.charAt(at + i) : random.nextInt(256));
            }
            int want = m.tape.length() + 20 > 740 ? NONE : m.tape.length() + 20;
            due("feed", x.feed(five[0], five[1], five[2], five[3], five[4]), want);
            if (want != NONE) {
                byte[] raw = new byte[20];
                for (int i = 0; i < 20; i++) {
                    raw[i] = (byte) (five[i / 4] >> 24 - i % 4 * 8);
                }
                m.tape += new String(raw, StandardCharsets.ISO_8859_1);
            }
        }
    }

    private void end(int n) {
        boolean want = n >= 0 && n <= m.tape.length();
        due("end(" + n + ")", x.end(n) ? 1 : 0, want ? 1 : 0);
        if (want) {
            m.tape = m.tape.substring(0, n);
        }
    }

    private String blank() {
        return r(12) > 0 ? " " : r(2) == 0 ? "\n" : "  ";
    }

    private String madeText() {
        int teams = Math.min(mostTeams, 4 + 2 * r(6));
        StringBuilder b = new StringBuilder("teams " + teams + ";");
        State s = new State(teams, List.of());
        int days = r(3) == 0 ? teams : r(teams);
        State whole = family(0, teams);
        int shift = r(teams);
        for (int i = 0; i < days; i++) {
            List<Integer> day = whole.days().get((i + shift) % (teams - 1));
            s = with(s, day);
            b.append("day");
            List<Integer> order = new ArrayList<>();
            for (int t = 0; t < teams; t++) {
                order.add(t);
            }
            Collections.shuffle(order, random);
            for (int t : order) {
                if (order.indexOf(t) < order.indexOf(day.get(t))) {
                    b.append(blank()).append(t).append(blank()).append(day.get(t));
                }
            }
            b.append(r(9) == 0 ? blank() : "").append(";");
        }
        if (r(2) == 0) {
            spoil(b);
        }
        if (r(8) == 0) {
            int at = r(b.length());
            b.insert(at, (r(2) == 0 ? " " : "\n").repeat(Math.max(0, 690 + r(20) - b.length())));
        }
        return b.length() > 740 ? b.substring(0, 740) : b.toString();
    }

    private void spoil(StringBuilder b) {
        String signs = "teamsday0123456789;; \n\tAZ{`/:\u0000\u00ff";
        for (int i = r(3); i >= 0 && b.length() > 1; i--) {
            int at = r(b.length());
            switch (r(4)) {
                case 0: b.deleteCharAt(at); break;
                case 1: b.insert(at, signs.charAt(r(signs.length()))); break;
                case 2: b.setCharAt(at, signs.charAt(r(signs.length()))); break;
                default: b.setLength(at + 1); break;
            }
        }
    }

    private void text() {
        int want;
        Parser parser = new Parser(m.tape);
        try {
            m.state = parser.parse();
            m.acts.clear();
            m.fault = 0;
            want = parser.lines;
        } catch (Fault f) {
            m.fault = f.kind;
            want = -1 - f.place;
        }
        due("text() of " + m.tape, x.text(), want);
        m.tape = "";
        due("fault()", x.fault(), m.fault);
    }

    private void tell() {
        List<Integer> day = null;
        for (List<Integer> may : m.n() == 0 ? List.<List<Integer>>of() : mayCome(m.state)) {
            StringBuilder b = new StringBuilder();
            may.forEach(t -> b.append((char) (int) t));
            if (b.toString().equals(m.tape)) {
                day = may;
            }
        }
        if (day != null) {
            m.act(with(m.state, day));
        }
        due("tell()", x.tell(), day == null ? NONE : m.d());
        m.tape = "";
    }

    private void feedDay() {
        List<List<Integer>> from = r(4) == 0 ? DAYS_OF.get(m.n()) : mayCome(m.state);
        StringBuilder b = new StringBuilder();
        if (!from.isEmpty()) {
            from.get(r(from.size())).forEach(t -> b.append((char) (int) t));
        }
        if (r(6) == 0 && b.length() > 0) {
            b.setCharAt(r(b.length()), (char) (r(3) == 0 ? r(256) : r(m.n())));
        }
        feed(b.toString());
        end(r(10) == 0 ? near(15) : b.length());
    }

    private void now() {
        State s = m.state;
        int ones = makes(s, 1);
        int[] want = {m.n(), m.d(), m.d() == m.n() - 1 ? 1 : 0, ones == m.d() * (m.d() - 1) / 2 ? 1 : 0, ones,
            m.acts.size(), m.tape.length()};
        for (int what = 0; what < 7; what++) {
            due("now(" + what + ")", x.now(what), want[what]);
        }
    }

    private void askDays() {
        int d = near(m.d());
        int e = near(m.d());
        int i = near(3);
        boolean two = d != e && m.day(d) && m.day(e);
        List<Set<Integer>> rings = two ? rings(m.state.days().get(d), m.state.days().get(e)) : List.of();
        due("rings(" + d + ", " + e + ")", x.rings(d, e), two ? rings.size() : NONE);
        long want = THROWN;
        if (i >= 0 && i < rings.size()) {
            want = rings.get(i).stream().mapToInt(t -> 1 << t).sum();
        }
        long got;
        try {
            got = x.ring(d, e, i);
        } catch (NoSuchElementException none) {
            got = THROWN;
        }
        due("ring(" + d + ", " + e + ", " + i + ")", got, want);
        int n = near(8);
        due("make(" + n + ")", x.make(n), n < 1 || n > 7 ? NONE : makes(m.state, n));
        due("sign(" + d + ")", x.sign(d), m.day(d) ? sign(m.state, d) : NONE);
        due("turned()", x.turned(), turned(m.state));
        int k = near(2);
        boolean image = (k == 0 || k == 1) && m.images[k] != null;
        due("alike(" + k + ")", x.alike(k), !image ? NONE : profile(m.state).equals(profile(m.images[k])) ? 1 : 0);
    }

    private void askTeams() {
        int day = near(m.d());
        int a = near(m.n());
        int b = near(m.n());
        due("meets", x.meets(day, a), m.day(day) && m.team(a) ? m.state.days().get(day).get(a) : NONE);
        int met = NONE;
        for (int d = 0; d < m.d() && m.team(a) && m.team(b); d++) {
            met = m.state.days().get(d).get(a) == b ? d : met;
        }
        due("met(" + a + ", " + b + ")", x.met(a, b), met);
    }

    private void askComing() {
        int a = near(m.n());
        List<List<Integer>> may = m.n() == 0 ? List.of() : mayCome(m.state);
        due("may()", x.may(), may.size());
        boolean best = r(2) == 0;
        List<Integer> come = coming(m.state, best);
        due("come(" + best + ", " + a + ")", x.come(best, a), come == null || !m.team(a) ? NONE : come.get(a));
        Set<Integer> partners = new HashSet<>();
        if (m.team(a)) {
            may.forEach(day -> partners.add(day.get(a)));
        }
        due("sure(" + a + ")", x.sure(a), partners.size() == 1 ? partners.iterator().next() : NONE);
    }

    private void makeWhole() {
        int f = near(2);
        int n = Math.min(mostTeams, near(15));
        boolean good = (f == 0 || f == 1) && n >= 4 && n <= 14 && n % 2 == 0 && (f == 0 || n % 4 == 2);
        if (good) {
            m.act(family(f, n));
        }
        due("family(" + f + ", " + n + ")", x.family(f, n), good ? n - 1 : NONE);
        if (good) {
            return;
        }
        int size = Math.min(mostTeams - 1, near(14));
        boolean told = size >= 3 && size <= 13 && size % 2 == 1;
        List<List<Integer>> all = told ? starters(size) : List.of();
        int k = near(Math.max(1, all.size()));
        int number = near(Math.max(1, size));
        boolean there = k >= 0 && k < all.size();
        due("starters(" + size + ", 0)", x.starters(size, 0), told ? all.size() : NONE);
        long perfect = all.stream().map(s -> by(size, s))
            .filter(s -> makes(s, 1) == size * (size - 1) / 2).count();
        due("starters(" + size + ", 1)", x.starters(size, 1), told ? perfect : NONE);
        due("starter(" + size + ", " + k + ", " + number + ")", x.starter(size, k, number),
            there && number >= 1 && number < size ? all.get(k).get(number - 1) + 1 : NONE);
        if (there) {
            m.act(by(size, all.get(k)));
        }
        due("by(" + size + ", " + k + ")", x.by(size, k), there ? size : NONE);
    }

    private void add() {
        boolean best = r(2) == 0;
        if (r(3) > 0) {
            List<Integer> day = coming(m.state, best);
            if (day != null) {
                m.act(with(m.state, day));
            }
            due("add(" + best + ")", x.add(best), day == null ? NONE : m.d());
            return;
        }
        State s = m.state;
        int came = 0;
        for (List<Integer> day = coming(s, best); day != null; day = coming(s, best)) {
            s = with(s, day);
            came++;
        }
        if (came > 0) {
            m.act(s);
        }
        due("addAll(" + best + ")", x.addAll(best), came);
    }

    private void drop() {
        int day = near(m.d());
        boolean there = m.day(day);
        if (there) {
            m.act(without(m.state, day));
        }
        due("drop(" + day + ")", x.drop(day), there ? m.d() : NONE);
    }

    private void weed() {
        int n = near(r(6) == 0 ? m.d() + 1 : 3);
        List<List<Integer>> left = new ArrayList<>();
        for (int day = 0; day < m.d(); day++) {
            if (sign(m.state, day) >= n) {
                left.add(m.state.days().get(day));
            }
        }
        int gone = m.d() - left.size();
        if (gone > 0) {
            m.act(new State(m.n(), left));
        }
        due("weed(" + n + ")", x.weed(n), gone);
    }

    private void name() {
        int a = near(m.n());
        int b = near(m.n());
        boolean good = a != b && m.team(a) && m.team(b);
        long apart = !good ? NONE : m.state.days().stream().filter(day -> day.get(a) != b).count();
        if (good) {
            m.act(named(m.state, a, b));
        }
        due("name(" + a + ", " + b + ")", x.name(a, b), apart);
    }

    private void sort() {
        List<List<Integer>> days = new ArrayList<>(m.state.days());
        days.sort(Comparator.comparing(day -> {
            StringBuilder b = new StringBuilder();
            day.forEach(t -> b.append((char) ('a' + t)));
            return b.toString();
        }));
        int moved = 0;
        for (int day = 0; day < days.size(); day++) {
            moved += days.get(day).equals(m.state.days().get(day)) ? 0 : 1;
        }
        if (moved > 0) {
            m.act(new State(m.n(), days));
        }
        due("sort()", x.sort(), moved);
    }

    private int seed;

    private int draw(int n) {
        seed = seed * 1103515245 + 12345;
        return (seed >>> 8) % n;
    }

    private void drawn() {
        int n = r(5) == 0 ? new int[] {0, -1, 61, 60, Integer.MAX_VALUE}[r(5)] : 1 + r(mostTeams > 10 ? 3 : 12);
        int first = random.nextInt();
        seed = first;
        boolean good = n >= 1 && n <= 60;
        State s = m.state;
        for (int i = 0; i < n && good && s.teams() > 0; i++) {
            if (draw(4) == 0) {
                s = s.days().isEmpty() ? s : without(s, draw(s.days().size()));
            } else {
                int a = draw(s.teams());
                int b = draw(s.teams());
                s = named(s, a, b);
                List<Integer> day = coming(s, false);
                s = day == null ? s : with(s, day);
            }
        }
        if (good && m.n() > 0) {
            m.act(s);
        }
        due("drawn(" + n + ", " + first + ")", x.drawn(n, first), good ? m.d() : NONE);
    }

    private void back() {
        int k = near(2);
        boolean place = k == 0 || k == 1;
        switch (r(5)) {
            case 0:
                if (place) {
                    m.images[k] = m.state;
                }
                due("image(" + k + ")", x.image(k) ? 1 : 0, place ? 1 : 0);
                break;
            case 1:
                boolean there = place && m.images[k] != null;
                if (there) {
                    m.state = m.images[k];
                    m.acts.clear();
                }
                due("restore(" + k + ")", x.restore(k) ? 1 : 0, there ? 1 : 0);
                break;
            default:
                boolean any = !m.acts.isEmpty();
                if (any) {
                    m.state = m.acts.pop();
                }
                due("undo()", x.undo(), any ? m.acts.size() : NONE);
                break;
        }
    }

    private void feedText() {
        String text = madeText();
        end(0);
        feed(text);
        end(text.length());
        text();
    }

    /** Some days go at once, so that schedules between none and whole are met often. */
    private void dropSome() {
        for (int i = r(m.d() + 1); i > 0; i--) {
            drop();
        }
    }

    private void step() {
        if (m.n() == 0 && r(5) > 0) {
            feedText();
            return;
        }
        switch (r(30)) {
            case 0: feedText(); break;
            case 1:
                if (r(12) == 0) {
                    text();
                } else {
                    end(near(m.tape.length()));
                }
                break;
            case 2: feed("x".repeat(1 + r(r(4) == 0 ? 400 : 30))); break;
            case 3: case 4: end(0); feedDay(); tell(); break;
            case 5: if (r(3) == 0) { makeWhole(); } break;
            case 6: now(); break;
            case 7: case 8: askDays(); break;
            case 9: askTeams(); break;
            case 10: case 11: askComing(); break;
            case 12: case 13: case 14: add(); break;
            case 15: case 16: drop(); break;
            case 17: dropSome(); break;
            case 18: weed(); break;
            case 19: case 20: name(); break;
            case 21: sort(); break;
            case 22: drawn(); break;
            case 23: case 24: case 25: back(); break;
            default: compareAll(); break;
        }
    }

    /** The whole schedule, so that a wrong change shows at once. */
    private void compareAll() {
        due("now(0)", x.now(0), m.n());
        due("now(1)", x.now(1), m.d());
        due("now(5)", x.now(5), m.acts.size());
        int day = m.d() == 0 ? 0 : r(m.d());
        for (int t = 0; t < m.n() && m.d() > 0; t++) {
            due("meets(" + day + ", " + t + ")", x.meets(day, t), m.state.days().get(day).get(t));
        }
    }

    private void play() {
        while (calls < CALLS - 60 && wrong == 0) {
            step();
        }
    }

    public static void main(String[] args) {
        for (int run = 0; run < RUNS && wrong == 0; run++) {
            new ModelTest(run).play();
        }
        System.out.println(wrong == 0 ? RUNS + " runs are as the model's" : "an answer is not as the model's");
        if (wrong != 0) {
            System.exit(1);
        }
    }
}

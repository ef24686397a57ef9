import java.util.ArrayDeque;
import java.util.Deque;
import java.util.function.Consumer;

/** The edges of the calls that act (promises 16, 19, 22 to 32) and of FAMILIES and DRAWN, sentence by sentence. */
public final class ActEdgesTest extends Checks {
    private static final int[] FAR = {-1, -2, MIN, MAX, 64, 31, 32, 1 << 16};
    private static final String TWO_OF_EIGHT = "teams 8;day 0 1 2 3 4 5 6 7;day 0 2 1 4 3 6 5 7;";

    public static void main(String[] args) {
        familyIsRefused();
        familyZeroWrapsRound();
        familyOneWrapsRound();
        byIsRefused();
        byWrapsRound();
        tellIsRefused();
        tellOfWhatMayNotCome();
        tellEmptiesTheTape();
        tellComesBehindAll();
        addIsRefused();
        addComesBehindAll();
        addAllCountsWhatCame();
        addAllOfNone();
        dropIsRefused();
        dropMovesThoseBehind();
        weedAtTheSign();
        weedAllAtOnce();
        weedOfNone();
        nameIsRefused();
        nameOfTwoWhoMeet();
        sortOfFew();
        sortCountsThoseElsewhere();
        drawnIsRefused();
        drawnWithoutTeams();
        drawnWraps();
        drawnDayGoes();
        drawnOfNoDays();
        drawnTeamsAlike();
        drawnFirstComesOrNot();
        drawnMost();
        undoIsRefused();
        undoOfEachAct();
        undoPassesWhatIsNoAct();
        undoKeepsEight();
        undoWrapsRound();
        imageIsRefused();
        imageKeepsTeamsAndDays();
        restoreIsRefused();
        restoreLeavesTapeAndFault();
        restoreForgetsActs();
        anObjectLastsFor512Calls();
        finish();
    }

    private static void familyIsRefused() {
        sentence("promise 16, 'NONE: not as told (1: N 6, 10, 14)'");
        for (int n : new int[] {-4, -2, 0, 1, 2, 3, 5, 7, 9, 11, 13, 15, 16, 18, 20, MIN, MAX, MIN + 4, MIN + 6}) {
            refused("family(0, " + n + ")", x -> x.family(0, n));
            refused("family(1, " + n + ")", x -> x.family(1, n));
        }
        for (int n : new int[] {4, 8, 12, 22}) {
            refused("family(1, " + n + ")", x -> x.family(1, n));
        }
        for (int n = 4; n <= 14; n += 2) {
            int teams = n;
            for (int f : new int[] {2, 3, -1, -2, MIN, MAX}) {
                refused("family(" + f + ", " + n + ")", x -> x.family(f, teams));
            }
        }
    }

    private static void dueWhole(String call, RoundDays x, int n) {
        due(call + ": teams", x.now(0), n);
        due(call + ": days", x.now(1), n - 1);
        due(call + ": whole", x.now(2), 1);
        for (int a = 0; a < n; a++) {
            for (int b = 0; b < a; b++) {
                int day = x.met(a, b);
                due(call + ": " + a + " and " + b + " meet", day != NONE, true);
                due(call + ": " + a + " and " + b + " on day " + day, x.meets(day, a), b);
            }
        }
    }

    private static void familyZeroWrapsRound() {
        sentence("promise 16; FAMILIES, 'd and k (modulo m) meets d less k (modulo m)'");
        for (int n = 4; n <= 14; n += 2) {
            int m = n - 1;
            RoundDays x = new RoundDays();
            due("family(0, " + n + ")", x.family(0, n), m);
            for (int d = 0; d < m; d++) {
                due("the last team", x.meets(d, m), d);
                due("the day's own", x.meets(d, d), m);
                for (int k = 1; k < n / 2; k++) {
                    due("k " + k + " of day " + d, x.meets(d, (d + k) % m), Math.floorMod(d - k, m));
                    due("k " + k + " of day " + d, x.meets(d, Math.floorMod(d - k, m)), (d + k) % m);
                }
            }
            dueWhole("family(0, " + n + ")", family(0, n), n);
        }
    }

    private static void familyOneWrapsRound() {
        sentence("promise 16; FAMILIES, '1, of N = 2 p TEAMS, p odd'");
        for (int n = 6; n <= 14; n += 4) {
            int p = n / 2;
            RoundDays x = new RoundDays();
            due("family(1, " + n + ")", x.family(1, n), n - 1);
            for (int r = 0; r < p; r++) {
                due("r and r and p", x.meets(r, r), r + p);
                for (int team = 0; team < n; team++) {
                    if (team != r && team != r + p) {
                        due("together 2 r", (x.meets(r, team) + team) % n, 2 * r % n);
                    }
                }
            }
            int day = p;
            for (int i = 1; i < n; i += 2) {
                for (int even = 0; even < n && i != p; even += 2) {
                    due("day " + day + " by " + i, x.meets(day, even), (even + i) % n);
                }
                day += i == p ? 0 : 1;
            }
            dueWhole("family(1, " + n + ")", family(1, n), n);
        }
    }

    private static void byIsRefused() {
        sentence("promise 19, 'NONE: none such'");
        int[] all = {1, 1, 3, 9, 25, 133};
        for (int m = 3; m <= 13; m += 2) {
            int odd = m;
            int count = all[(m - 3) / 2];
            for (int k : new int[] {count, count + 1, -1, MIN, MAX}) {
                refused("by(" + m + ", " + k + ")", x -> x.by(odd, k));
            }
            due("by(" + m + ", " + (count - 1) + ")", new RoundDays().by(m, count - 1), m);
        }
        for (int m : new int[] {-3, -1, 0, 1, 2, 4, 6, 8, 10, 12, 14, 15, 17, MIN, MAX}) {
            refused("by(" + m + ", 0)", x -> x.by(m, 0));
        }
    }

    private static void byWrapsRound() {
        sentence("promise 19; 'a and d (modulo m) meets b and d'");
        int[] all = {1, 1, 3, 9, 25, 133};
        for (int m = 3; m <= 13; m += 2) {
            int k = all[(m - 3) / 2] / 2;
            RoundDays x = new RoundDays();
            due("by(" + m + ", " + k + ")", x.by(m, k), m);
            for (int d = 0; d < m; d++) {
                due("the last team", x.meets(d, m), d);
                for (int a = 1; a < m; a++) {
                    due("a " + a + " of day " + d, x.meets(d, (a + d) % m), (new RoundDays().starter(m, k, a) + d) % m);
                }
            }
            RoundDays y = new RoundDays();
            y.by(m, k);
            dueWhole("by(" + m + ", " + k + ")", y, m + 1);
            due("turned()", y.turned(), (1 << m) - 1);
        }
        // The last starter of each m pairs a with m less a: that is family 0.
        RoundDays x = new RoundDays();
        x.by(13, 132);
        due("by(13, 132)", days(x), days(family(0, 14)));
    }

    /** tell() of a row is refused: nothing but the tape changes. */
    private static void tellRefused(String text, int... row) {
        RoundDays x = of(text);
        x.image(1);
        String before = seen(x);
        due("tell()", tell(x, row), NONE);
        due("all behind tell()", seen(x), before);
    }

    private static void tellIsRefused() {
        sentence("promise 22, 'NONE: it is none'");
        String six = "teams 6;";
        tellRefused(six);
        tellRefused(six, 1);
        tellRefused(six, 1, 0, 3, 2, 5);
        tellRefused(six, 1, 0, 3, 2, 5, 4, 0);
        tellRefused(six, 1, 0, 3, 2, 5, 4, 7, 6);
        tellRefused(six, 0, 1, 2, 3, 4, 5);
        tellRefused(six, 1, 0, 2, 3, 5, 4);
        tellRefused(six, 1, 0, 3, 2, 4, 5);
        tellRefused(six, 1, 2, 3, 4, 5, 0);
        tellRefused(six, 1, 0, 3, 2, 0, 0);
        tellRefused(six, 2, 2, 0, 5, 5, 3);
        tellRefused(six, 6, 2, 1, 4, 3, 0);
        tellRefused(six, 1, 0, 3, 2, 5, 6);
        tellRefused(six, 255, 2, 1, 4, 3, 0);
        tellRefused(six, 1, 0, 3, 2, 128, 4);
        tellRefused("teams 4;", 1, 0, 3, 2, 5, 4);
        tellRefused("", 1, 0, 3, 2);
        tellRefused("");
        int[] most = {13, 12, 11, 10, 9, 8, 7, 6, 5, 4, 3, 2, 1, 0};
        due("tell() of fourteen", tell(of("teams 14;"), most), 1);
        tellRefused("teams 12;", most);
        most[0] = 14;
        tellRefused("teams 14;", most);
        // Bytes, not signs: the digits of a day tell none.
        RoundDays x = of("teams 4;");
        feed(x, "1032");
        due("tell() of digits", x.tell(), NONE);
    }

    private static void tellOfWhatMayNotCome() {
        sentence("promise 22, 'NONE: .. it MAY not COME'");
        String one = "teams 6;day 0 1 2 3 4 5;";
        tellRefused(one, 1, 0, 3, 2, 5, 4);
        tellRefused(one, 1, 0, 4, 5, 2, 3);
        tellRefused(one, 2, 3, 0, 1, 5, 4);
        tellRefused(one, 4, 5, 3, 2, 0, 1);
        tellRefused(FOUR, 1, 0, 3, 2);
        tellRefused(FOUR, 3, 2, 1, 0);
        due("one that may", tell(of(one), 2, 4, 0, 5, 1, 3), 2);
    }

    private static void tellEmptiesTheTape() {
        sentence("promise 22; promise 4, 'empty then, here and below'");
        for (int count : new int[] {0, 1, 2, 35, 36, 37}) {
            RoundDays full = of("teams 4;");
            for (int i = 0; i < count; i++) {
                full.feed(0x01000302, 0, 0, 0, 0);
            }
            due("tell() of " + 20 * count + " bytes", full.tell(), NONE);
            due("now(6)", full.now(6), 0);
            due("end(1)", full.end(1), false);
        }
        RoundDays x = of("teams 4;");
        feedRow(x, 1, 0, 3, 2);
        due("tell()", x.tell(), 1);
        due("now(6)", x.now(6), 0);
        due("fault() stays", x.fault(), 0);
    }

    private static void tellComesBehindAll() {
        sentence("promise 22, 'that DAY comes behind all: how many DAYS'");
        RoundDays x = of("teams 4;");
        due("tell()", tell(x, 3, 2, 1, 0), 1);
        due("tell()", tell(x, 1, 0, 3, 2), 2);
        due("tell()", tell(x, 2, 3, 0, 1), 3);
        due("days", days(x), "4: 3 2 1 0; 1 0 3 2; 2 3 0 1;");
        due("acts", x.now(5), 3);
        RoundDays full = family(0, 14);
        full.drop(4);
        int[] row = new int[14];
        for (int team = 0; team < 14; team++) {
            row[team] = full.come(false, team);
        }
        due("tell() of the last day that may come", tell(full, row), 13);
        dueDay(full, 12, row);
    }

    private static void addIsRefused() {
        sentence("promise 23, 'NONE: there is none'");
        for (String text : new String[] {"", FOUR, SIX_PERFECT, EIGHT_BY_FOURS, STUCK}) {
            for (boolean best : new boolean[] {false, true}) {
                RoundDays x = of(text);
                x.image(0);
                String before = seen(x);
                due("add(" + best + ") of '" + text + "'", x.add(best), NONE);
                due("all behind add()", seen(x), before);
            }
        }
        due("add(false) of thirteen days", family(0, 14).add(false), NONE);
        due("add(true) of thirteen days", family(0, 14).add(true), NONE);
        RoundDays x = of(EIGHT_BY_FOURS);
        x.drop(6);
        due("add(true), FIRST makes two rings", x.add(true), NONE);
        due("acts", x.now(5), 1);
        due("add(false)", x.add(false), 7);
        due("acts", x.now(5), 2);
    }

    private static void addComesBehindAll() {
        sentence("promise 23, 'FIRST, BEST comes behind all DAYS: how many there are'");
        for (int n = 4; n <= 14; n += 2) {
            RoundDays x = of("teams " + n + ";");
            due("add(false)", x.add(false), 1);
            due("met(0, 1)", x.met(0, 1), 0);
            x.undo();
            due("add(true)", x.add(true), 1);
            due("met(0, 1)", x.met(0, 1), 0);
        }
        RoundDays x = family(0, 14);
        x.drop(0);
        due("add(true) of the first that went", x.add(true), 13);
        dueDay(x, 12, 13, 12, 11, 10, 9, 8, 7, 6, 5, 4, 3, 2, 1, 0);
        due("it comes behind", x.meets(0, 13), 1);
    }

    private static void addAllCountsWhatCame() {
        sentence("promise 24, 'FIRST, BEST comes as long as there is one: how many came'");
        for (int n = 4; n <= 14; n += 2) {
            for (boolean best : new boolean[] {false, true}) {
                for (int ahead = 0; ahead < 2; ahead++) {
                    RoundDays x = of("teams " + n + ";");
                    RoundDays y = of("teams " + n + ";");
                    int came = 0;
                    if (ahead == 1) {
                        x.family(0, n);
                        y.family(0, n);
                        x.drop(0);
                        y.drop(0);
                    }
                    while (y.add(best) != NONE) {
                        came++;
                    }
                    int acts = x.now(5);
                    due("addAll(" + best + ") of " + n, x.addAll(best), came);
                    due("days", days(x), days(y));
                    due("one act", x.now(5), acts + (came > 0 ? 1 : 0));
                    due("none more", x.come(best, 0), NONE);
                    due("addAll() again", x.addAll(best), 0);
                }
            }
        }
        RoundDays x = of("teams 4;day 0 2 1 3;");
        due("addAll(false)", x.addAll(false), 2);
        due("days", days(x), "4: 2 3 0 1; 1 0 3 2; 3 2 1 0;");
    }

    private static void addAllOfNone() {
        sentence("promise 24; promise 30, 'addAll() .. above 0'");
        for (String text : new String[] {"", FOUR, SIX_PERFECT, EIGHT_BY_FOURS, STUCK}) {
            for (boolean best : new boolean[] {false, true}) {
                RoundDays x = of(text);
                x.image(0);
                String before = seen(x);
                due("addAll(" + best + ") of '" + text + "'", x.addAll(best), 0);
                due("all behind addAll()", seen(x), before);
            }
        }
    }

    private static void dropIsRefused() {
        sentence("promise 25, 'NONE: no such one'");
        refused("drop(4) of four days", x -> x.drop(4));
        for (int far : FAR) {
            refused("drop(" + far + ")", x -> x.drop(far));
        }
        due("drop(0) without days", of("teams 4;").drop(0), NONE);
        due("drop(0) without teams", new RoundDays().drop(0), NONE);
        due("drop(13) of thirteen", family(0, 14).drop(13), NONE);
    }

    private static void dropMovesThoseBehind() {
        sentence("promise 25, 'A DAY goes (those behind it are one less): how many are left'");
        for (int day = 0; day < 13; day++) {
            RoundDays x = family(0, 14);
            due("drop(" + day + ")", x.drop(day), 12);
            for (int other = 0; other < 12; other++) {
                due("whom 13 meets", x.meets(other, 13), other < day ? other : other + 1);
            }
            due("the last place is free", x.meets(12, 13), NONE);
        }
        RoundDays x = of(FOUR);
        due("drop(2)", x.drop(2), 2);
        due("drop(0)", x.drop(0), 1);
        due("days", days(x), "4: 2 3 0 1;");
        due("drop(0), the last", x.drop(0), 0);
        due("teams stay", x.now(0), 4);
        due("drop(0) of none", x.drop(0), NONE);
    }

    private static void weedAtTheSign() {
        sentence("promise 26, 'All DAYS with a SIGN below n go: how many'");
        for (int n : new int[] {MIN, -1, 0, 1, 6}) {
            RoundDays x = family(0, 10);
            due("weed(" + n + ") of signs 6", x.weed(n), 0);
            due("days", x.now(1), 9);
            due("acts", x.now(5), 1);
        }
        for (int n : new int[] {7, 8, 9, 13, 14, 100, MAX}) {
            RoundDays x = family(0, 10);
            due("weed(" + n + ") of signs 6", x.weed(n), 9);
            due("days", x.now(1), 0);
            due("teams stay", x.now(0), 10);
            due("acts", x.now(5), 2);
        }
        due("weed(12) of signs 12", family(0, 14).weed(12), 0);
        due("weed(13) of signs 12", family(0, 14).weed(13), 13);
        due("weed(0) of signs 0", of(EIGHT_BY_FOURS).weed(0), 0);
        due("weed(1) of signs 0", of(EIGHT_BY_FOURS).weed(1), 7);
        due("weed(1) of one alone", of("teams 4;day 0 1 2 3;").weed(1), 1);
    }

    private static void weedAllAtOnce() {
        sentence("promise 26: the SIGNS are those ahead of the call");
        // Day 3 made ONE with all but days 0 and 6, who keep their six; the others have five.
        RoundDays x = family(0, 10);
        x.drop(3);
        due("weed(6)", x.weed(6), 6);
        due("days", x.now(1), 2);
        due("day 0 stays", x.meets(0, 9), 0);
        due("day 6 stays", x.meets(1, 9), 6);
        due("weed(6) again, of what is left", x.weed(6), 2);
        due("undo()", x.undo(), 3);
        due("undo()", x.undo(), 2);
        due("days", x.now(1), 8);
    }

    private static void weedOfNone() {
        sentence("promise 26, of no DAYS");
        for (String text : new String[] {"", "teams 4;", "teams 14;"}) {
            for (int n : new int[] {MIN, 0, 1, MAX}) {
                RoundDays x = of(text);
                due("weed(" + n + ")", x.weed(n), 0);
                due("acts", x.now(5), 0);
            }
        }
        leaves("weed(3) of signs 3", x -> x.weed(3), 0);
    }

    private static void nameIsRefused() {
        sentence("promise 27, 'NONE: no such ones, one alone'");
        for (int team = 0; team < 6; team++) {
            int same = team;
            refused("name of one alone", x -> x.name(same, same));
            refused("name(" + team + ", 6)", x -> x.name(same, 6));
            refused("name(6, " + team + ")", x -> x.name(6, same));
            for (int far : FAR) {
                refused("name(" + team + ", " + far + ")", x -> x.name(same, far));
                refused("name(" + far + ", " + team + ")", x -> x.name(far, same));
            }
        }
        refused("name(-1, -1)", x -> x.name(-1, -1));
        due("name(0, 1) without teams", new RoundDays().name(0, 1), NONE);
    }

    private static void nameOfTwoWhoMeet() {
        sentence("promise 27, 'Two TEAMS change names: on how many DAYS they do not meet'");
        RoundDays x = of("teams 4;");
        due("without days", x.name(0, 3), 0);
        due("acts", x.now(5), 1);
        x = of("teams 4;day 0 1 2 3;");
        due("on their day alone", x.name(1, 0), 0);
        due("days", days(x), "4: 1 0 3 2;");
        due("acts", x.now(5), 1);
        due("not on their day", x.name(0, 2), 1);
        due("days", days(x), "4: 3 2 1 0;");
        RoundDays full = family(0, 14);
        String before = days(full);
        due("first and last of a whole one", full.name(0, 13), 12);
        due("the other way back", full.name(13, 0), 12);
        due("days", days(full), before);
    }

    private static void sortOfFew() {
        sentence("promise 28, of no DAYS, of one, of some in order");
        for (String text : new String[] {"", "teams 4;", "teams 14;", "teams 4;day 0 3 1 2;", FOUR, SIX_PERFECT, EIGHT_BY_FOURS}) {
            RoundDays x = of(text);
            x.image(0);
            String before = seen(x);
            due("sort() of '" + text + "'", x.sort(), 0);
            due("all behind sort()", seen(x), before);
        }
    }

    private static void sortCountsThoseElsewhere() {
        sentence("promise 28, 'DAYS are put in order: how many stand elsewhere (another DAY is there)'");
        RoundDays x = of("teams 4;day 0 3 1 2;day 0 2 1 3;day 0 1 2 3;");
        due("sort() of three turned about", x.sort(), 2);
        due("days", days(x), "4: 1 0 3 2; 2 3 0 1; 3 2 1 0;");
        x = of("teams 4;day 0 2 1 3;day 0 3 1 2;day 0 1 2 3;");
        due("sort() of three, each elsewhere", x.sort(), 3);
        x = of("teams 4;day 0 1 2 3;day 0 3 1 2;day 0 2 1 3;");
        due("sort() of the last two", x.sort(), 2);
        due("acts", x.now(5), 1);
        for (int n = 4; n <= 14; n += 2) {
            RoundDays whole = family(0, n);
            int[] wanted = new int[n];
            int moved = 0;
            for (int day = 0; day < n - 1; day++) {
                wanted[whole.meets(day, 0) - 1] = day;
                moved += whole.meets(day, 0) - 1 == day ? 0 : 1;
            }
            due("sort() of family 0 of " + n, whole.sort(), moved);
            for (int day = 0; day < n - 1; day++) {
                due("whom 0 meets", whole.meets(day, 0), day + 1);
                due("the row came with it", whole.meets(day, n - 1), wanted[day]);
            }
        }
    }

    private static void drawnIsRefused() {
        sentence("promise 29, 'n (1 to 60) .. NONE: not as told'");
        for (int n : new int[] {0, 61, 62, -1, -60, MIN, MAX}) {
            refused("drawn(" + n + ", 7)", x -> x.drawn(n, 7));
            due("drawn(" + n + ", 7) without teams", new RoundDays().drawn(n, 7), NONE);
        }
        due("drawn(1, 7) is an act", actsBehindDrawn(1), 1);
        due("drawn(60, 7) is an act", actsBehindDrawn(60), 1);
    }

    private static int actsBehindDrawn(int n) {
        RoundDays x = of(FOUR);
        x.drawn(n, 7);
        return x.now(5);
    }

    private static void drawnWithoutTeams() {
        sentence("DRAWN, '(without TEAMS: nothing, no draws more)'; promise 30, 'drawn() (of TEAMS)'");
        for (int n : new int[] {1, 2, 60}) {
            for (int seed : new int[] {0, 1, 3, -1, MIN, MAX}) {
                RoundDays x = new RoundDays();
                due("drawn(" + n + ", " + seed + ")", x.drawn(n, seed), 0);
                due("all", seen(x), seen(new RoundDays()));
                due("undo()", x.undo(), NONE);
            }
        }
    }

    private static int drawSeed;

    private static int draw(int n) {
        drawSeed = (int) (drawSeed * 1103515245L + 12345L);
        return (int) ((drawSeed & 0xffffffffL) / 256 % n);
    }

    /** The DEEDS, done by drop(), name() and add(). */
    private static void doDeeds(RoundDays y, int n, int seed) {
        drawSeed = seed;
        int teams = y.now(0);
        int count = y.now(1);
        for (int i = 0; i < n; i++) {
            if (draw(4) != 0) {
                int a = draw(teams);
                y.name(a, draw(teams));
                count += y.add(false) == NONE ? 0 : 1;
            } else if (count > 0) {
                count = y.drop(draw(count));
            }
        }
    }

    private static void dueAsByDeeds(String text, int n, int seed) {
        RoundDays x = of(text);
        RoundDays y = of(text);
        doDeeds(y, n, seed);
        String call = "drawn(" + n + ", " + seed + ") of " + text;
        due(call, x.drawn(n, seed), y.now(1));
        due(call + ": days", days(x), days(y));
        due(call + ": acts", x.now(5), 1);
        due(call + ": undo()", x.undo(), 0);
        due(call + ": days then", days(x), days(of(text)));
    }

    private static void drawnWraps() {
        sentence("DRAWN, 's becomes s * 1103515245 + 12345 (an int, wrapping), the draw is (s >>> 8) % n'");
        for (int seed : new int[] {0, 1, -1, 2, -2, MIN, MAX, MIN + 1, MAX - 1, 1 << 30, -(1 << 30), 0x7fffff00, 0x80000100}) {
            for (int n : new int[] {1, 2, 3, 10}) {
                dueAsByDeeds(STUCK, n, seed);
                dueAsByDeeds("teams 14;day 0 1 2 3 4 5 6 7 8 9 10 11 12 13;", n, seed);
            }
        }
    }

    /** The least seed from 0 on whose first deed is as told: the draw of 4 is 0 or not, the TEAMS drawn alike or not. */
    private static int seedOf(int teams, boolean goes, boolean alike) {
        for (int seed = 0; ; seed++) {
            drawSeed = seed;
            if (draw(4) == 0 == goes && draw(teams) == draw(teams) == alike) {
                return seed;
            }
        }
    }

    private static void drawnDayGoes() {
        sentence("DRAWN, '0: a draw of DAYS: that one goes'");
        int gone = 0;
        for (int seed = 0; seed < 400; seed++) {
            drawSeed = seed;
            if (draw(4) == 0) {
                int day = draw(5);
                RoundDays x = of(SIX_PERFECT);
                RoundDays y = of(SIX_PERFECT);
                y.drop(day);
                due("drawn(1, " + seed + ")", x.drawn(1, seed), 4);
                due("days", days(x), days(y));
                gone |= 1 << day;
            }
        }
        due("days that went, the first and the last too", gone, 31);
    }

    private static void drawnOfNoDays() {
        sentence("DRAWN, '(none: no draw, nothing)'");
        int goes = seedOf(6, true, false);
        RoundDays x = of("teams 6;");
        due("drawn(1, " + goes + ")", x.drawn(1, goes), 0);
        due("days", days(x), "6:");
        due("an act all the same", x.now(5), 1);
        // The last day goes, and with no draw between the next deed begins.
        for (int seed = 0; seed < 200; seed++) {
            dueAsByDeeds("teams 6;", 3, seed);
            dueAsByDeeds("teams 6;day 0 5 1 4 2 3;", 4, seed);
        }
    }

    private static void drawnTeamsAlike() {
        sentence("DRAWN, 'these change names (alike: nothing)'");
        int alike = seedOf(6, false, true);
        RoundDays x = of("teams 6;day 0 1 2 3 4 5;");
        due("drawn(1, " + alike + ")", x.drawn(1, alike), 2);
        due("days", days(x), "6: 1 0 3 2 5 4; 2 4 0 5 1 3;");
        x = of(SIX_PERFECT);
        due("drawn(1, " + alike + ") of a whole one", x.drawn(1, alike), 5);
        due("days", days(x), days(of(SIX_PERFECT)));
        due("an act all the same", x.now(5), 1);
    }

    private static void drawnFirstComesOrNot() {
        sentence("DRAWN, 'then FIRST comes, if there is one'");
        int unlike = seedOf(6, false, false);
        drawSeed = unlike;
        draw(4);
        int a = draw(6);
        int b = draw(6);
        for (String text : new String[] {SIX_PERFECT, STUCK, "teams 6;", "teams 6;day 0 3 1 4 2 5;"}) {
            RoundDays x = of(text);
            RoundDays y = of(text);
            y.name(a, b);
            y.add(false);
            due("drawn(1, " + unlike + ") of " + text, x.drawn(1, unlike), y.now(1));
            due("days", days(x), days(y));
        }
        RoundDays whole = of(SIX_PERFECT);
        due("none comes to a whole one", whole.drawn(1, unlike), 5);
        due("none comes to a stuck one", of(STUCK).drawn(1, unlike), 3);
        int goes = seedOf(6, true, false);
        due("none comes behind one that goes", of(STUCK).drawn(1, goes), 2);
    }

    private static void drawnMost() {
        sentence("promise 29, 'how many DAYS there are then'");
        for (int n : new int[] {1, 59, 60}) {
            for (int teams = 4; teams <= 14; teams += 2) {
                dueAsByDeeds("teams " + teams + ";", n, teams * 48271);
                dueAsByDeeds(told(family(0, teams)), n, -teams * 69621);
            }
        }
    }

    private static void undoIsRefused() {
        sentence("promise 30, 'NONE: none is'");
        due("of a new object", new RoundDays().undo(), NONE);
        RoundDays x = of(FOUR);
        due("behind a text", x.undo(), NONE);
        due("days", days(x), days(of(FOUR)));
        x.drop(0);
        due("undo()", x.undo(), 0);
        due("undo() again", x.undo(), NONE);
        due("days", days(x), days(of(FOUR)));
        due("acts", x.now(5), 0);
    }

    private static void dueUndone(String act, String text, Consumer<RoundDays> done) {
        RoundDays x = of(text);
        String before = days(x);
        done.accept(x);
        due("acts behind " + act, x.now(5), 1);
        due("undo() of " + act, x.undo(), 0);
        due("days behind undo() of " + act, days(x), before);
        due("acts behind undo() of " + act, x.now(5), 0);
    }

    private static void undoOfEachAct() {
        sentence("promise 30, 'The latest .. is undone: how many more can be'");
        dueUndone("family()", FOUR, x -> x.family(0, 14));
        dueUndone("family() of none", "", x -> x.family(1, 6));
        dueUndone("family() that changes nothing", told(family(0, 8)), x -> x.family(0, 8));
        dueUndone("by()", FOUR, x -> x.by(13, 5));
        dueUndone("by() of none", "", x -> x.by(3, 0));
        dueUndone("tell()", "teams 4;day 0 1 2 3;", x -> tell(x, 3, 2, 1, 0));
        dueUndone("add(false)", TWO_OF_EIGHT, x -> x.add(false));
        dueUndone("add(true)", TWO_OF_EIGHT, x -> x.add(true));
        dueUndone("addAll(false)", TWO_OF_EIGHT, x -> x.addAll(false));
        dueUndone("addAll(true)", TWO_OF_EIGHT, x -> x.addAll(true));
        dueUndone("drop()", SIX_PERFECT, x -> x.drop(2));
        dueUndone("drop() to none left", "teams 4;day 0 1 2 3;", x -> x.drop(0));
        dueUndone("weed()", TWO_OF_EIGHT, x -> x.weed(9));
        dueUndone("name()", SIX_PERFECT, x -> x.name(0, 5));
        dueUndone("name() that answers 0", "teams 4;day 0 1 2 3;", x -> x.name(0, 1));
        dueUndone("sort()", "teams 4;day 0 2 1 3;day 0 1 2 3;", x -> x.sort());
        dueUndone("drawn()", SIX_PERFECT, x -> x.drawn(60, 5));
    }

    private static void undoPassesWhatIsNoAct() {
        sentence("promise 30, '.. that was not NONE, addAll(), weed(), sort() above 0, drawn() (of TEAMS)'");
        leaves("undo() ahead", x -> x.now(5), 1);
        refused("family(0, 5)", x -> x.family(0, 5));
        refused("by(4, 0)", x -> x.by(4, 0));
        refused("drop(9)", x -> x.drop(9));
        refused("name(1, 1)", x -> x.name(1, 1));
        refused("drawn(0, 0)", x -> x.drawn(0, 0));
        leaves("weed(0)", x -> x.weed(0), 0);
        leaves("sort() in order", x -> x.sort(), 0);
        leaves("restore(1)", x -> x.restore(1) ? 1 : 0, 0);
        leaves("image(2)", x -> x.image(2) ? 1 : 0, 0);
        RoundDays x = of(FOUR);
        x.drop(0);
        x.addAll(true);
        due("addAll() of none", x.addAll(true), 0);
        due("add() of none", x.add(false), NONE);
        due("tell() of none", x.tell(), NONE);
        x.image(0);
        feed(x, "abc");
        x.end(1);
        due("acts", x.now(5), 2);
        due("undo() of addAll()", x.undo(), 1);
        due("days", x.now(1), 2);
        due("the tape stays", x.now(6), 1);
    }

    private static void undoKeepsEight() {
        sentence("promise 30, '(8 at most are kept)'");
        for (int acts = 1; acts <= 13; acts++) {
            RoundDays x = family(0, 14);
            text(x, told(family(0, 14)));
            for (int i = 0; i < acts; i++) {
                x.drop(0);
            }
            int kept = Math.min(acts, 8);
            for (int i = 1; i <= kept; i++) {
                due("undo() " + i + " of " + acts, x.undo(), kept - i);
                due("days", x.now(1), 13 - acts + i);
                due("the day that came back", x.meets(0, 13), acts - i);
            }
            due("undo() of none more", x.undo(), NONE);
            due("days", x.now(1), 13 - acts + kept);
        }
    }

    /** Tells the schedules by starters of 7 and 9 and none from one another. */
    private static String mark(RoundDays x) {
        StringBuilder all = new StringBuilder();
        all.append(x.now(0));
        for (int team = 1; team <= 5; team++) {
            all.append(' ').append(x.meets(0, team));
        }
        return all.toString();
    }

    private static void actsByStarters(RoundDays x, Deque<String> ahead, int count, int from) {
        for (int i = from; i < from + count; i++) {
            ahead.push(mark(x));
            if (ahead.size() > 8) {
                ahead.removeLast();
            }
            x.by(i % 4 == 0 ? 7 : 9, i % 4 == 0 ? i / 4 % 3 : i % 9);
        }
    }

    private static void dueBack(RoundDays x, Deque<String> ahead, int count) {
        for (int i = 0; i < count; i++) {
            boolean any = !ahead.isEmpty();
            String want = any ? ahead.pop() : mark(x);
            due("undo()", x.undo(), any ? ahead.size() : NONE);
            due("days", mark(x), want);
        }
    }

    private static void undoWrapsRound() {
        sentence("promise 30: acts, undone and done anew, more than eight in all");
        for (int first = 0; first <= 18; first++) {
            for (int back = 0; back <= 9; back++) {
                for (int more = 0; more <= 9; more++) {
                    RoundDays x = new RoundDays();
                    Deque<String> ahead = new ArrayDeque<>();
                    actsByStarters(x, ahead, first, 0);
                    dueBack(x, ahead, back);
                    actsByStarters(x, ahead, more, 7);
                    dueBack(x, ahead, 9);
                }
            }
        }
    }

    private static void imageIsRefused() {
        sentence("promise 31, 'false: no such one'");
        leaves("image(2)", x -> x.image(2) ? 1 : 0, 0);
        for (int far : FAR) {
            leaves("image(" + far + ")", x -> x.image(far) ? 1 : 0, 0);
        }
    }

    private static void imageKeepsTeamsAndDays() {
        sentence("promise 31, 'TEAMS and DAYS are kept in place k (0, 1): true'");
        RoundDays x = of(SIX_PERFECT);
        String six = days(x);
        due("image(0)", x.image(0), true);
        due("an image is no act", x.now(5), 0);
        x.family(0, 14);
        String most = days(x);
        due("image(1)", x.image(1), true);
        x.name(0, 13);
        x.drop(5);
        x.sort();
        due("restore(0)", x.restore(0), true);
        due("days", days(x), six);
        x = of(SIX_PERFECT);
        x.family(0, 14);
        x.image(1);
        x.name(0, 13);
        x.drop(5);
        due("restore(1)", x.restore(1), true);
        due("days", days(x), most);
        x = of(FOUR);
        x.image(0);
        x.drop(0);
        due("image(0) anew", x.image(0), true);
        x.drop(0);
        x.restore(0);
        due("days of the latest image", x.now(1), 2);
        x.drop(0);
        x.image(1);
        x.restore(0);
        due("days of place 0", x.now(1), 2);
        x.restore(1);
        due("days of place 1", x.now(1), 1);
        x.text();
        due("images outlive a text", x.restore(0), true);
        due("days", x.now(1), 2);
        x = new RoundDays();
        due("image(1) without teams", x.image(1), true);
        x.family(0, 4);
        due("restore(1)", x.restore(1), true);
        due("days", days(x), "0:");
    }

    private static void restoreIsRefused() {
        sentence("promise 32, 'false: no such one, or nothing is kept there'");
        leaves("restore(1), where nothing is kept", x -> x.restore(1) ? 1 : 0, 0);
        leaves("restore(2)", x -> x.restore(2) ? 1 : 0, 0);
        for (int far : FAR) {
            leaves("restore(" + far + ")", x -> x.restore(far) ? 1 : 0, 0);
        }
        due("restore(0) of a new object", new RoundDays().restore(0), false);
        due("restore(1) of a new object", new RoundDays().restore(1), false);
    }

    private static void restoreLeavesTapeAndFault() {
        sentence("promise 32, '(the tape, what fault() tells, stays)'");
        RoundDays x = of(FOUR);
        x.image(0);
        text(x, FOUR + "day");
        feed(x, "teams 6;");
        due("restore(0)", x.restore(0), true);
        due("fault()", x.fault(), 4);
        due("bytes", x.now(6), 8);
        due("the bytes are as they were: text()", x.text(), 1);
        due("teams", x.now(0), 6);
        due("fault()", x.fault(), 0);
        due("restore(0)", x.restore(0), true);
        due("fault() stays 0", x.fault(), 0);
        due("days", days(x), days(of(FOUR)));
    }

    private static void restoreForgetsActs() {
        sentence("promise 32, '(.. nothing can be undone)'");
        RoundDays x = of(FOUR);
        x.image(1);
        for (int i = 0; i < 9; i++) {
            x.name(0, 1);
        }
        due("acts", x.now(5), 8);
        due("restore(1)", x.restore(1), true);
        due("acts", x.now(5), 0);
        due("undo()", x.undo(), NONE);
        due("days", days(x), days(of(FOUR)));
        x.drop(2);
        due("undo() of an act behind it", x.undo(), 0);
        due("undo() of those ahead of it", x.undo(), NONE);
        due("restore(1) again", x.restore(1), true);
        due("days", days(x), days(of(FOUR)));
    }

    private static void anObjectLastsFor512Calls() {
        sentence("'An object is used for at most 512 calls'");
        RoundDays x = new RoundDays();
        x.family(0, 14);
        x.weed(MAX);
        for (int i = 0; i < 254; i++) {
            due("drawn(60, i)", x.drawn(60, i) >= 0, true);
            x.undo();
        }
        due("the 511th call", x.now(1), 0);
        due("the 512th call", x.now(5), 2);
        x = of("teams 14;");
        // A tape looked at, fed, cut and read: four calls.
        for (int used = 4; used < 511; used++) {
            due("may() again and again", x.may(), 135135);
        }
        due("the 512th call", x.come(true, 13), 12);
    }
}

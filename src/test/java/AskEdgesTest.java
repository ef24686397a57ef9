import java.util.ArrayList;
import java.util.Arrays;
import java.util.List;

/** The edges of the calls that ask alone (promises 6 to 15, 17, 18, 20, 21) and of their terms, sentence by sentence. */
public final class AskEdgesTest extends Checks {
    private static final int[] FAR = {-1, -2, MIN, MAX, 64, 31, 32, 1 << 16};
    /** Pairs left among 0 to 4 and among 5 to 9, and 0 with 5 alone between them: these two must meet. */
    private static final String BRIDGE = "teams 10;day 0 1 2 5 3 6 4 7 8 9;day 0 2 1 6 3 8 4 9 5 7;"
        + "day 0 6 1 5 2 7 3 9 4 8;day 0 7 1 8 2 9 3 4 5 6;day 0 8 1 9 2 6 3 7 4 5;day 0 9 1 7 2 8 3 5 4 6;";

    public static void main(String[] args) {
        nowIsRefused();
        nowWhole();
        nowPerfect();
        nowPairs();
        nowActs();
        nowBytes();
        meetsIsRefused();
        meetsBothWays();
        metIsRefused();
        metOnNone();
        ringsAreRefused();
        ringsOfFewAndOfMany();
        ringsAreNumberedByTheirLeastTeams();
        ringThrows();
        ringThatThrowsChangesNothing();
        makeIsRefused();
        makeOfNoPairs();
        signIsRefused();
        signOfOneAlone();
        mayWithoutTeams();
        mayOfEmptyAndFull();
        comeIsRefused();
        comeWhereThereIsNone();
        comeGoesBack();
        comeBestOfNoDays();
        comeBestGoesBack();
        sureIsRefused();
        sureWhereNoDayMayCome();
        sureOfSome();
        startersAreRefused();
        startersLeastAndMost();
        starterIsRefused();
        startersInOrder();
        turnedWithoutTeams();
        turnedWithoutDays();
        turnedWrapsRound();
        alikeIsRefused();
        alikeOfOthers();
        askingChangesNothing();
        finish();
    }

    private static void nowIsRefused() {
        sentence("promise 6, 'NONE for another what'");
        refused("now(7)", x -> x.now(7));
        for (int what : FAR) {
            refused("now(" + what + ")", x -> x.now(what));
        }
    }

    private static void nowWhole() {
        sentence("promise 6, '2 whether WHOLE'; 'WHOLE: N less 1 DAYS'");
        due("without teams", new RoundDays().now(2), 0);
        for (int n = 4; n <= 14; n += 2) {
            due("without days", of("teams " + n + ";").now(2), 0);
            RoundDays x = family(0, n);
            due("of n less 1", x.now(2), 1);
            x.drop(0);
            due("of n less 2", x.now(2), 0);
        }
        due("stuck, not whole", of(STUCK).now(2), 0);
    }

    private static void nowPerfect() {
        sentence("promise 6, '3 PERFECT'; 'PERFECT .. if each two of its DAYS make ONE'");
        due("without teams", new RoundDays().now(3), 1);
        due("without days", of("teams 8;").now(3), 1);
        due("of one day", of("teams 8;day 0 1 2 3 4 5 6 7;").now(3), 1);
        due("of two days, two rings", of("teams 8;day 0 1 2 3 4 5 6 7;day 0 2 1 3 4 6 5 7;").now(3), 0);
        due("of two days, one ring", of("teams 8;day 0 1 2 3 4 5 6 7;day 0 2 1 4 3 6 5 7;").now(3), 1);
        due("of all pairs but one", of("teams 8;day 0 1 2 3 4 5 6 7;day 0 2 1 4 3 6 5 7;day 0 3 1 2 4 7 5 6;").now(3), 0);
        due("whole and perfect", family(0, 14).now(3), 1);
        due("whole, not perfect", family(0, 10).now(3), 0);
        due("whole, no two make one", of(EIGHT_BY_FOURS).now(3), 0);
    }

    private static void nowPairs() {
        sentence("promise 6, '4 PAIRS of DAYS that make ONE'");
        due("without teams", new RoundDays().now(4), 0);
        due("of one day", of("teams 4;day 0 1 2 3;").now(4), 0);
        due("of two", of("teams 4;day 0 1 2 3;day 0 2 1 3;").now(4), 1);
        due("none", of(EIGHT_BY_FOURS).now(4), 0);
        due("all", family(0, 14).now(4), 78);
        due("some", family(0, 10).now(4), 27);
    }

    private static void nowActs() {
        sentence("promise 6, '5 acts that can be undone'; promise 30, '8 at most are kept'");
        RoundDays x = of("teams 4;");
        for (int acts = 0; acts <= 20; acts++) {
            due("now(5)", x.now(5), Math.min(acts, 8));
            x.name(0, 1);
        }
        for (int left = 7; left >= 0; left--) {
            due("undo()", x.undo(), left);
            due("now(5)", x.now(5), left);
        }
        due("undo()", x.undo(), NONE);
        due("now(5)", x.now(5), 0);
    }

    private static void nowBytes() {
        sentence("promise 6, '6 bytes of the tape'");
        RoundDays x = new RoundDays();
        due("now(6)", x.now(6), 0);
        for (int i = 1; i <= 40; i++) {
            x.feed(i, i, i, i, i);
            due("now(6)", x.now(6), Math.min(20 * i, 740));
        }
        x.end(739);
        due("now(6)", x.now(6), 739);
        x.end(1);
        due("now(6)", x.now(6), 1);
    }

    private static void meetsIsRefused() {
        sentence("promise 7, 'NONE: no such ones'");
        refused("meets(4, 0) of four days", x -> x.meets(4, 0));
        refused("meets(0, 6) of six teams", x -> x.meets(0, 6));
        for (int far : FAR) {
            refused("meets(" + far + ", 0)", x -> x.meets(far, 0));
            refused("meets(0, " + far + ")", x -> x.meets(0, far));
            refused("meets(" + far + ", " + far + ")", x -> x.meets(far, far));
        }
        due("without days", of("teams 6;").meets(0, 0), NONE);
        due("without teams", new RoundDays().meets(0, 0), NONE);
        RoundDays full = family(0, 14);
        due("meets(12, 13)", full.meets(12, 13), 12);
        due("meets(12, 14)", full.meets(12, 14), NONE);
        due("meets(13, 13)", full.meets(13, 13), NONE);
        full.drop(12);
        due("meets(12, 13) of a day that went", full.meets(12, 13), NONE);
        full.family(0, 12);
        due("meets(11, 0) of fewer teams", full.meets(11, 0), NONE);
        due("meets(0, 12) of fewer teams", full.meets(0, 12), NONE);
    }

    private static void meetsBothWays() {
        sentence("promise 7, 'Whom a TEAM meets on a DAY'; 'A DAY pairs all TEAMS'");
        RoundDays x = of("teams 14;day 13 0 12 1 11 2 10 3 9 4 8 5 7 6;");
        for (int team = 0; team < 14; team++) {
            due("meets(0, " + team + ")", x.meets(0, team), 13 - team);
        }
    }

    private static void metIsRefused() {
        sentence("promise 8, 'NONE: .. no such ones, one alone'");
        for (int team = 0; team < 6; team++) {
            int same = team;
            refused("met of one alone", x -> x.met(same, same));
            refused("met of team 6", x -> x.met(same, 6));
            refused("met of team 6", x -> x.met(6, same));
            for (int far : FAR) {
                refused("met(" + team + ", " + far + ")", x -> x.met(same, far));
                refused("met(" + far + ", " + team + ")", x -> x.met(far, same));
            }
        }
        refused("met(-1, -1)", x -> x.met(-1, -1));
        refused("met(6, 6)", x -> x.met(6, 6));
        // No pair of no teams: NONE is what meets() answers of them, and it must not be taken for a team.
        due("met(0, -1) without teams", new RoundDays().met(0, -1), NONE);
    }

    private static void metOnNone() {
        sentence("promise 8, 'On which DAY two TEAMS meet; NONE: on none'");
        RoundDays x = of("teams 4;day 0 1 2 3;day 0 2 1 3;");
        due("met(0, 3)", x.met(0, 3), NONE);
        due("met(2, 1)", x.met(2, 1), NONE);
        due("met(3, 2)", x.met(3, 2), 0);
        due("met(3, 1)", x.met(3, 1), 1);
        due("without days", of("teams 4;").met(0, 1), NONE);
        RoundDays full = family(0, 14);
        due("on the last day", full.met(13, 12), 12);
        due("on the first day", full.met(0, 13), 0);
        full.drop(0);
        due("on a day that went", full.met(0, 13), NONE);
        due("on a day now one less", full.met(13, 12), 11);
    }

    private static void ringsAreRefused() {
        sentence("promise 9, 'NONE: no such ones, one alone'");
        for (int day = 0; day < 4; day++) {
            int same = day;
            refused("rings of one alone", x -> x.rings(same, same));
            refused("rings(" + day + ", 4)", x -> x.rings(same, 4));
            refused("rings(4, " + day + ")", x -> x.rings(4, same));
            for (int far : FAR) {
                refused("rings(" + day + ", " + far + ")", x -> x.rings(same, far));
                refused("rings(" + far + ", " + day + ")", x -> x.rings(far, same));
            }
        }
        refused("rings(-1, -1)", x -> x.rings(-1, -1));
        due("of the only day", of("teams 4;day 0 1 2 3;").rings(0, 0), NONE);
        due("without days", of("teams 4;").rings(0, 1), NONE);
    }

    private static void ringsOfFewAndOfMany() {
        sentence("promise 9, 'RINGS of two DAYS: how many'");
        RoundDays four = of(FOUR);
        due("least teams", four.rings(0, 1), 1);
        due("least teams", four.rings(2, 0), 1);
        due("two", of(EIGHT_BY_FOURS).rings(0, 6), 2);
        RoundDays most = of("teams 14;day 0 1 2 3 4 5 6 7 8 9 10 11 12 13;day 0 2 1 3 4 6 5 7 8 10 9 12 11 13;");
        due("most: 4, 4 and 6", most.rings(0, 1), 3);
        due("most: 4, 4 and 6", most.rings(1, 0), 3);
        due("one of fourteen", family(0, 14).rings(0, 12), 1);
    }

    private static void ringsAreNumberedByTheirLeastTeams() {
        sentence("promise 10, 'The i-th (from 0) of them: its TEAMS'; RINGS, 'numbered by their least TEAMS'");
        RoundDays x = of("teams 14;day 13 12 11 10 9 8 7 6 5 4 3 2 1 0;day 13 11 12 10 9 7 8 6 5 3 4 1 2 0;");
        // Rings 10 to 13, 6 to 9, 0 to 5, told from the last: the least team counts, not the order of telling.
        due("ring(0, 1, 0)", ring(x, 0, 1, 0), 0x003f);
        due("ring(0, 1, 1)", ring(x, 0, 1, 1), 0x03c0);
        due("ring(0, 1, 2)", ring(x, 0, 1, 2), 0x3c00);
        due("ring(1, 0, 2)", ring(x, 1, 0, 2), 0x3c00);
        due("ring(0, 1, 3)", ring(x, 0, 1, 3), THROWN);
        // The ring of team 0 is not of the lowest teams alone.
        x = of("teams 8;day 0 7 1 6 2 5 3 4;day 0 4 3 7 1 5 2 6;");
        due("rings(0, 1)", x.rings(0, 1), 2);
        due("ring(0, 1, 0)", ring(x, 0, 1, 0), 1 | 1 << 7 | 1 << 3 | 1 << 4);
        due("ring(0, 1, 1)", ring(x, 0, 1, 1), 1 << 1 | 1 << 6 | 1 << 2 | 1 << 5);
        // Team 2 stands on the first ring, behind the second one's least team.
        x = of("teams 12;day 0 2 6 9 1 4 7 10 3 5 8 11;day 2 9 0 6 4 10 1 7 5 11 3 8;");
        due("rings(0, 1)", x.rings(0, 1), 3);
        due("ring(0, 1, 0)", ring(x, 0, 1, 0), 1 | 1 << 2 | 1 << 6 | 1 << 9);
        due("ring(0, 1, 1)", ring(x, 0, 1, 1), 1 << 1 | 1 << 4 | 1 << 7 | 1 << 10);
        due("ring(0, 1, 2)", ring(x, 0, 1, 2), 1 << 3 | 1 << 5 | 1 << 8 | 1 << 11);
        due("ring(0, 1, 3)", ring(x, 0, 1, 3), THROWN);
        due("all fourteen", ring(family(0, 14), 3, 12, 0), 0x3fff);
        due("all four", ring(of(FOUR), 0, 1, 0), 0xf);
    }

    private static void ringThrows() {
        sentence("promise 10, 'NoSuchElementException: none such'");
        RoundDays x = of(EIGHT_BY_FOURS);
        due("ring(0, 1, 1)", ring(x, 0, 1, 1), 0xf0);
        for (int i : new int[] {2, 3, 7, 8, -1, MIN, MAX}) {
            due("ring(0, 1, " + i + ")", ring(x, 0, 1, i), THROWN);
        }
        due("one day", ring(x, 0, 0, 0), THROWN);
        due("no such day", ring(x, 0, 7, 0), THROWN);
        due("no such day", ring(x, 7, 0, 0), THROWN);
        for (int far : FAR) {
            due("no such day", ring(x, 0, far, 0), THROWN);
            due("no such day", ring(x, far, 0, 0), THROWN);
            due("no such days", ring(x, far, far, 0), THROWN);
            due("no such days, no such ring", ring(x, far, -1, far), THROWN);
        }
        due("without teams", ring(new RoundDays(), 0, 1, 0), THROWN);
        due("without days", ring(of("teams 4;"), 0, 1, 0), THROWN);
    }

    private static void ringThatThrowsChangesNothing() {
        sentence("'A call that throws changes nothing'");
        leaves("ring(0, 1, 1)", x -> ring(x, 0, 1, 1), THROWN);
        leaves("ring(0, 1, -1)", x -> ring(x, 0, 1, -1), THROWN);
        leaves("ring(0, 0, 0)", x -> ring(x, 0, 0, 0), THROWN);
        leaves("ring(0, 4, 0)", x -> ring(x, 0, 4, 0), THROWN);
        leaves("ring(-1, 0, 0)", x -> ring(x, -1, 0, 0), THROWN);
        leaves("ring(min, max, min)", x -> ring(x, MIN, MAX, MIN), THROWN);
    }

    private static void makeIsRefused() {
        sentence("promise 11, 'n RINGS (1 to 7); NONE: no such n'");
        refused("make(0)", x -> x.make(0));
        refused("make(8)", x -> x.make(8));
        for (int far : FAR) {
            refused("make(" + far + ")", x -> x.make(far));
        }
        leaves("make(7)", x -> x.make(7), 0);
        leaves("make(1)", x -> x.make(1), 6);
    }

    private static void makeOfNoPairs() {
        sentence("promise 11, 'How many PAIRS of DAYS make n RINGS'");
        RoundDays[] none = {new RoundDays(), of("teams 14;"), of("teams 4;day 0 1 2 3;")};
        for (RoundDays x : none) {
            for (int n = 1; n <= 7; n++) {
                due("make(" + n + ") of no pairs of days", x.make(n), 0);
            }
        }
        int[] tens = {27, 9, 0, 0, 0, 0, 0};
        for (int n = 1; n <= 7; n++) {
            due("make(" + n + ")", family(0, 10).make(n), tens[n - 1]);
            due("make(" + n + ")", of(EIGHT_BY_FOURS).make(n), n == 2 ? 21 : 0);
        }
        due("make(3)", of("teams 14;day 0 1 2 3 4 5 6 7 8 9 10 11 12 13;day 0 2 1 3 4 6 5 7 8 10 9 12 11 13;").make(3), 1);
    }

    private static void signIsRefused() {
        sentence("promise 12, 'NONE: no such one'");
        refused("sign(4) of four days", x -> x.sign(4));
        for (int far : FAR) {
            refused("sign(" + far + ")", x -> x.sign(far));
        }
        due("without days", of("teams 4;").sign(0), NONE);
        due("sign(13) of thirteen", family(0, 14).sign(13), NONE);
        due("sign(12) of thirteen", family(0, 14).sign(12), 12);
    }

    private static void signOfOneAlone() {
        sentence("promise 12; 'SIGN of a DAY: with how many others it makes ONE'");
        due("of one alone", of("teams 4;day 0 1 2 3;").sign(0), 0);
        due("with none", of(EIGHT_BY_FOURS).sign(3), 0);
        due("with all", family(0, 14).sign(0), 12);
        // Days 0 and 2 alone make two rings.
        RoundDays x = of("teams 8;day 0 1 2 3 4 5 6 7;day 0 2 1 4 3 6 5 7;day 0 3 1 2 4 7 5 6;");
        due("rings(0, 2)", x.rings(0, 2), 2);
        due("sign(0)", x.sign(0), 1);
        due("sign(1)", x.sign(1), 2);
        due("sign(2)", x.sign(2), 1);
    }

    private static void mayWithoutTeams() {
        sentence("promise 13, '(none without TEAMS)'");
        due("may()", new RoundDays().may(), 0);
        RoundDays x = of(FOUR);
        x.text();
        due("may() behind an empty text", x.may(), 0);
    }

    private static void mayOfEmptyAndFull() {
        sentence("promise 13, 'How many DAYS MAY COME'; 'A DAY MAY COME, if no PAIR of it has met'");
        int all = 1;
        for (int n = 4; n <= 14; n += 2) {
            all *= n - 1;
            due("may() of " + n + " without days", of("teams " + n + ";").may(), all);
            RoundDays x = family(0, n);
            due("may() of a whole one of " + n, x.may(), 0);
            x.drop(n / 2);
            due("may() where the pairs of one day are left", x.may(), 1);
            x.drop(n / 2 - 1);
            due("may() of pairs left that make one ring", x.may(), 2);
        }
        due("may() of a stuck one", of(STUCK).may(), 0);
        due("may() of two rings left", twoRingsLeft().may(), 4);
    }

    /** The pairs of two days that make two rings are left: each ring may be paired in two ways. */
    private static RoundDays twoRingsLeft() {
        RoundDays x = of(EIGHT_BY_FOURS);
        x.drop(6);
        x.drop(5);
        return x;
    }

    private static void comeIsRefused() {
        sentence("promise 14, 'NONE: .. no such TEAM'");
        refused("come(false, 6) of six", x -> x.come(false, 6));
        refused("come(true, 6) of six", x -> x.come(true, 6));
        for (int far : FAR) {
            refused("come(false, " + far + ")", x -> x.come(false, far));
            refused("come(true, " + far + ")", x -> x.come(true, far));
        }
        leaves("come(false, 5)", x -> x.come(false, 5), 1);
        leaves("come(true, 0)", x -> x.come(true, 0), 3);
    }

    private static void comeWhereThereIsNone() {
        sentence("promise 14, 'NONE: there is none'");
        RoundDays[] none = {new RoundDays(), of(FOUR), family(0, 14), of(STUCK)};
        for (RoundDays x : none) {
            for (int team = 0; team < 4; team++) {
                due("come(false, " + team + ")", x.come(false, team), NONE);
                due("come(true, " + team + ")", x.come(true, team), NONE);
            }
        }
        // There is a FIRST, but it makes two rings with each day: no BEST.
        RoundDays x = of(EIGHT_BY_FOURS);
        x.drop(6);
        for (int team = 0; team < 8; team++) {
            due("FIRST", x.come(false, team), 7 - team);
            due("BEST", x.come(true, team), NONE);
        }
    }

    private static void comeGoesBack() {
        sentence("promise 14; 'DAYS in order: TEAM by TEAM the least'; 'FIRST: the first that MAY COME'");
        // Team 0 has not met 3 and 4, nor 1 team 2, nor 6 team 7, but with these the others can't all be paired.
        RoundDays x = of(BRIDGE);
        int[] first = {5, 3, 4, 1, 2, 0, 8, 9, 6, 7};
        int[][] passed = {{0, 3}, {0, 4}, {1, 2}, {6, 7}};
        for (int[] pair : passed) {
            due("met(" + pair[0] + ", " + pair[1] + ")", x.met(pair[0], pair[1]), NONE);
        }
        for (int team = 0; team < 10; team++) {
            due("FIRST of " + team, x.come(false, team), first[team]);
        }
        int[] least = {1, 0, 3, 2, 5, 4, 7, 6, 9, 8, 11, 10, 13, 12};
        RoundDays free = of("teams 14;");
        for (int team = 0; team < 14; team++) {
            due("FIRST of all", free.come(false, team), least[team]);
        }
    }

    private static void comeBestOfNoDays() {
        sentence("promise 14; 'BEST: the first that MAY COME and makes ONE with each DAY there is'");
        for (int n = 4; n <= 14; n += 2) {
            RoundDays x = of("teams " + n + ";");
            for (int team = 0; team < n; team++) {
                due("BEST without days is FIRST", x.come(true, team), x.come(false, team));
            }
        }
        RoundDays one = of("teams 8;day 0 1 2 3 4 5 6 7;");
        int[] best = {2, 4, 0, 6, 1, 7, 3, 5};
        for (int team = 0; team < 8; team++) {
            due("BEST of " + team, one.come(true, team), best[team]);
        }
        // The last day of a whole one is FIRST and BEST, if it makes ONE with all, and FIRST alone, if not with all.
        RoundDays x = family(0, 14);
        x.drop(0);
        due("BEST of the last day", x.come(true, 13), 0);
        x.family(0, 10);
        x.drop(0);
        due("FIRST of the last day", x.come(false, 9), 0);
        due("no BEST of the last day", x.come(true, 9), NONE);
    }

    /** All days of some teams, in order. */
    private static void allDays(int[] row, int from, List<int[]> all) {
        int a = from;
        while (a < row.length && row[a] != NONE) {
            a++;
        }
        if (a == row.length) {
            all.add(row.clone());
            return;
        }
        for (int b = a + 1; b < row.length; b++) {
            if (row[b] == NONE) {
                row[a] = b;
                row[b] = a;
                allDays(row, a + 1, all);
                row[a] = NONE;
                row[b] = NONE;
            }
        }
    }

    private static boolean makeOne(int[] d, int[] e) {
        int length = 0;
        int at = 0;
        do {
            at = e[d[at]];
            length += 2;
        } while (at != 0);
        return length == d.length;
    }

    /** The first day of all that shares no pair with the days there are and makes ONE with each. */
    private static int[] bestOf(List<int[]> all, List<int[]> days) {
        for (int[] day : all) {
            boolean good = true;
            for (int[] other : days) {
                for (int team = 0; team < day.length; team++) {
                    good &= day[team] != other[team];
                }
                good = good && makeOne(day, other);
            }
            if (good) {
                return day;
            }
        }
        return null;
    }

    private static void comeBestGoesBack() {
        sentence("promise 14; BEST, where the first ways to pair end in none");
        for (int n = 8; n <= 10; n += 2) {
            List<int[]> all = new ArrayList<>();
            int[] free = new int[n];
            Arrays.fill(free, NONE);
            allDays(free, 0, all);
            // Each start is a day of all; BEST comes as long as there is one.
            for (int start = 0; start < all.size(); start += n == 8 ? 5 : 41) {
                RoundDays x = of("teams " + n + ";");
                List<int[]> days = new ArrayList<>();
                int[] next = all.get(start);
                while (next != null) {
                    days.add(next);
                    due("days", tell(x, next), days.size());
                    next = bestOf(all, days);
                    for (int team = 0; team < n; team++) {
                        due("BEST behind " + days.size() + " days", x.come(true, team), next == null ? NONE : next[team]);
                    }
                }
            }
        }
    }

    private static void sureIsRefused() {
        sentence("promise 15, 'NONE: .. no such TEAM'");
        refused("sure(6) of six", x -> x.sure(6));
        for (int far : FAR) {
            refused("sure(" + far + ")", x -> x.sure(far));
        }
        leaves("sure(0)", x -> x.sure(0), 3);
        leaves("sure(5)", x -> x.sure(5), 1);
    }

    private static void sureWhereNoDayMayCome() {
        sentence("promise 15, 'NONE: none such'");
        RoundDays[] none = {new RoundDays(), of(FOUR), family(0, 14), of(STUCK), of("teams 4;"), of("teams 14;")};
        for (RoundDays x : none) {
            for (int team = 0; team < 4; team++) {
                due("sure(" + team + ")", x.sure(team), NONE);
            }
        }
        for (int team = 0; team < 8; team++) {
            due("sure(" + team + ") of two rings left", twoRingsLeft().sure(team), NONE);
        }
    }

    private static void sureOfSome() {
        sentence("promise 15, 'Whom a TEAM meets on each DAY that MAY COME'");
        RoundDays x = of(BRIDGE);
        for (int team = 0; team < 10; team++) {
            due("sure(" + team + ")", x.sure(team), team == 0 ? 5 : team == 5 ? 0 : NONE);
        }
        due("may() behind sure()", x.may(), 4);
        RoundDays last = family(0, 14);
        last.drop(12);
        for (int team = 0; team < 14; team++) {
            due("sure(" + team + ") of one day left", last.sure(team), family(0, 14).meets(12, team));
        }
    }

    private static void startersAreRefused() {
        sentence("promise 17, 'NONE: not as told'; STARTERS, 'an odd m (3 to 13)'");
        for (int m : new int[] {-3, -1, 0, 1, 2, 4, 6, 8, 10, 12, 14, 15, 17, 35, MIN, MAX, MIN + 1, MAX - 1}) {
            refused("starters(" + m + ", 0)", x -> x.starters(m, 0));
            refused("starters(" + m + ", 1)", x -> x.starters(m, 1));
        }
        for (int m = 3; m <= 13; m += 2) {
            int odd = m;
            for (int what : new int[] {-1, 2, 3, MIN, MAX}) {
                refused("starters(" + m + ", " + what + ")", x -> x.starters(odd, what));
            }
        }
    }

    private static void startersLeastAndMost() {
        sentence("promise 17, 'How many STARTERS of m there are (what 0), how many by which a schedule is PERFECT (1)'");
        int[] all = {1, 1, 3, 9, 25, 133};
        for (int m = 3; m <= 13; m += 2) {
            int odd = m;
            leaves("starters(" + m + ", 0)", x -> x.starters(odd, 0), all[(m - 3) / 2]);
            int perfect = 0;
            for (int k = 0; k < all[(m - 3) / 2]; k++) {
                RoundDays x = new RoundDays();
                due("by(" + m + ", " + k + ")", x.by(m, k), m);
                perfect += x.now(3);
            }
            int want = perfect;
            leaves("starters(" + m + ", 1)", x -> x.starters(odd, 1), want);
        }
        due("none at all of 9", new RoundDays().starters(9, 1), 0);
        due("one of 13", new RoundDays().starters(13, 1), 1);
    }

    private static void starterIsRefused() {
        sentence("promise 18, 'a number (1 to m less 1). NONE: none such, not as told'");
        int[] all = {1, 1, 3, 9, 25, 133};
        for (int m = 3; m <= 13; m += 2) {
            int odd = m;
            int count = all[(m - 3) / 2];
            for (int number : new int[] {0, m, m + 1, 13, 14, -1, MIN, MAX}) {
                if (number < 1 || number >= m) {
                    refused("starter(" + m + ", 0, " + number + ")", x -> x.starter(odd, 0, number));
                }
            }
            for (int k : new int[] {count, count + 1, -1, MIN, MAX}) {
                refused("starter(" + m + ", " + k + ", 1)", x -> x.starter(odd, k, 1));
            }
            leaves("the last one pairs 1 with m less 1", x -> x.starter(odd, count - 1, 1), m - 1);
            leaves("and m less 1 with 1", x -> x.starter(odd, count - 1, odd - 1), 1);
        }
        for (int m : new int[] {-1, 0, 1, 2, 4, 12, 14, 15, MIN, MAX}) {
            refused("starter(" + m + ", 0, 1)", x -> x.starter(m, 0, 1));
        }
    }

    private static void startersInOrder() {
        sentence("promise 18; STARTERS, 'all differences .. unlike'; 'in order: number by number the least'");
        int[] all = {1, 1, 3, 9, 25, 133};
        for (int m = 3; m <= 13; m += 2) {
            List<Integer> before = new ArrayList<>();
            for (int k = 0; k < all[(m - 3) / 2]; k++) {
                RoundDays x = new RoundDays();
                List<Integer> row = new ArrayList<>();
                int differences = 0;
                for (int number = 1; number < m; number++) {
                    int other = x.starter(m, k, number);
                    due("the other one's other one", x.starter(m, k, other), number);
                    differences |= 1 << Math.floorMod(other - number, m);
                    row.add(other);
                }
                due("differences", differences, (1 << m) - 2);
                due("row " + k + " of " + m + " comes behind the one ahead", isAhead(before, row), true);
                before = row;
            }
        }
    }

    private static boolean isAhead(List<Integer> a, List<Integer> b) {
        for (int i = 0; i < a.size(); i++) {
            if (!a.get(i).equals(b.get(i))) {
                return a.get(i) < b.get(i);
            }
        }
        return a.isEmpty();
    }

    private static void turnedWithoutTeams() {
        sentence("promise 20, 'NONE: no TEAMS'");
        due("turned()", new RoundDays().turned(), NONE);
        RoundDays x = of(FOUR);
        x.text();
        due("turned() behind an empty text", x.turned(), NONE);
    }

    private static void turnedWithoutDays() {
        sentence("promise 20; TURNS, 'c (0 to N less 2)'");
        for (int n = 4; n <= 14; n += 2) {
            due("turned() without days", of("teams " + n + ";").turned(), (1 << n - 1) - 1);
            due("turned() of family 0", family(0, n).turned(), (1 << n - 1) - 1);
            RoundDays x = family(0, n);
            x.drop(n - 2);
            due("turned() by 0 alone", x.turned(), 1);
        }
    }

    private static void turnedWrapsRound() {
        sentence("promise 20; TURNS, 'each TEAM below N less 1 being c more (modulo N less 1), the last one itself'");
        // Days 0, 3, 6 of the wheel of nine become one another by 3 and 6.
        RoundDays x = family(0, 10);
        for (int day : new int[] {8, 7, 5, 4, 2, 1}) {
            x.drop(day);
        }
        due("turned()", x.turned(), 1 | 1 << 3 | 1 << 6);
        x.sort();
        due("turned() in another order", x.turned(), 1 | 1 << 3 | 1 << 6);
        x.drop(0);
        due("turned() of two of them", x.turned(), 1);
        RoundDays one = of("teams 4;day 0 3 1 2;");
        due("turned() of one day", one.turned(), 1);
        RoundDays odd = family(0, 6);
        odd.name(0, 5);
        due("turned() of other names", odd.turned(), turnsAsTold(odd));
        odd.name(1, 2);
        due("turned() of other names", odd.turned(), turnsAsTold(odd));
    }

    private static int turnsAsTold(RoundDays x) {
        int n = x.now(0);
        int[][] rows = new int[x.now(1)][n];
        for (int day = 0; day < rows.length; day++) {
            for (int team = 0; team < n; team++) {
                rows[day][team] = x.meets(day, team);
            }
        }
        int bits = 0;
        for (int c = 0; c < n - 1; c++) {
            boolean all = true;
            for (int[] row : rows) {
                boolean any = false;
                for (int[] other : rows) {
                    any |= becomes(row, other, c);
                }
                all &= any;
            }
            bits |= all ? 1 << c : 0;
        }
        return bits;
    }

    private static boolean becomes(int[] row, int[] other, int c) {
        int last = row.length - 1;
        boolean same = true;
        for (int team = 0; team <= last; team++) {
            int turned = team == last ? team : (team + c) % last;
            same &= other[turned] == (row[team] == last ? last : (row[team] + c) % last);
        }
        return same;
    }

    private static void alikeIsRefused() {
        sentence("promise 21, 'NONE: no such place, nothing is kept there'");
        refused("alike(1), where nothing is kept", x -> x.alike(1));
        refused("alike(2)", x -> x.alike(2));
        for (int far : FAR) {
            refused("alike(" + far + ")", x -> x.alike(far));
        }
        RoundDays x = new RoundDays();
        due("alike(0)", x.alike(0), NONE);
        x.image(1);
        due("alike(0)", x.alike(0), NONE);
        due("alike(1)", x.alike(1), 1);
        x.image(0);
        due("alike(0)", x.alike(0), 1);
    }

    private static void alikeOfOthers() {
        sentence("promise 21; 'MAY BE ALIKE: as many TEAMS, DAYS, and the same PROFILE'");
        RoundDays x = new RoundDays();
        x.image(0);
        text(x, "teams 4;");
        due("teams against none", x.alike(0), 0);
        x.image(0);
        text(x, "teams 6;");
        due("other teams, no days", x.alike(0), 0);
        x.image(1);
        due("as many teams, no days", x.alike(1), 1);
        x.add(false);
        due("a day against none", x.alike(1), 0);
        x.image(1);
        x.name(0, 2);
        due("other names", x.alike(1), 1);
        x.drop(0);
        due("no day against one", x.alike(1), 0);
        x.family(0, 14);
        x.image(1);
        x.family(1, 14);
        due("both whole and perfect", x.alike(1), 1);
        x.family(0, 10);
        x.image(0);
        x.family(1, 10);
        due("one perfect, one not", x.alike(0), 0);
        x.restore(0);
        x.sort();
        due("other order", x.alike(0), 1);
    }

    private static void askingChangesNothing() {
        sentence("calls that ask change nothing");
        RoundDays x = busy();
        String before = seen(x);
        for (int i = -1; i < 4; i++) {
            x.now(i);
            x.make(i);
            x.sign(i);
            x.sure(i);
            x.come(true, i);
            x.come(false, i);
            x.rings(0, i);
            ring(x, 0, 1, i);
            x.starters(7, i);
            x.starter(7, i, 1);
            x.alike(i);
            x.met(0, i);
        }
        x.may();
        x.turned();
        x.fault();
        due("all", seen(x), before);
    }
}

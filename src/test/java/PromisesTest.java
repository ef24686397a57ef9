import java.lang.reflect.Constructor;
import java.lang.reflect.Field;
import java.lang.reflect.Method;
import java.lang.reflect.Modifier;
import java.util.Set;
import java.util.TreeSet;

/** Promise by promise: ordinary inputs, the edges that the document names, wrong inputs. */
public final class PromisesTest extends Checks {
    public static void main(String[] args) {
        face();
        newObject();
        tape();
        textGood();
        textFaults();
        textLong();
        nowAndMeets();
        rings();
        coming();
        families();
        starters();
        turnedAndAlike();
        telling();
        adding();
        dropWeedName();
        sorting();
        drawing();
        undoing();
        images();
        finish();
    }

    private static void face() {
        sentence("promise 0");
        Set<String> names = new TreeSet<>();
        for (Method m : RoundDays.class.getDeclaredMethods()) {
            if (!Modifier.isPrivate(m.getModifiers())) {
                due("public " + m.getName(), Modifier.isPublic(m.getModifiers()), true);
                due("two of the name " + m.getName(), names.add(m.getName()), true);
            }
        }
        due("methods of the face", names.size(), 31);
        for (Field f : RoundDays.class.getDeclaredFields()) {
            due("private " + f.getName(), Modifier.isPrivate(f.getModifiers()), !f.getName().equals("NONE"));
        }
        for (Constructor<?> c : RoundDays.class.getDeclaredConstructors()) {
            due("a constructor's parameters", c.getParameterCount(), 0);
        }
        due("final class", Modifier.isFinal(RoundDays.class.getModifiers()), true);
        due("NONE", RoundDays.NONE, -1);
    }

    private static void newObject() {
        sentence("promise 1");
        RoundDays x = new RoundDays();
        int[] want = {0, 0, 0, 1, 0, 0, 0, NONE};
        for (int what = 0; what < want.length; what++) {
            due("now(" + what + ")", x.now(what), want[what]);
        }
        due("fault()", x.fault(), 0);
        due("may()", x.may(), 0);
        due("turned()", x.turned(), NONE);
        due("addAll(false)", x.addAll(false), 0);
        due("add(false)", x.add(false), NONE);
        due("come(true, 0)", x.come(true, 0), NONE);
        due("undo()", x.undo(), NONE);
    }

    private static void tape() {
        sentence("promise 2");
        RoundDays x = new RoundDays();
        for (int i = 1; i <= 37; i++) {
            due("feed " + i, x.feed(0, 0, 0, 0, 0), 20 * i);
        }
        due("feed beyond 740", x.feed(0, 0, 0, 0, 0), NONE);
        due("tape", x.now(6), 740);
        sentence("promise 3");
        due("end(741)", x.end(741), false);
        due("end(-1)", x.end(-1), false);
        due("end(740)", x.end(740), true);
        due("end(721)", x.end(721), true);
        sentence("promise 2");
        due("feed at 721", x.feed(0, 0, 0, 0, 0), NONE);
        sentence("promise 3");
        due("end(720)", x.end(720), true);
        sentence("promise 2");
        due("feed at 720", x.feed(0, 0, 0, 0, 0), 740);
        sentence("promise 3");
        due("end(0)", x.end(0), true);
        due("end(1)", x.end(1), false);
        due("tape", x.now(6), 0);
        sentence("promise 2");
        x = of("teams 4;");
        // All five numbers, the highest byte first: a row of twenty bytes is told of no four teams.
        due("feed", x.feed(0x01000302, 0x01000302, 0x01000302, 0x01000302, 0x01000302), 20);
        due("tell() of twenty", x.tell(), NONE);
        x = of("teams 14;");
        due("feed", x.feed(0x01000302, 0x05040706, 0x09080b0a, 0x0d0c0000, -1), 20);
        due("end(14)", x.end(14), true);
        due("tell()", x.tell(), 1);
        dueDay(x, 0, 1, 0, 3, 2, 5, 4, 7, 6, 9, 8, 11, 10, 13, 12);
    }

    private static void textGood() {
        sentence("promise 4");
        RoundDays x = of(FOUR);
        due("teams", x.now(0), 4);
        due("days", x.now(1), 3);
        due("tape", x.now(6), 0);
        dueDay(x, 2, 3, 2, 1, 0);
        due("lines", text(x, FOUR), 4);
        due("lines of blanks", text(x, " \n "), 0);
        due("teams", x.now(0), 0);
        due("lines", text(x, "teams 04;\n\n  day\n03 0 1 02 ;"), 2);
        dueDay(x, 0, 3, 2, 1, 0);
        due("lines, no blanks where none must be", text(x, "teams\n14;day 0 1 2 3 4 5 6 7 8 9 10 11 12 13;"), 2);
        due("teams", x.now(0), 14);
        due("lines of an empty tape", x.text(), 0);
        due("teams", x.now(0), 0);
        due("days", x.now(1), 0);
        sentence("promise 5");
        due("fault()", x.fault(), 0);
        text(x, "teams 5;");
        due("fault()", x.fault(), 2);
        x.family(0, 4);
        due("fault() stays", x.fault(), 2);
        text(x, "x");
        due("fault()", x.fault(), 1);
        text(x, "teams 8;");
        due("fault() behind a good one", x.fault(), 0);
        sentence("promise 4");
        x = of(FOUR);
        x.drop(0);
        due("acts", x.now(5), 1);
        text(x, "teams 5;");
        due("acts stay with a fault", x.now(5), 1);
        text(x, FOUR);
        due("acts of a new text", x.now(5), 0);
        x.drop(0);
        x.text();
        due("acts of an empty text", x.now(5), 0);
    }

    private static void textFaults() {
        sentence("promise 5");
        dueFault("day 0 1 2 3;", 0, 1);
        dueFault("team 4;", 0, 1);
        dueFault("teams4;", 0, 1);
        dueFault("  Teams 4;", 2, 1);
        dueFault("teams;", 5, 1);
        dueFault("teams teams 4;", 6, 1);
        dueFault(";", 0, 1);
        dueFault("4", 0, 1);
        dueFault("teams 4 ", 8, 1);
        dueFault("teams", 5, 1);
        dueFault("teams 4 4;", 8, 1);
        dueFault("teams 4;;", 8, 1);
        dueFault("teams 4;teams 4;", 8, 1);
        dueFault("teams\t4;", 5, 1);
        dueFault("teams\r\n4;", 5, 1);
        dueFault("teams 004;", 6, 1);
        dueFault("teams 4a;", 6, 1);
        dueFault("teams -4;", 6, 1);
        dueFault("teams 2;", 6, 2);
        dueFault("teams 0;", 6, 2);
        dueFault("teams 7;", 6, 2);
        dueFault("teams 15;", 6, 2);
        dueFault("teams 16;", 6, 2);
        dueFault("teams 99", 6, 2);
        dueFault("teams 4;day;", 11, 1);
        dueFault("teams 4;day0 1 2 3;", 8, 1);
        dueFault("teams 4;days 0 1 2 3;", 8, 1);
        dueFault("teams 4;dayz 0 1 2 3;", 8, 1);
        dueFault("teams 4;daya 0 1 2 3;", 8, 1);
        dueFault("teams 4;day{0 1 2 3;", 11, 1);
        dueFault("teams 4;day`0 1 2 3;", 11, 1);
        dueFault("teams 4;day 0/1 2 3;", 13, 1);
        dueFault("teams 4;day 0:1 2 3;", 13, 1);
        dueFault("teams 4;day 0 1z 2 3;", 14, 1);
        dueFault("teams 4;day 0 1;", 15, 1);
        dueFault("teams 4;day 0 1 2 3", 19, 1);
        dueFault("teams 4;day 0 1 2 3 0;", 20, 1);
        dueFault("teams 4;day 0 1 2 day", 18, 1);
        dueFault("teams 4;day 0 1 2 100;", 18, 1);
        dueFault("teams 4;day 0 1 2 \u00e9;", 18, 1);
        dueFault("teams 4;day 0 4 2 3;", 14, 2);
        dueFault("teams 4;day 4 0 2 3;", 12, 2);
        dueFault("teams 4;day 0 0 2 3;", 14, 3);
        dueFault("teams 4;day 0 1 0 3;", 16, 3);
        dueFault("teams 4;day 0 1 2 1;", 18, 3);
        dueFault("teams 4;day 0 1 2 3;day 2 0 3 1;day 0 2 9 9;", 38, 3);
        dueFault("teams 4;day 0 1 2 3;day 1 0 2 3;", 26, 3);
        dueFault("teams 4;day 0 1 2 3;day 3 2 0 1;", 26, 3);
        dueFault(FOUR + "day", 44, 4);
        dueFault(FOUR + " day 9", 45, 4);
        dueFault(FOUR + "teams 4;", 44, 1);
        dueFault(FOUR + "da", 44, 1);
        dueFault(FOUR + "days", 44, 1);
    }

    private static void textLong() {
        sentence("promise 4");
        String blanks = " ".repeat(740);
        RoundDays x = new RoundDays();
        due("700 bytes", text(x, "teams 4;" + blanks.substring(0, 692)), 1);
        due("700 bytes, the last one ;", text(x, "teams 4" + blanks.substring(0, 692) + ";"), 1);
        dueFault("teams 4;" + blanks.substring(0, 693), 700, 1);
        dueFault("teams 4" + blanks.substring(0, 693) + ";", 700, 1);
        dueFault("teams 4;" + blanks.substring(0, 732), 700, 1);
        dueFault("teams" + blanks.substring(0, 694), 699, 1);
        dueFault("teams" + blanks.substring(0, 735), 700, 1);
        dueFault(blanks, 700, 1);
        dueFault("teams" + blanks.substring(0, 694) + "14;", 700, 1);
        dueFault("teams" + blanks.substring(0, 694) + "13;", 699, 2);
        dueFault("teams" + blanks.substring(0, 694) + "144;", 699, 1);
        dueFault("teams" + blanks.substring(0, 695) + "13;", 700, 1);
        dueFault(FOUR + blanks.substring(0, 655) + "day 0", 699, 4);
        dueFault(FOUR + blanks.substring(0, 655) + "dax 0", 699, 1);
        dueFault(FOUR + blanks.substring(0, 656) + "day 0", 700, 1);
        dueFault("teams 5;" + blanks.substring(0, 700), 6, 2);
    }

    private static void nowAndMeets() {
        sentence("promise 6");
        RoundDays x = of(FOUR);
        due("whole", x.now(2), 1);
        due("perfect", x.now(3), 1);
        due("pairs that make one", x.now(4), 3);
        x.drop(0);
        due("whole", x.now(2), 0);
        due("acts", x.now(5), 1);
        x.feed(1, 2, 3, 4, 5);
        due("bytes", x.now(6), 20);
        due("now(-1)", x.now(-1), NONE);
        due("now(7)", x.now(7), NONE);
        due("now(max)", x.now(Integer.MAX_VALUE), NONE);
        x = of("teams 8;day 0 1 2 3 4 5 6 7;day 0 2 1 3 4 6 5 7;");
        due("perfect", x.now(3), 0);
        due("pairs that make one", x.now(4), 0);
        sentence("promise 7");
        x = of("teams 6;day 5 0 4 1 2 3;");
        dueDay(x, 0, 5, 4, 3, 2, 1, 0);
        int[][] none = {{0, 6}, {0, -1}, {1, 0}, {-1, 0}, {Integer.MAX_VALUE, 0}, {0, Integer.MIN_VALUE}};
        for (int[] n : none) {
            due("meets of none", x.meets(n[0], n[1]), NONE);
        }
        sentence("promise 8");
        x = of(FOUR);
        int[][] days = {{NONE, 0, 1, 2}, {0, NONE, 2, 1}, {1, 2, NONE, 0}, {2, 1, 0, NONE}};
        for (int a = 0; a < 4; a++) {
            for (int b = 0; b < 4; b++) {
                due("met(" + a + ", " + b + ")", x.met(a, b), days[a][b]);
            }
            due("met of none", x.met(a, 4), NONE);
            due("met of none", x.met(-1, a), NONE);
        }
        x.drop(1);
        due("met(0, 2)", x.met(0, 2), NONE);
        due("met(0, 3)", x.met(0, 3), 1);
    }

    private static void rings() {
        sentence("promise 9");
        RoundDays x = of("teams 12;day 0 1 2 3 4 5 6 7 8 9 10 11;day 0 2 1 3 4 6 5 7 8 10 9 11;"
            + "day 0 3 1 4 2 5 6 9 7 10 8 11;");
        due("rings(0, 1)", x.rings(0, 1), 3);
        due("rings(1, 0)", x.rings(1, 0), 3);
        due("rings(0, 2)", x.rings(0, 2), 2);
        due("rings(0, 0)", x.rings(0, 0), NONE);
        due("rings(0, 3)", x.rings(0, 3), NONE);
        due("rings(-1, 0)", x.rings(-1, 0), NONE);
        sentence("promise 10");
        due("ring(0, 1, 0)", ring(x, 0, 1, 0), 0x00f);
        due("ring(0, 1, 1)", ring(x, 0, 1, 1), 0x0f0);
        due("ring(1, 0, 2)", ring(x, 1, 0, 2), 0xf00);
        due("ring(0, 1, 3)", ring(x, 0, 1, 3), THROWN);
        due("ring(0, 1, -1)", ring(x, 0, 1, -1), THROWN);
        due("ring(0, 2, 0)", ring(x, 0, 2, 0), 0x03f);
        due("ring(0, 2, 1)", ring(x, 0, 2, 1), 0xfc0);
        due("ring(0, 0, 0)", ring(x, 0, 0, 0), THROWN);
        due("ring(0, 3, 0)", ring(x, 0, 3, 0), THROWN);
        due("ring(-1, 1, 0)", ring(x, -1, 1, 0), THROWN);
        due("days behind throws", x.now(1), 3);
        sentence("promise 11");
        int[] want = {0, 1, 1, 1, 0, 0, 0, 0};
        for (int n = 1; n <= 7; n++) {
            due("make(" + n + ")", x.make(n), want[n]);
        }
        due("make(0)", x.make(0), NONE);
        due("make(8)", x.make(8), NONE);
        due("make(-1)", x.make(-1), NONE);
        sentence("promise 12");
        x.family(0, 10);
        for (int day = 0; day < 9; day++) {
            due("sign(" + day + ")", x.sign(day), 6);
        }
        x.drop(3);
        due("sign(0)", x.sign(0), 6);
        due("sign(1)", x.sign(1), 5);
        due("sign(8)", x.sign(8), NONE);
        due("sign(-1)", x.sign(-1), NONE);
    }

    private static void coming() {
        sentence("promise 13");
        int[] all = {3, 15, 105, 945, 10395, 135135};
        for (int i = 0; i < all.length; i++) {
            RoundDays x = of("teams " + (4 + 2 * i) + ";");
            due("may() of " + (4 + 2 * i), x.may(), all[i]);
        }
        RoundDays x = of("teams 6;day 0 1 2 3 4 5;");
        due("may()", x.may(), 8);
        due("may() again", x.may(), 8);
        // Teams 0, 1, 2 have met 3, 4, 5 each: three and three are left, who can't all be paired.
        RoundDays stuck = of("teams 6;day 0 3 1 4 2 5;day 0 4 1 5 2 3;day 0 5 1 3 2 4;");
        due("may()", stuck.may(), 0);
        due("may() of a whole one", of(FOUR).may(), 0);
        sentence("promise 14");
        due("come(false, 0)", x.come(false, 0), 2);
        due("come(false, 1)", x.come(false, 1), 4);
        due("come(false, 3)", x.come(false, 3), 5);
        due("come(false, 6)", x.come(false, 6), NONE);
        due("come(true, -1)", x.come(true, -1), NONE);
        due("stuck", stuck.come(false, 0), NONE);
        due("stuck", stuck.come(true, 0), NONE);
        RoundDays eight = of("teams 8;day 0 1 2 3 4 5 6 7;");
        int[] first = {2, 3, 0, 1, 6, 7, 4, 5};
        int[] best = {2, 4, 0, 6, 1, 7, 3, 5};
        for (int team = 0; team < 8; team++) {
            due("FIRST of " + team, eight.come(false, team), first[team]);
            due("BEST of " + team, eight.come(true, team), best[team]);
        }
        sentence("promise 15");
        x = of("teams 4;day 0 1 2 3;day 0 2 1 3;");
        int[] sure = {3, 2, 1, 0};
        for (int team = 0; team < 4; team++) {
            due("sure(" + team + ")", x.sure(team), sure[team]);
        }
        due("sure(4)", x.sure(4), NONE);
        due("sure(-1)", x.sure(-1), NONE);
        due("stuck", stuck.sure(0), NONE);
        due("free", of("teams 6;").sure(0), NONE);
        due("whole", of(FOUR).sure(0), NONE);
        x = of("teams 6;day 0 3 1 4 2 5;day 0 4 1 5 2 3;");
        due("may()", x.may(), 4);
        due("sure(0)", x.sure(0), NONE);
        due("sure() changes nothing", x.may(), 4);
        // Pairs left among 0 to 4 and among 5 to 9, and 0 with 5 alone between them: these two must meet.
        x = of("teams 10;day 0 1 2 5 3 6 4 7 8 9;day 0 2 1 6 3 8 4 9 5 7;day 0 6 1 5 2 7 3 9 4 8;"
            + "day 0 7 1 8 2 9 3 4 5 6;day 0 8 1 9 2 6 3 7 4 5;day 0 9 1 7 2 8 3 5 4 6;");
        due("may()", x.may(), 4);
        for (int team = 0; team < 10; team++) {
            due("sure(" + team + ")", x.sure(team), team == 0 ? 5 : team == 5 ? 0 : NONE);
        }
    }

    private static void families() {
        sentence("promise 16");
        RoundDays x = new RoundDays();
        due("family(0, 6)", x.family(0, 6), 5);
        dueDay(x, 0, 5, 4, 3, 2, 1, 0);
        dueDay(x, 1, 2, 5, 0, 4, 3, 1);
        dueDay(x, 4, 3, 2, 1, 0, 5, 4);
        due("family(1, 6)", x.family(1, 6), 5);
        dueDay(x, 0, 3, 5, 4, 0, 2, 1);
        dueDay(x, 1, 2, 4, 0, 5, 1, 3);
        dueDay(x, 2, 4, 3, 5, 1, 0, 2);
        dueDay(x, 3, 1, 0, 3, 2, 5, 4);
        dueDay(x, 4, 5, 2, 1, 4, 3, 0);
        for (int teams = -2; teams < 20; teams++) {
            boolean even = teams >= 4 && teams <= 14 && teams % 2 == 0;
            due("family(0, " + teams + ")", x.family(0, teams), even ? teams - 1 : NONE);
            boolean twice = teams == 6 || teams == 10 || teams == 14;
            due("family(1, " + teams + ")", x.family(1, teams), twice ? teams - 1 : NONE);
            due("family(2, " + teams + ")", x.family(2, teams), NONE);
            due("family(-1, " + teams + ")", x.family(-1, teams), NONE);
        }
        due("whole", x.now(2), 1);
        due("teams", x.now(0), 14);
        for (int a = 0; a < 14; a++) {
            for (int b = 0; b < 14; b++) {
                due("all meet", x.met(a, b) != NONE, a != b);
            }
        }
    }

    private static void starters() {
        sentence("promise 17");
        RoundDays x = of(FOUR);
        int[] all = {1, 1, 3, 9, 25, 133};
        int[] perfect = {1, 1, 1, 0, 3, 1};
        for (int m = -1; m < 18; m++) {
            boolean told = m >= 3 && m <= 13 && m % 2 == 1;
            due("starters(" + m + ", 0)", x.starters(m, 0), told ? all[(m - 3) / 2] : NONE);
            due("starters(" + m + ", 1)", x.starters(m, 1), told ? perfect[(m - 3) / 2] : NONE);
            due("starters(" + m + ", 2)", x.starters(m, 2), NONE);
            due("starters(" + m + ", -1)", x.starters(m, -1), NONE);
            due("starter(" + m + ", 0, 1)", x.starter(m, 0, 1) != NONE, told);
        }
        due("days", x.now(1), 3);
        due("acts", x.now(5), 0);
        sentence("promise 18");
        int[][] seven = {{3, 6, 1, 5, 4, 2}, {5, 3, 2, 6, 1, 4}, {6, 5, 4, 3, 2, 1}};
        for (int k = 0; k < 3; k++) {
            for (int number = 1; number < 7; number++) {
                due("starter(7, " + k + ", " + number + ")", x.starter(7, k, number), seven[k][number - 1]);
            }
        }
        due("starter(7, 3, 1)", x.starter(7, 3, 1), NONE);
        due("starter(7, -1, 1)", x.starter(7, -1, 1), NONE);
        due("starter(7, 0, 0)", x.starter(7, 0, 0), NONE);
        due("starter(7, 0, 7)", x.starter(7, 0, 7), NONE);
        due("starter(13, 132, 12)", x.starter(13, 132, 12), 1);
        due("starter(13, 133, 12)", x.starter(13, 133, 12), NONE);
        sentence("promise 19");
        due("by(7, 0)", x.by(7, 0), 7);
        due("teams", x.now(0), 8);
        dueDay(x, 0, 7, 3, 6, 1, 5, 4, 2, 0);
        dueDay(x, 1, 3, 7, 4, 0, 2, 6, 5, 1);
        due("by(7, 3)", x.by(7, 3), NONE);
        due("by(7, -1)", x.by(7, -1), NONE);
        due("by(8, 0)", x.by(8, 0), NONE);
        due("by(15, 0)", x.by(15, 0), NONE);
        due("by(1, 0)", x.by(1, 0), NONE);
        due("acts", x.now(5), 1);
        due("teams", x.now(0), 8);
        due("undo()", x.undo(), 0);
        due("teams", x.now(0), 4);
    }

    private static void turnedAndAlike() {
        sentence("promise 20");
        RoundDays x = of("teams 6;");
        due("turned() without days", x.turned(), 31);
        x.family(0, 6);
        due("turned()", x.turned(), 31);
        x.drop(0);
        due("turned()", x.turned(), 1);
        x.family(0, 10);
        x.drop(7);
        x.drop(4);
        x.drop(1);
        due("turned() by threes", x.turned(), 1 | 1 << 3 | 1 << 6);
        x.name(2, 9);
        due("turned()", x.turned(), 1);
        sentence("promise 21");
        due("alike(0)", x.alike(0), NONE);
        due("alike(-1)", x.alike(-1), NONE);
        due("alike(2)", x.alike(2), NONE);
        x.image(1);
        due("alike(0)", x.alike(0), NONE);
        due("alike(1)", x.alike(1), 1);
        x.name(0, 1);
        x.sort();
        due("alike(1)", x.alike(1), 1);
        x.drop(0);
        due("other days", x.alike(1), 0);
        x.family(0, 10);
        x.image(0);
        due("alike(0)", x.alike(0), 1);
        x.family(1, 10);
        due("other rings", x.alike(0), 0);
        x = of("teams 6;day 0 1 2 3 4 5;");
        x.image(0);
        text(x, "teams 8;day 0 1 2 3 4 5 6 7;");
        due("other teams", x.alike(0), 0);
        x = new RoundDays();
        x.image(0);
        due("two without teams", x.alike(0), 1);
        // As many pairs of days with one ring and with two: the signs alone tell them apart.
        x = of("teams 8;day 0 6 1 5 2 7 3 4;day 0 3 1 4 2 6 5 7;day 0 5 1 6 2 3 4 7;day 0 4 1 7 2 5 3 6;");
        due("make(1)", x.make(1), 4);
        due("make(2)", x.make(2), 2);
        x.image(0);
        text(x, "teams 8;day 0 5 1 3 2 6 4 7;day 0 3 1 5 2 7 4 6;day 0 7 1 2 3 4 5 6;day 0 2 1 7 3 6 4 5;");
        due("make(1)", x.make(1), 4);
        due("make(2)", x.make(2), 2);
        due("other signs", x.alike(0), 0);
        // The same signs, but two rings here and three there.
        text(x, "teams 12;day 0 8 1 10 2 11 3 9 4 5 6 7;day 0 4 1 7 2 9 3 11 5 8 6 10;");
        x.image(0);
        text(x, "teams 12;day 0 7 1 4 2 8 3 5 6 9 10 11;day 0 8 1 7 2 3 4 5 6 10 9 11;");
        due("the same signs, other rings", x.alike(0), 0);
    }

    private static void telling() {
        sentence("promise 22");
        RoundDays x = of("teams 6;");
        due("tell()", tell(x, 1, 0, 3, 2, 5, 4), 1);
        due("tell() of pairs that have met", tell(x, 1, 0, 4, 5, 2, 3), NONE);
        due("tell() of one that has met", tell(x, 2, 3, 0, 1, 5, 4), NONE);
        due("tell() not both ways", tell(x, 2, 3, 4, 5, 0, 1), NONE);
        due("tell() with itself", tell(x, 0, 1, 3, 2, 4, 5), NONE);
        due("tell() of a team too high", tell(x, 6, 3, 4, 1, 2, 0), NONE);
        due("tell() of a byte above 127", tell(x, 250, 3, 4, 1, 2, 0), NONE);
        due("tell() too short", tell(x, 2, 4, 0, 5, 1), NONE);
        due("tell() too long", tell(x, 2, 4, 0, 5, 1, 3, 0), NONE);
        due("tape behind tell()", x.now(6), 0);
        due("tell() of an empty tape", x.tell(), NONE);
        due("acts", x.now(5), 1);
        due("fault()", x.fault(), 0);
        due("tell()", tell(x, 2, 4, 0, 5, 1, 3), 2);
        dueDay(x, 1, 2, 4, 0, 5, 1, 3);
        due("tape behind tell()", x.now(6), 0);
        x = new RoundDays();
        due("tell() without teams", x.tell(), NONE);
        due("tell() without teams", tell(x, 1, 0, 3, 2), NONE);
        due("tape behind tell()", x.now(6), 0);
        x = of(FOUR);
        due("tell() of a whole one", tell(x, 1, 0, 3, 2), NONE);
    }

    private static void adding() {
        sentence("promise 23");
        RoundDays x = of("teams 8;day 0 1 2 3 4 5 6 7;");
        due("add(true)", x.add(true), 2);
        dueDay(x, 1, 2, 4, 0, 6, 1, 7, 3, 5);
        x.undo();
        due("add(false)", x.add(false), 2);
        dueDay(x, 1, 2, 3, 0, 1, 6, 7, 4, 5);
        x = of("teams 6;day 0 3 1 4 2 5;day 0 4 1 5 2 3;day 0 5 1 3 2 4;");
        due("add(false)", x.add(false), NONE);
        due("add(true)", x.add(true), NONE);
        due("acts", x.now(5), 0);
        sentence("promise 24");
        due("addAll(false)", x.addAll(false), 0);
        due("acts", x.now(5), 0);
        x = of("teams 6;");
        due("addAll(true)", x.addAll(true), 5);
        due("acts", x.now(5), 1);
        dueDay(x, 0, 1, 0, 3, 2, 5, 4);
        dueDay(x, 1, 2, 4, 0, 5, 1, 3);
        due("perfect", x.now(3), 1);
        x = of("teams 8;");
        due("addAll(false)", x.addAll(false), 7);
        due("make(2)", x.make(2), 21);
        dueDay(x, 6, 7, 6, 5, 4, 3, 2, 1, 0);
        due("undo()", x.undo(), 0);
        due("days", x.now(1), 0);
        int came = x.addAll(true);
        due("perfect", x.now(3), 1);
        due("days", x.now(1), came);
        due("no BEST more", x.come(true, 0), NONE);
    }

    private static void dropWeedName() {
        sentence("promise 25");
        RoundDays x = of(FOUR);
        due("drop(-1)", x.drop(-1), NONE);
        due("drop(3)", x.drop(3), NONE);
        due("acts", x.now(5), 0);
        due("drop(1)", x.drop(1), 2);
        dueDay(x, 0, 1, 0, 3, 2);
        dueDay(x, 1, 3, 2, 1, 0);
        due("drop(1)", x.drop(1), 1);
        due("drop(0)", x.drop(0), 0);
        due("drop(0)", x.drop(0), NONE);
        sentence("promise 26");
        x.family(0, 10);
        x.drop(3);
        due("weed(5)", x.weed(5), 0);
        due("weed(-1)", x.weed(-1), 0);
        due("acts", x.now(5), 5);
        // Day 3 made ONE with all but days 0 and 6, who keep their six; the others, all with five, go at once.
        due("weed(6)", x.weed(6), 6);
        due("days", x.now(1), 2);
        dueDay(x, 0, 9, 8, 7, 6, 5, 4, 3, 2, 1, 0);
        dueDay(x, 1, 3, 2, 1, 0, 8, 7, 9, 5, 4, 6);
        due("acts", x.now(5), 6);
        due("weed(max)", x.weed(Integer.MAX_VALUE), 2);
        due("weed(1) of none", x.weed(1), 0);
        sentence("promise 27");
        x = of("teams 6;day 0 1 2 3 4 5;day 0 2 1 4 3 5;");
        due("name(0, 0)", x.name(0, 0), NONE);
        due("name(0, 6)", x.name(0, 6), NONE);
        due("name(-1, 0)", x.name(-1, 0), NONE);
        due("acts", x.now(5), 0);
        due("name(0, 1)", x.name(0, 1), 1);
        dueDay(x, 0, 1, 0, 3, 2, 5, 4);
        dueDay(x, 1, 4, 2, 1, 5, 0, 3);
        due("name(5, 0)", x.name(5, 0), 2);
        dueDay(x, 0, 4, 5, 3, 2, 0, 1);
        dueDay(x, 1, 3, 2, 1, 0, 5, 4);
        due("acts", x.now(5), 2);
        x = of("teams 4;");
        due("name(0, 1) without days", x.name(0, 1), 0);
        due("acts", x.now(5), 1);
    }

    private static void sorting() {
        sentence("promise 28");
        RoundDays x = of("teams 6;day 0 5 1 2 3 4;day 0 2 1 4 3 5;day 0 3 1 5 2 4;day 0 4 1 3 2 5;day 0 1 2 3 4 5;");
        due("sort()", x.sort(), 2);
        dueDay(x, 0, 1, 0, 3, 2, 5, 4);
        dueDay(x, 1, 2, 4, 0, 5, 1, 3);
        dueDay(x, 4, 5, 2, 1, 4, 3, 0);
        due("acts", x.now(5), 1);
        due("sort()", x.sort(), 0);
        due("acts", x.now(5), 1);
        due("undo()", x.undo(), 0);
        dueDay(x, 0, 5, 2, 1, 4, 3, 0);
        x = of("teams 6;day 0 3 1 5 2 4;day 0 1 2 3 4 5;day 0 2 1 4 3 5;");
        due("sort()", x.sort(), 3);
        due("met(0, 3)", x.met(0, 3), 2);
        due("sort() without teams", new RoundDays().sort(), 0);
    }

    private static int drawSeed;

    private static int draw(int n) {
        drawSeed = drawSeed * 1103515245 + 12345;
        return (drawSeed >>> 8) % n;
    }

    /** The least seed of 0 on whose first draws of 4, 6 and 6 are as told (the two of TEAMS alike or not). */
    private static int seedOf(boolean goes, boolean alike) {
        for (int seed = 0; ; seed++) {
            drawSeed = seed;
            if (draw(4) == 0 == goes && draw(6) == draw(6) == alike) {
                return seed;
            }
        }
    }

    /** The DEEDS, done by drop(), name() and add(). */
    private static void doDeeds(RoundDays y, int n, int seed) {
        drawSeed = seed;
        for (int i = 0; i < n; i++) {
            if (draw(4) != 0) {
                int a = draw(y.now(0));
                y.name(a, draw(y.now(0)));
                y.add(false);
            } else if (y.now(1) > 0) {
                y.drop(draw(y.now(1)));
            }
        }
    }

    private static void dueAsByDeeds(String text, int n, int seed) {
        RoundDays x = of(text);
        RoundDays y = of(text);
        doDeeds(y, n, seed);
        String call = text + " drawn(" + n + ", " + seed + ")";
        due(call, x.drawn(n, seed), y.now(1));
        due(call + ": days", x.now(1), y.now(1));
        for (int day = 0; day < y.now(1); day++) {
            for (int team = 0; team < y.now(0); team++) {
                due(call + ": day " + day + ", team " + team, x.meets(day, team), y.meets(day, team));
            }
        }
        due(call + ": acts", x.now(5), 1);
    }

    private static void drawing() {
        sentence("promise 29");
        RoundDays x = of(SIX_PERFECT);
        due("drawn(0, 1)", x.drawn(0, 1), NONE);
        due("drawn(61, 1)", x.drawn(61, 1), NONE);
        due("drawn(-1, 1)", x.drawn(-1, 1), NONE);
        due("acts", x.now(5), 0);
        for (int seed = -40; seed < 40; seed++) {
            dueAsByDeeds(SIX_PERFECT, 60, seed * 48271 + 7);
            dueAsByDeeds("teams 6;day 0 3 1 4 2 5;", 1, seed);
            dueAsByDeeds("teams 8;", 5, seed * 69621);
            dueAsByDeeds("teams 4;", 2, seed);
        }
        x = new RoundDays();
        due("drawn(5, 5) without teams", x.drawn(5, 5), 0);
        due("acts", x.now(5), 0);
        drawnDayGoes();
        drawnTeamsChangeNames();
    }

    private static void drawnDayGoes() {
        int goes = seedOf(true, false);
        // No day to go: nothing, FIRST does not come.
        RoundDays x = of("teams 6;");
        due("drawn(1, " + goes + ") of no days", x.drawn(1, goes), 0);
        due("acts", x.now(5), 1);
        // The one day goes; FIRST does not come behind it.
        x = of("teams 4;day 0 3 1 2;");
        due("drawn(1, " + goes + ")", x.drawn(1, goes), 0);
        due("undo()", x.undo(), 0);
        dueDay(x, 0, 3, 2, 1, 0);
        // Two teams change names and no day may come; then day 4 goes and does not come back.
        x = new RoundDays();
        x.by(11, 0);
        RoundDays y = new RoundDays();
        y.by(11, 0);
        y.name(10, 5);
        y.drop(4);
        due("drawn(2, 200338316) of by(11, 0)", x.drawn(2, 200338316), 10);
        for (int day = 0; day < 10; day++) {
            for (int team = 0; team < 12; team++) {
                due("drawn day " + day + ", team " + team, x.meets(day, team), y.meets(day, team));
            }
        }
    }

    private static void drawnTeamsChangeNames() {
        int unlike = seedOf(false, false);
        drawSeed = unlike;
        draw(4);
        int a = draw(6);
        int b = draw(6);
        RoundDays x = of("teams 6;day 0 3 1 4 2 5;");
        RoundDays y = of("teams 6;day 0 3 1 4 2 5;");
        y.name(a, b);
        y.add(false);
        due("drawn(1, " + unlike + ")", x.drawn(1, unlike), 2);
        for (int day = 0; day < 2; day++) {
            for (int team = 0; team < 6; team++) {
                due("drawn day " + day + ", team " + team, x.meets(day, team), y.meets(day, team));
            }
        }
        // One team drawn twice: no names change, FIRST comes.
        int alike = seedOf(false, true);
        x = of("teams 6;");
        due("drawn(1, " + alike + ")", x.drawn(1, alike), 1);
        dueDay(x, 0, 1, 0, 3, 2, 5, 4);
    }

    private static void undoing() {
        sentence("promise 30");
        RoundDays x = of("teams 6;");
        due("undo()", x.undo(), NONE);
        x.family(0, 8);
        x.by(5, 0);
        x.drop(0);
        tell(x, 5, 4, 3, 2, 1, 0);
        x.name(0, 3);
        x.drop(2);
        x.add(true);
        x.drop(1);
        due("acts", x.now(5), 8);
        due("addAll(true)", x.addAll(true), 1);
        due("acts", x.now(5), 8);
        due("undo() of addAll()", x.undo(), 7);
        due("days", x.now(1), 4);
        due("undo() of drop()", x.undo(), 6);
        due("undo() of add()", x.undo(), 5);
        due("undo() of drop()", x.undo(), 4);
        due("undo() of name()", x.undo(), 3);
        dueDay(x, 4, 5, 4, 3, 2, 1, 0);
        due("undo() of tell()", x.undo(), 2);
        due("days", x.now(1), 4);
        due("undo() of drop()", x.undo(), 1);
        due("days", x.now(1), 5);
        due("undo() of by()", x.undo(), 0);
        due("teams", x.now(0), 8);
        due("undo() of family(), no more kept", x.undo(), NONE);
        due("teams", x.now(0), 8);
        x.name(1, 2);
        due("acts", x.now(5), 1);
        due("undo()", x.undo(), 0);
        x.feed(1, 2, 3, 4, 5);
        x.weed(99);
        due("undo() of weed()", x.undo(), 0);
        due("days", x.now(1), 7);
        due("bytes stay", x.now(6), 20);
    }

    private static void images() {
        sentence("promise 31");
        RoundDays x = of(FOUR);
        due("image(-1)", x.image(-1), false);
        due("image(2)", x.image(2), false);
        sentence("promise 32");
        due("restore(0)", x.restore(0), false);
        due("restore(2)", x.restore(2), false);
        due("restore(-1)", x.restore(-1), false);
        sentence("promise 31");
        due("image(0)", x.image(0), true);
        x.drop(0);
        due("image(1)", x.image(1), true);
        due("acts", x.now(5), 1);
        x.family(0, 14);
        sentence("promise 32");
        due("restore(1)", x.restore(1), true);
        due("days", x.now(1), 2);
        due("teams", x.now(0), 4);
        due("acts", x.now(5), 0);
        due("undo()", x.undo(), NONE);
        text(x, "teams 5;");
        x.feed(1, 2, 3, 4, 5);
        due("restore(0)", x.restore(0), true);
        due("days", x.now(1), 3);
        due("fault() stays", x.fault(), 2);
        due("bytes stay", x.now(6), 20);
        x.drop(0);
        due("restore(0) again", x.restore(0), true);
        due("an image stays as it was", x.now(1), 3);
        due("restore(-1)", x.restore(-1), false);
        x.drop(0);
        due("a false one changes nothing", x.restore(2), false);
        due("acts", x.now(5), 1);
        sentence("promise 31");
        x = new RoundDays();
        due("image(1) without teams", x.image(1), true);
        x.family(0, 4);
        x.end(0);
        x.text();
        x.family(0, 6);
        due("images outlive a new text", x.restore(1), true);
        due("teams", x.now(0), 0);
    }
}

/** The edges of TOKENS, TEXT and FAULTS and of promises 1 to 5, sentence by sentence. */
public final class TextEdgesTest extends Checks {
    private static final String BLANKS = " ".repeat(740);

    public static void main(String[] args) {
        newObjectHasNoTeams();
        newObjectHasAnEmptyTape();
        newObjectRefuses();
        feedPutsTheHighestByteFirst();
        feedComesBehindTheTape();
        feedIsRefusedAbove740();
        endKeepsTheFirstBytes();
        endIsRefused();
        blanksAreTwo();
        wordsAreSmallLetters();
        numbersAreOneOrTwoDigits();
        runsGoOnThroughLettersAndDigits();
        noOtherByteIsAToken();
        textHasAtMost700Bytes();
        textMayBeEmpty();
        firstLineTellsTeams();
        teamsAreEvenFourToFourteen();
        otherLinesTellDays();
        teamsOfADayAreBelowN();
        dayHasNNumbers();
        teamIsToldOnceADay();
        pairMeetsOnce();
        daysAreAtMostNLessOne();
        whatCannotComeIsAFaultEverywhere();
        firstFaultAlongTheTextCounts();
        leastFaultOfATokenCounts();
        theEndIsAPlace();
        faultAt700();
        tokensAheadOf700AreReadWhole();
        textEmptiesTheTape();
        textPutsTeamsAndDays();
        textCountsLines();
        textWithAFaultLeavesAll();
        newTextForgetsActs();
        faultTellsOfTheLatestText();
        faultIsNoneAheadOfAny();
        finish();
    }

    private static void newObjectHasNoTeams() {
        sentence("promise 1, 'No TEAMS'");
        RoundDays x = new RoundDays();
        due("now(0)", x.now(0), 0);
        due("now(1)", x.now(1), 0);
        due("now(2)", x.now(2), 0);
        due("now(3)", x.now(3), 1);
        due("now(4)", x.now(4), 0);
        due("now(5)", x.now(5), 0);
        due("meets(0, 0)", x.meets(0, 0), NONE);
        due("turned()", x.turned(), NONE);
        due("image(0)", x.image(0), true);
        due("alike(0)", x.alike(0), 1);
        due("restore(0)", x.restore(0), true);
        due("teams kept", x.now(0), 0);
    }

    private static void newObjectHasAnEmptyTape() {
        sentence("promise 1, 'an empty tape'");
        due("now(6)", new RoundDays().now(6), 0);
        due("end(0)", new RoundDays().end(0), true);
        due("end(1)", new RoundDays().end(1), false);
        due("text()", new RoundDays().text(), 0);
        due("tell()", new RoundDays().tell(), NONE);
        due("feed()", new RoundDays().feed(0, 0, 0, 0, 0), 20);
    }

    private static void newObjectRefuses() {
        sentence("promise 1, calls of a new object that find nothing");
        RoundDays x = new RoundDays();
        due("fault()", x.fault(), 0);
        due("met(0, 1)", x.met(0, 1), NONE);
        due("rings(0, 1)", x.rings(0, 1), NONE);
        due("ring(0, 1, 0)", ring(x, 0, 1, 0), THROWN);
        due("make(1)", x.make(1), 0);
        due("sign(0)", x.sign(0), NONE);
        due("may()", x.may(), 0);
        due("come(false, 0)", x.come(false, 0), NONE);
        due("come(true, 0)", x.come(true, 0), NONE);
        due("sure(0)", x.sure(0), NONE);
        due("alike(0)", x.alike(0), NONE);
        due("alike(1)", x.alike(1), NONE);
        due("add(false)", x.add(false), NONE);
        due("add(true)", x.add(true), NONE);
        due("addAll(false)", x.addAll(false), 0);
        due("addAll(true)", x.addAll(true), 0);
        due("drop(0)", x.drop(0), NONE);
        due("weed(1)", x.weed(1), 0);
        due("name(0, 1)", x.name(0, 1), NONE);
        due("sort()", x.sort(), 0);
        due("drawn(1, 1)", x.drawn(1, 1), 0);
        due("undo()", x.undo(), NONE);
        due("restore(0)", x.restore(0), false);
        due("restore(1)", x.restore(1), false);
        due("all", seen(x), seen(new RoundDays()));
    }

    private static void feedPutsTheHighestByteFirst() {
        sentence("promise 2, 'Twenty bytes .. of each number the highest first'");
        for (int place = 0; place < 20; place++) {
            int[] five = {0x20202020, 0x20202020, 0x20202020, 0x20202020, 0x20202020};
            // A byte above 127 in the highest place makes the number one below 0.
            five[place / 4] ^= (0xff ^ 0x20) << 24 - 8 * (place % 4);
            RoundDays x = new RoundDays();
            due("feed()", x.feed(five[0], five[1], five[2], five[3], five[4]), 20);
            due("text() of blanks and 255 at " + place, x.text(), -1 - place);
        }
    }

    private static void feedComesBehindTheTape() {
        sentence("promise 2, '.. come behind the tape: how many it has'");
        RoundDays x = new RoundDays();
        feed(x, "   ");
        due("feed() behind 3", x.feed(0x20787878, 0, 0, 0, 0), 23);
        due("text()", x.text(), -1 - 4);
        due("feed() behind text()", x.feed(0x78202020, 0, 0, 0, 0), 20);
        due("text()", x.text(), -1);
        for (int times = 1; times <= 37; times++) {
            due("feed() for the " + times + ". time", x.feed(MIN, MAX, -1, 0, 1), 20 * times);
            due("now(6)", x.now(6), 20 * times);
        }
    }

    private static void feedIsRefusedAbove740() {
        sentence("promise 2, 'NONE, and none come, if it would have more than 740'");
        int blanks = 0x20202020;
        for (int cut = 719; cut <= 740; cut++) {
            RoundDays x = new RoundDays();
            for (int i = 0; i < 37; i++) {
                x.feed(blanks, blanks, blanks, blanks, blanks);
            }
            x.end(cut);
            boolean fits = cut <= 720;
            due("feed() behind " + cut, x.feed(-1, -1, -1, -1, -1), fits ? cut + 20 : NONE);
            due("now(6)", x.now(6), fits ? cut + 20 : cut);
            due("end(700)", x.end(700), true);
            due("the bytes ahead stay: text()", x.text(), 0);
        }
        RoundDays full = of(FOUR);
        for (int i = 0; i < 37; i++) {
            full.feed(-1, -1, -1, -1, -1);
        }
        String before = seen(full);
        due("feed() behind 740", full.feed(0, 0, 0, 0, 0), NONE);
        due("all behind a refused feed()", seen(full), before);
        due("text()", full.text(), -1);
        due("feed() goes on behind text()", full.feed(0, 0, 0, 0, 0), 20);
    }

    private static void endKeepsTheFirstBytes() {
        sentence("promise 3, 'The tape has its first n bytes alone: true'");
        String text = "teams 4;x";
        for (int n = 0; n <= text.length(); n++) {
            RoundDays x = new RoundDays();
            feed(x, text);
            due("end(" + n + ")", x.end(n), true);
            due("now(6)", x.now(6), n);
            due("text() of the first " + n, x.text(), n == 0 ? 0 : n == 8 ? 1 : n < 5 ? -1 : n == 9 ? -9 : -1 - n);
        }
        RoundDays x = new RoundDays();
        feed(x, "teams 4;");
        due("end(6)", x.end(6), true);
        feed(x, "8;");
        due("text() of bytes cut and fed anew", x.text(), 1);
        due("teams", x.now(0), 8);
        due("end(0) of an empty tape", x.end(0), true);
    }

    private static void endIsRefused() {
        sentence("promise 3, 'false, if it has not so many, or n is below 0'");
        for (int n : new int[] {4, 5, 20, 21, 740, MAX, -1, -2, MIN}) {
            leaves("end(" + n + ") of three", x -> x.end(n) ? 1 : 0, 0);
        }
        RoundDays x = new RoundDays();
        x.feed(0, 0, 0, 0, 0);
        due("end(21) of 20", x.end(21), false);
        due("end(20) of 20", x.end(20), true);
        due("end(19) of 20", x.end(19), true);
        due("end(20) of 19, though it had 20", x.end(20), false);
        due("now(6)", x.now(6), 19);
    }

    private static boolean isRun(int sign) {
        return sign >= 'a' && sign <= 'z' || sign >= '0' && sign <= '9';
    }

    private static void blanksAreTwo() {
        sentence("TOKENS, 'with blanks (32, 10) between them or not'");
        for (int sign = 0; sign < 256; sign++) {
            String text = "teams" + (char) sign + "4;";
            if (sign == 32 || sign == 10) {
                dueLines(text, 1);
            } else {
                dueFault(text, isRun(sign) ? 0 : 5, 1);
            }
        }
        dueLines("teams 4;day 0 1 2 3;", 2);
        dueLines("\n teams \n 4 \n\n;  day  0\n1\n2\n3\n;\n ", 2);
    }

    private static void wordsAreSmallLetters() {
        sentence("TOKENS, 'WORDS: small letters'");
        dueFault("Teams 4;", 0, 1);
        dueFault("TEAMS 4;", 0, 1);
        // What stands ahead of the great letter is a word that can't come.
        dueFault("teamS 4;", 0, 1);
        dueFault("teamsX 4;", 5, 1);
        dueFault("teams 4;Day 0 1 2 3;", 8, 1);
        dueFault("teams 4;daY 0 1 2 3;", 8, 1);
        dueFault("teams 4;dayX 0 1 2 3;", 11, 1);
        dueFault("a", 0, 1);
        dueFault("z", 0, 1);
    }

    private static void numbersAreOneOrTwoDigits() {
        sentence("TOKENS, 'NUMBERS: 1 or 2 digits'");
        dueLines("teams 4;", 1);
        dueLines("teams 04;", 1);
        dueFault("teams 004;", 6, 1);
        dueFault("teams 014;", 6, 1);
        dueFault("teams 0000000000000000000000004;", 6, 1);
        // As ints that wrap round these would be 4.
        dueFault("teams 4294967300;", 6, 1);
        dueFault("teams 18446744073709551620;", 6, 1);
        dueLines("teams 4;day 00 01 02 03;", 2);
        dueFault("teams 4;day 000 1 2 3;", 12, 1);
        dueFault("teams 4;day 0 1 2 003;", 18, 1);
        dueFault("teams 4;day 0 1 2 4294967299;", 18, 1);
    }

    private static void runsGoOnThroughLettersAndDigits() {
        sentence("TOKENS, 'A WORD, NUMBER goes on as long as small letters and digits do'");
        dueFault("teams4;", 0, 1);
        dueFault("teams 4day 0 1 2 3;", 6, 1);
        dueFault("4teams 4;", 0, 1);
        dueFault("teams 4;day0 1 2 3;", 8, 1);
        dueFault("teams 4;0day 1 2 3;", 8, 1);
        dueFault("teams 4;days 0 1 2 3;", 8, 1);
        dueFault("teams 4;da y 0 1 2 3;", 8, 1);
        dueFault("teams 4;day 0 1 2 3x;", 18, 1);
        dueFault("teams 4;day 0 1 2 x3;", 18, 1);
        dueFault("tea ms 4;", 0, 1);
        dueFault("teamsteams 4;", 0, 1);
        dueFault("teamz 4;", 0, 1);
        dueFault("teems 4;", 0, 1);
        dueFault("day 4;", 0, 1);
        dueFault("teams 4;dax 0 1 2 3;", 8, 1);
        dueFault("teams 4;xay 0 1 2 3;", 8, 1);
    }

    private static void noOtherByteIsAToken() {
        sentence("TOKENS, 'what is not as told is no TOKEN'");
        for (int sign = 0; sign < 256; sign++) {
            boolean blank = sign == 32 || sign == 10;
            String one = String.valueOf((char) sign);
            if (blank) {
                dueLines(one, 0);
                dueLines("teams 4;" + one, 1);
                dueLines("teams 4" + one + ";", 1);
            } else {
                dueFault(one, 0, 1);
                dueFault("teams 4;" + one, 8, 1);
                boolean digit = sign >= '0' && sign <= '9';
                dueFault("teams 4" + one + ";", isRun(sign) ? 6 : sign == ';' ? 8 : 7, digit ? 2 : 1);
            }
        }
    }

    private static void textHasAtMost700Bytes() {
        sentence("TEXT, 'at most 700 bytes'");
        dueLines("teams 4;" + BLANKS.substring(0, 691), 1);
        dueLines("teams 4;" + BLANKS.substring(0, 692), 1);
        dueFault("teams 4;" + BLANKS.substring(0, 693), 700, 1);
        dueLines(BLANKS.substring(0, 692) + "teams 4;", 1);
        dueFault(BLANKS.substring(0, 693) + "teams 4;", 700, 1);
        dueLines(FOUR.substring(0, 43) + BLANKS.substring(0, 656) + ";", 4);
        dueFault(FOUR.substring(0, 43) + BLANKS.substring(0, 657) + ";", 700, 1);
        dueLines(BLANKS.substring(0, 700), 0);
        dueFault(BLANKS.substring(0, 701), 700, 1);
        dueFault(BLANKS.substring(0, 740), 700, 1);
    }

    private static void textMayBeEmpty() {
        sentence("TEXT, '{ LINE ; }': none or more");
        dueLines("", 0);
        dueLines(" ", 0);
        dueLines("\n", 0);
        dueFault(";", 0, 1);
        dueFault(" ;", 1, 1);
        dueFault("teams 4;;", 8, 1);
        dueFault("teams 4; ;day 0 1 2 3;", 9, 1);
    }

    private static void firstLineTellsTeams() {
        sentence("TEXT, \"The first LINE: 'teams' N\"");
        dueFault("day 0 1 2 3;", 0, 1);
        dueFault("4;", 0, 1);
        dueFault("teams;", 5, 1);
        dueFault("teams day 4;", 6, 1);
        dueFault("teams teams 4;", 6, 1);
        dueFault("teams 4 6;", 8, 1);
        dueFault("teams 4 day 0 1 2 3;", 8, 1);
        dueFault("teams 4;teams 4;", 8, 1);
        dueFault("teams 4;day 0 1 2 3;teams 4;", 20, 1);
    }

    private static void teamsAreEvenFourToFourteen() {
        sentence("TEXT, 'N (an even number, 4 to 14)'");
        for (int n = 0; n < 100; n++) {
            String two = n < 10 ? "0" + n : "" + n;
            for (String number : new String[] {"" + n, two}) {
                if (n >= 4 && n <= 14 && n % 2 == 0) {
                    RoundDays x = of(FOUR);
                    due("text() of teams " + number, text(x, "teams " + number + ";"), 1);
                    due("teams", x.now(0), n);
                    due("days", x.now(1), 0);
                } else {
                    dueFault("teams " + number + ";", 6, 2);
                }
            }
        }
    }

    private static void otherLinesTellDays() {
        sentence("TEXT, \"The others: 'day' T T { T T }\"");
        dueFault("teams 4;0 1 2 3;", 8, 1);
        dueFault("teams 4;day day 0 1 2 3;", 12, 1);
        dueFault("teams 4;day teams 0 1 2 3;", 12, 1);
        dueFault("teams 4;day 0 1 day 2 3;", 16, 1);
        dueFault("teams 4;day 0 1;2 3;", 15, 1);
        dueFault("teams 4;day 0 1 2 3 day 0 2 1 3;", 20, 1);
        dueFault("teams 4;day 0 1 2 3;0", 20, 1);
    }

    private static void teamsOfADayAreBelowN() {
        sentence("TEXT, 'each TEAM, 0 to N less 1'; FAULTS, '2 a NUMBER that is not as told (at it)'");
        for (int n = 4; n <= 14; n += 2) {
            String start = "teams " + n + ";day ";
            for (int team = 0; team < 100; team++) {
                String text = start + team;
                if (team < n) {
                    dueFault(text, text.length(), 1);
                } else {
                    dueFault(text, start.length(), 2);
                    dueFault(start + "0 " + team, start.length() + 2, 2);
                    dueFault(start + "1 0 " + team, start.length() + 4, 2);
                }
            }
        }
    }

    /** The first numbers of a day 0 1 2 3 .. */
    private static String firstNumbers(int count) {
        StringBuilder text = new StringBuilder();
        for (int team = 0; team < count; team++) {
            text.append(' ').append(team);
        }
        return text.toString();
    }

    private static void dayHasNNumbers() {
        sentence("TEXT, 'N NUMBERS'");
        for (int n = 4; n <= 14; n += 2) {
            String start = "teams " + n + ";day";
            for (int count = 0; count < n; count++) {
                String text = start + firstNumbers(count);
                dueFault(text + ";", text.length(), 1);
            }
            String full = start + firstNumbers(n);
            dueLines(full + ";", 2);
            dueFault(full + " 0;", full.length() + 1, 1);
            dueFault(full + " " + n + ";", full.length() + 1, 1);
            dueFault(full, full.length(), 1);
        }
    }

    private static void teamIsToldOnceADay() {
        sentence("FAULTS, '3 a TEAM told twice on a DAY (at it)'");
        for (int n = 4; n <= 14; n += 2) {
            for (int count = 1; count < n; count++) {
                String text = "teams " + n + ";day" + firstNumbers(count) + " ";
                for (int again = 0; again < count; again++) {
                    dueFault(text + again, text.length(), 3);
                }
            }
        }
        dueFault("teams 4;day 0 00 2 3;", 14, 3);
        dueFault("teams 4;day 0 1 2 3;day 0 2 0 3;", 28, 3);
        dueLines("teams 4;day 0 1 2 3;day 0 2 1 3;", 3);
    }

    private static void pairMeetsOnce() {
        sentence("FAULTS, '3 .. a PAIR that has met (at its second TEAM)'");
        String one = "teams 6;day 0 1 2 3 4 5;";
        dueFault(one + "day 0 1 2 4 3 5;", one.length() + 6, 3);
        dueFault(one + "day 1 0 2 4 3 5;", one.length() + 6, 3);
        dueFault(one + "day 0 2 4 5", one.length() + 10, 3);
        dueFault(one + "day 0 2 5 4", one.length() + 10, 3);
        dueFault(one + "day 0 4 1 5 2 3;", one.length() + 14, 3);
        dueFault(one + "day 0 4 1 5 3 2;", one.length() + 14, 3);
        String two = one + "day 0 2 1 4 3 5;";
        dueFault(two + "day 4 1", two.length() + 6, 3);
        dueFault(two + "day 5 4", two.length() + 6, 3);
        dueLines(two + "day 0 3 1 5 2 4;", 4);
        // 'told ahead': the pairs of the same text alone, not those of the days there were.
        RoundDays x = of(FOUR);
        due("text()", text(x, FOUR), 4);
    }

    private static void daysAreAtMostNLessOne() {
        sentence("FAULTS, \"4 a DAY though all have met (at 'day')\"");
        for (int n = 4; n <= 14; n += 2) {
            String whole = told(family(0, n));
            RoundDays x = new RoundDays();
            due("lines of a whole one of " + n, text(x, whole), n);
            due("days", x.now(1), n - 1);
            due("whole", x.now(2), 1);
            dueFault(whole + "day", whole.length(), 4);
            dueFault(whole + " day 0 1", whole.length() + 1, 4);
            dueFault(whole + "day;", whole.length(), 4);
            dueFault(whole + "day x", whole.length(), 4);
            dueFault(whole + "days", whole.length(), 1);
            dueFault(whole + ";", whole.length(), 1);
            dueFault(whole + "teams", whole.length(), 1);
            dueFault(whole + "0", whole.length(), 1);
        }
        // A schedule to which no day may come, though not all have met: the day's pairs are at fault, not the day.
        dueFault(STUCK + "day 0 1 2 3", STUCK.length() + 10, 3);
        dueFault(STUCK + "day", STUCK.length() + 3, 1);
    }

    private static void whatCannotComeIsAFaultEverywhere() {
        sentence("FAULTS, \"1 no TOKEN, or one that can't come (at it)\"");
        // Ways that a text may begin, and what alone may come behind each: a word, a number (0) or the sign ;
        String[] starts = {"", "teams", "teams 4", "teams 4;", "teams 4;day", "teams 4;day 0", "teams 4;day 0 1",
            "teams 4;day 0 1 2", "teams 4;day 0 1 2 3", "teams 4;day 0 1 2 3;"};
        String[] due = {"teams", "0", ";", "day", "0", "0", "0", "0", ";", "day"};
        String[] come = {"teams", "day", "x", "team", "days", "0", "3", "04", "99", ";",
            "004", "100", "x1", "1x", "day0", "?", "-1", "A", "\u0000", "\u00e9", ","};
        String[] behind = {"", " ", ";", " ;", " 3;", ";day 0 1 2 3;"};
        for (int i = 0; i < starts.length; i++) {
            for (String token : come) {
                boolean number = token.length() <= 2 && Character.isDigit(token.charAt(0)) && !token.endsWith("x");
                if (!token.equals(due[i]) && !(number && due[i].equals("0"))) {
                    for (String rest : behind) {
                        dueFault(starts[i] + " " + token + rest, starts[i].length() + 1, 1);
                    }
                }
            }
        }
    }

    private static void firstFaultAlongTheTextCounts() {
        sentence("FAULTS, 'the first along the text'");
        dueFault("teams 5;x", 6, 2);
        dueFault("x teams 5;", 0, 1);
        dueFault("teams 4;day 0 9 0 0;", 14, 2);
        dueFault("teams 4;day 0 0 9 x;", 14, 3);
        dueFault("teams 4;day 0 1 x 9;", 16, 1);
        dueFault(FOUR + "day 9 9;x", 44, 4);
        dueFault("teams 4;day 0 1 2 3;day 0 1 9", 26, 3);
        dueFault("teams 4;day 0 1 2 3;day 0 9 1", 26, 2);
        dueFault("teams 5;" + BLANKS.substring(0, 732), 6, 2);
        dueFault("teams 4;?" + BLANKS.substring(0, 731), 8, 1);
    }

    private static void leastFaultOfATokenCounts() {
        sentence("FAULTS, 'of one TOKEN the least'");
        // A number where ; is due: it can't come, however wrong it is besides.
        dueFault("teams 4;day 0 1 2 3 9;", 20, 1);
        dueFault("teams 4;day 0 1 2 3 0;", 20, 1);
        dueFault("teams 4 5;", 8, 1);
        // A third digit makes it no token, before its value counts.
        dueFault("teams 100;", 6, 1);
        dueFault("teams 4;day 0 1 2 999;", 18, 1);
        // 'day' where ; is due, though all have met.
        String open = FOUR.substring(0, 43);
        dueFault(open + " day", 44, 1);
        // The second of a pair is out of range: 2, ahead of any 3.
        dueFault("teams 4;day 0 4 2 3;", 14, 2);
    }

    private static void theEndIsAPlace() {
        sentence("FAULTS, 'the end: how many bytes there are'");
        String text = "teams 4;day 0 1 2 3;";
        for (int n = 0; n <= text.length(); n++) {
            String cut = text.substring(0, n);
            if (n == 0 || n == 8 || n == 20) {
                dueLines(cut, n == 0 ? 0 : n == 8 ? 1 : 2);
            } else if (n < 5) {
                dueFault(cut, 0, 1);
            } else if (n == 9 || n == 10) {
                dueFault(cut, 8, 1);
            } else {
                dueFault(cut, n, 1);
                dueFault(cut + " \n", n + 2, 1);
            }
        }
        dueFault("teams" + BLANKS.substring(0, 695), 700, 1);
        dueFault("teams 4" + BLANKS.substring(0, 692), 699, 1);
    }

    private static void faultAt700() {
        sentence("FAULTS, '700, if there are more and no FAULT is ahead'");
        for (int length = 701; length <= 740; length++) {
            dueFault(BLANKS.substring(0, length), 700, 1);
            dueFault("teams 4;" + BLANKS.substring(0, length - 8), 700, 1);
            dueFault("teams" + BLANKS.substring(0, length - 5), 700, 1);
            dueFault(BLANKS.substring(0, length - 1) + "?", 700, 1);
            dueFault("teams 4;day 0 1 2" + BLANKS.substring(0, length - 18) + "9", 700, 1);
        }
        // A token that begins at 700 is not read: whatever it is, the fault is 1.
        dueFault("teams" + BLANKS.substring(0, 695) + "5;", 700, 1);
        dueFault(FOUR + BLANKS.substring(0, 656) + "day", 700, 1);
        dueFault("teams 4;day 0" + BLANKS.substring(0, 687) + "0", 700, 1);
        dueFault("?" + BLANKS.substring(0, 739), 0, 1);
        dueFault(BLANKS.substring(0, 699) + "?" + BLANKS.substring(0, 40), 699, 1);
    }

    private static void tokensAheadOf700AreReadWhole() {
        sentence("FAULTS, 'TOKENS that begin ahead of it are read whole'");
        String to699 = "teams" + BLANKS.substring(0, 694);
        dueFault(to699 + "14;", 700, 1);
        dueFault(to699 + "4;", 700, 1);
        dueFault(to699 + "13;", 699, 2);
        dueFault(to699 + "15", 699, 2);
        dueFault(to699 + "144", 699, 1);
        dueFault(to699 + "4x", 699, 1);
        dueFault(to699 + "1", 699, 2);
        dueFault(FOUR + BLANKS.substring(0, 655) + "day", 699, 4);
        dueFault(FOUR + BLANKS.substring(0, 655) + "dayx", 699, 1);
        dueFault(FOUR + BLANKS.substring(0, 654) + "day", 698, 4);
        dueFault(BLANKS.substring(0, 699) + "teams 4;", 700, 1);
        dueFault(BLANKS.substring(0, 699) + "teamz 4;", 699, 1);
        dueFault("teams 4;day 0 1 2" + BLANKS.substring(0, 682) + "03;", 700, 1);
        dueFault("teams 4;day 0 1 2" + BLANKS.substring(0, 682) + "01;", 699, 3);
        dueFault("teams 4;day 0 1 2" + BLANKS.substring(0, 682) + "0" + "3".repeat(40), 699, 1);
    }

    private static void textEmptiesTheTape() {
        sentence("promise 4, 'The tape (empty then, here and below, even with a FAULT)'");
        RoundDays x = of(FOUR);
        due("now(6) behind text()", x.now(6), 0);
        due("end(1) behind text()", x.end(1), false);
        due("text() of a fault", text(x, "teams 5;"), -7);
        due("now(6) behind a fault", x.now(6), 0);
        due("teams", x.now(0), 4);
        due("text() of what is left", x.text(), 0);
        due("teams", x.now(0), 0);
        x = of("teams 4;");
        due("tell()", tell(x, 1, 0, 3, 2), 1);
        due("now(6) behind tell()", x.now(6), 0);
        due("tell() of none", tell(x, 1, 0, 3, 2), NONE);
        due("now(6) behind tell() of none", x.now(6), 0);
    }

    private static void textPutsTeamsAndDays() {
        sentence("promise 4, 'whose TEAMS and DAYS are so now (an empty one: none)'");
        RoundDays x = family(0, 14);
        due("text()", text(x, "teams 4;day 3 0 2 1;"), 2);
        due("days", days(x), "4: 3 2 1 0;");
        due("met(0, 4)", x.met(0, 4), NONE);
        due("meets(1, 0)", x.meets(1, 0), NONE);
        due("text() of teams alone", text(x, "teams 14;"), 1);
        due("days", days(x), "14:");
        x.family(0, 14);
        due("text() of an empty tape", x.text(), 0);
        due("days", days(x), "0:");
        x.family(0, 14);
        due("text() of blanks", text(x, " \n"), 0);
        due("days", days(x), "0:");
    }

    private static void textCountsLines() {
        sentence("promise 4, 'how many LINES'");
        String[] lines = told(family(0, 14)).split("(?<=;)");
        StringBuilder text = new StringBuilder();
        for (int count = 1; count <= lines.length; count++) {
            text.append(lines[count - 1]);
            dueLines(text.toString(), count);
        }
        due("lines there are", lines.length, 14);
    }

    private static void textWithAFaultLeavesAll() {
        sentence("promise 4, '-1 less the place of a FAULT: all stays'");
        for (String text : new String[] {"x", "teams 5;", "teams 8;day 0 0", FOUR + "day", "teams 8", "teams 8;?"}) {
            RoundDays x = of(SIX_PERFECT);
            x.image(1);
            x.drop(1);
            String before = seen(x).replaceAll("fault \\d", "");
            due("text() of " + text, text(x, text) < 0, true);
            due("all behind text() of " + text, seen(x).replaceAll("fault \\d", ""), before);
            due("undo()", x.undo(), 0);
            due("days", x.now(1), 5);
        }
    }

    private static void newTextForgetsActs() {
        sentence("'A new TEXT: nothing can be undone'");
        for (String text : new String[] {"", " ", "teams 4;", FOUR}) {
            RoundDays x = busy();
            x.end(0);
            x.name(0, 1);
            due("acts", x.now(5), 2);
            text(x, text);
            due("acts behind text() of '" + text + "'", x.now(5), 0);
            String before = days(x);
            due("undo()", x.undo(), NONE);
            due("days", days(x), before);
        }
        RoundDays x = busy();
        x.end(0);
        due("text() of a fault", text(x, "teams 4;?"), -9);
        due("acts behind a fault", x.now(5), 1);
        due("undo() behind a fault", x.undo(), 0);
    }

    private static void faultTellsOfTheLatestText() {
        sentence("promise 5, 'The kind of the FAULT of the latest text(); 0 without one'");
        RoundDays x = new RoundDays();
        String[] texts = {"teams", "teams 3;", "teams 4;day 0 0", FOUR + "day", FOUR, "?", ""};
        int[] kinds = {1, 2, 3, 4, 0, 1, 0};
        for (int i = 0; i < texts.length; i++) {
            text(x, texts[i]);
            due("fault() of '" + texts[i] + "'", x.fault(), kinds[i]);
            due("fault() again", x.fault(), kinds[i]);
        }
        text(x, "teams 3;");
        x.family(0, 4);
        x.drop(0);
        x.undo();
        x.image(0);
        x.restore(0);
        feed(x, "abc");
        x.tell();
        x.drawn(3, 3);
        due("fault() behind other calls", x.fault(), 2);
    }

    private static void faultIsNoneAheadOfAny() {
        sentence("promise 5, '0 .. ahead of any'");
        RoundDays x = new RoundDays();
        due("fault()", x.fault(), 0);
        feed(x, "teams 3;");
        due("fault() of a text that is not read yet", x.fault(), 0);
        x.tell();
        due("fault() behind tell()", x.fault(), 0);
    }
}

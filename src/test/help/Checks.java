import java.nio.charset.StandardCharsets;
import java.util.NoSuchElementException;
import java.util.function.ToIntFunction;

/** What the tests of the document's sentences have in common. */
abstract class Checks {
    static final int NONE = -1;
    static final int MIN = Integer.MIN_VALUE;
    static final int MAX = Integer.MAX_VALUE;
    static final int THROWN = -123456789;
    static final String FOUR = "teams 4;day 0 1 2 3;day 0 2 1 3;day 0 3 1 2;";
    static final String SIX_PERFECT =
        "teams 6;day 0 1 2 3 4 5;day 0 2 1 4 3 5;day 0 3 1 5 2 4;day 0 4 1 3 2 5;day 0 5 1 2 3 4;";
    /** Teams 0, 1, 2 have met 3, 4, 5 each: three and three are left, who can't all be paired. */
    static final String STUCK = "teams 6;day 0 3 1 4 2 5;day 0 4 1 5 2 3;day 0 5 1 3 2 4;";
    /** Each two of its days make two rings. */
    static final String EIGHT_BY_FOURS = "teams 8;day 0 1 2 3 4 5 6 7;day 0 2 1 3 4 6 5 7;day 0 3 1 2 4 7 5 6;"
        + "day 0 4 1 5 2 6 3 7;day 0 5 1 4 2 7 3 6;day 0 6 1 7 2 4 3 5;day 0 7 1 6 2 5 3 4;";

    private static int wrong = 0;
    private static String sentence = "";

    /** The sentence of the document that the checks behind it hold to. */
    static void sentence(String said) {
        sentence = said;
    }

    static void due(String what, long got, long want) {
        if (got != want) {
            wrong++;
            System.out.println(sentence + ": " + what + " answered " + got + ", due is " + want);
        }
    }

    static void due(String what, boolean got, boolean want) {
        due(what, got ? 1 : 0, want ? 1 : 0);
    }

    static void due(String what, String got, String want) {
        if (!got.equals(want)) {
            wrong++;
            System.out.println(sentence + ": " + what + " is " + got + ", due is " + want);
        }
    }

    static void finish() {
        System.out.println(wrong == 0 ? "all answers are as due" : wrong + " answers are not as due");
        if (wrong != 0) {
            System.exit(1);
        }
    }

    static void feed(RoundDays x, byte[] bytes) {
        int start = x.now(6);
        for (int at = 0; at < bytes.length; at += 20) {
            int[] five = new int[5];
            for (int i = 0; i < 20; i++) {
                int sign = at + i < bytes.length ? bytes[at + i] & 255 : 0;
                five[i / 4] = five[i / 4] << 8 | sign;
            }
            x.feed(five[0], five[1], five[2], five[3], five[4]);
        }
        x.end(start + bytes.length);
    }

    static void feed(RoundDays x, String text) {
        feed(x, text.getBytes(StandardCharsets.ISO_8859_1));
    }

    static int text(RoundDays x, String text) {
        feed(x, text);
        return x.text();
    }

    static RoundDays of(String text) {
        RoundDays x = new RoundDays();
        if (text(x, text) < 0) {
            throw new IllegalStateException("a test's text is none: " + text);
        }
        return x;
    }

    static void feedRow(RoundDays x, int... row) {
        byte[] bytes = new byte[row.length];
        for (int i = 0; i < row.length; i++) {
            bytes[i] = (byte) row[i];
        }
        feed(x, bytes);
    }

    static int tell(RoundDays x, int... row) {
        feedRow(x, row);
        return x.tell();
    }

    /** THROWN stands for the NoSuchElementException, and for nothing that a wrong class would answer instead. */
    static int ring(RoundDays x, int d, int e, int i) {
        try {
            return x.ring(d, e, i);
        } catch (NoSuchElementException none) {
            return THROWN;
        }
    }

    static void dueDay(RoundDays x, int day, int... row) {
        for (int team = 0; team < row.length; team++) {
            due("meets(" + day + ", " + team + ")", x.meets(day, team), row[team]);
        }
    }

    static void dueFault(String text, int place, int kind) {
        RoundDays x = of(FOUR);
        due("text() of '" + text + "'", text(x, text), -1 - place);
        due("fault() of '" + text + "'", x.fault(), kind);
        due("days behind a fault", x.now(1), 3);
        due("tape behind a fault", x.now(6), 0);
    }

    static void dueLines(String text, int lines) {
        RoundDays x = new RoundDays();
        due("text() of '" + text + "'", text(x, text), lines);
        due("fault() of '" + text + "'", x.fault(), 0);
    }

    static String days(RoundDays x) {
        // Few calls: an object is used for 512 at most.
        int teams = x.now(0);
        int count = x.now(1);
        StringBuilder all = new StringBuilder();
        all.append(teams).append(':');
        for (int day = 0; day < count; day++) {
            for (int team = 0; team < teams; team++) {
                all.append(' ').append(x.meets(day, team));
            }
            all.append(';');
        }
        return all.toString();
    }

    /** All that can be seen of an object, but the bytes of the tape. */
    static String seen(RoundDays x) {
        return days(x) + " acts " + x.now(5) + " tape " + x.now(6) + " fault " + x.fault()
            + " alike " + x.alike(0) + " " + x.alike(1);
    }

    /** A text that tells the days as they are. */
    static String told(RoundDays x) {
        int teams = x.now(0);
        int count = x.now(1);
        StringBuilder text = new StringBuilder();
        text.append("teams ").append(teams).append(';');
        for (int day = 0; day < count; day++) {
            text.append("day");
            for (int team = 0; team < teams; team++) {
                int other = x.meets(day, team);
                if (other > team) {
                    text.append(' ').append(team).append(' ').append(other);
                }
            }
            text.append(';');
        }
        return text.toString();
    }

    static RoundDays family(int f, int teams) {
        RoundDays x = new RoundDays();
        x.family(f, teams);
        return x;
    }

    /** Four days of six teams, an act, a fault, bytes on the tape, a place kept and one empty. */
    static RoundDays busy() {
        RoundDays x = of(SIX_PERFECT);
        x.image(0);
        text(x, "teams 5;");
        x.drop(2);
        feed(x, "xyz");
        return x;
    }

    /** A call that is refused answers so and changes nothing. */
    static void refused(String call, ToIntFunction<RoundDays> refused) {
        leaves(call, refused, NONE);
    }

    /** A call that answers so changes nothing. */
    static void leaves(String call, ToIntFunction<RoundDays> asked, int want) {
        RoundDays x = busy();
        String before = seen(x);
        due(call, asked.applyAsInt(x), want);
        due("all behind " + call, seen(x), before);
        due("undo() behind " + call, x.undo(), 0);
        due("days behind undo() behind " + call, x.now(1), 5);
    }
}

/** Rule 7 of LANGUAGE.md: whatever the arguments and the state, a call throws what the document names alone. */
public final class AnyArgumentsTest extends Checks {
    private static final int[] NUMBERS = {MIN, MIN + 1, -15, -2, -1, 0, 1, 2, 3, 4, 5, 6, 7, 8, 11, 12, 13, 14, 15, 16,
        31, 32, 33, 60, 61, 64, 132, 133, 255, 256, 700, 740, 741, 1 << 28, MAX - 1, MAX};
    /** An object is used for 512 calls at most; making it takes some of them. */
    private static final int CALLS_OF_AN_OBJECT = 300;

    /** One call of the face; what it does not take of the three numbers is left aside. */
    private interface Call {
        void on(RoundDays x, int a, int b, int c);
    }

    private interface Made {
        RoundDays object();
    }

    public static void main(String[] args) {
        sentence("a call throws exactly what the document says");
        Made[] states = {
            RoundDays::new,
            () -> of("teams 4;"),
            () -> of(FOUR),
            () -> of(STUCK),
            AnyArgumentsTest::fullTape,
            () -> of("teams 14;"),
            () -> partOf(14, 5),
            () -> partOf(14, 10),
            () -> family(1, 14),
            AnyArgumentsTest::manyActs,
        };
        for (int i = 0; i < states.length; i++) {
            callAll("state " + i, states[i]);
        }
        finish();
    }

    private static RoundDays fullTape() {
        RoundDays x = of(EIGHT_BY_FOURS);
        feed(x, "day;".repeat(185));
        return x;
    }

    private static RoundDays partOf(int teams, int days) {
        RoundDays x = family(0, teams);
        for (int day = teams - 2; day >= days; day--) {
            x.drop(day / 2);
        }
        x.image(1);
        return x;
    }

    private static RoundDays manyActs() {
        RoundDays x = of(SIX_PERFECT);
        for (int i = 0; i < 20; i++) {
            x.name(0, 1 + i % 5);
        }
        return x;
    }

    private static void callAll(String state, Made made) {
        askOnce(state, made);
        one(state + " now", made, (x, a, b, c) -> x.now(a));
        two(state + " meets", made, (x, a, b, c) -> x.meets(a, b));
        two(state + " met", made, (x, a, b, c) -> x.met(a, b));
        two(state + " rings", made, (x, a, b, c) -> x.rings(a, b));
        two(state + " ring", made, (x, a, b, c) -> {
            for (int i : new int[] {MIN, -1, 0, 1, 2, 7, 32, MAX}) {
                ring(x, a, b, i);
            }
        });
        one(state + " make", made, (x, a, b, c) -> x.make(a));
        one(state + " sign", made, (x, a, b, c) -> x.sign(a));
        one(state + " come", made, (x, a, b, c) -> x.come(true, a));
        one(state + " come", made, (x, a, b, c) -> x.come(false, a));
        one(state + " sure", made, (x, a, b, c) -> x.sure(a));
        one(state + " alike", made, (x, a, b, c) -> x.alike(a));
        two(state + " starters", made, (x, a, b, c) -> x.starters(a, b));
        three(state + " starter", made, (x, a, b, c) -> x.starter(a, b, c));
        act(state, made);
    }

    private static void askOnce(String state, Made made) {
        one(state + " fault", made, (x, a, b, c) -> x.fault());
        one(state + " may", made, (x, a, b, c) -> x.may());
        one(state + " turned", made, (x, a, b, c) -> x.turned());
        one(state + " text", made, (x, a, b, c) -> x.text());
        one(state + " tell", made, (x, a, b, c) -> x.tell());
        one(state + " sort", made, (x, a, b, c) -> x.sort());
        one(state + " undo", made, (x, a, b, c) -> x.undo());
        one(state + " add", made, (x, a, b, c) -> x.add(true));
        one(state + " add", made, (x, a, b, c) -> x.add(false));
        one(state + " addAll", made, (x, a, b, c) -> x.addAll(true));
        one(state + " addAll", made, (x, a, b, c) -> x.addAll(false));
    }

    private static void act(String state, Made made) {
        two(state + " feed", made, (x, a, b, c) -> x.feed(a, b, a, b, a));
        one(state + " end", made, (x, a, b, c) -> x.end(a));
        two(state + " family", made, (x, a, b, c) -> x.family(a, b));
        two(state + " by", made, (x, a, b, c) -> x.by(a, b));
        one(state + " drop", made, (x, a, b, c) -> x.drop(a));
        one(state + " weed", made, (x, a, b, c) -> x.weed(a));
        two(state + " name", made, (x, a, b, c) -> x.name(a, b));
        two(state + " drawn", made, (x, a, b, c) -> x.drawn(a, b));
        one(state + " image", made, (x, a, b, c) -> x.image(a));
        one(state + " restore", made, (x, a, b, c) -> x.restore(a));
    }

    private static void one(String what, Made made, Call call) {
        RoundDays x = made.object();
        for (int a : NUMBERS) {
            dueNoThrow(what, x, call, a, 0, 0);
        }
    }

    private static void two(String what, Made made, Call call) {
        for (int a : NUMBERS) {
            RoundDays x = made.object();
            for (int b : NUMBERS) {
                dueNoThrow(what, x, call, a, b, 0);
            }
        }
    }

    private static void three(String what, Made made, Call call) {
        RoundDays x = made.object();
        int calls = 0;
        for (int a : NUMBERS) {
            for (int b : NUMBERS) {
                for (int c : NUMBERS) {
                    if (calls % CALLS_OF_AN_OBJECT == 0) {
                        x = made.object();
                    }
                    dueNoThrow(what, x, call, a, b, c);
                    calls++;
                }
            }
        }
    }

    private static void dueNoThrow(String what, RoundDays x, Call call, int a, int b, int c) {
        String thrown = "nothing";
        try {
            call.on(x, a, b, c);
        } catch (RuntimeException | Error e) {
            thrown = e.getClass().getSimpleName();
        }
        due(what + "(" + a + ", " + b + ", " + c + ") throws", thrown, "nothing");
    }
}

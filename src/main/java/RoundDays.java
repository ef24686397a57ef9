import java.util.NoSuchElementException;

/** Round schedules: teams, and days on which each team meets one. The promises are those of DOC.md. */
public final class RoundDays {
    public static final int NONE = -1;

    private static final int LEAST_TEAMS = 4;
    private static final int MOST_TEAMS = 14;
    private static final int MOST_DAYS = 13;
    private static final int LEAST_STARTER = 3;
    private static final int MOST_STARTER = 13;
    private static final int MOST_RINGS = 7;
    private static final int MOST_TAPE = 740;
    private static final int MOST_TEXT = 700;
    private static final int MOST_DEEDS = 60;
    private static final int ACTS_KEPT = 8;
    private static final int PLACES = 2;

    private final Tape tape;
    private final Reader reader;
    private final Plan plan;
    private final Plan[] kept;
    private final boolean[] filled;
    private final Acts acts;
    private final Finder finder;
    private final StarterList starterList;
    private final Profile profile;
    private final Profile keptProfile;
    private final Dice dice;
    private final int[] told;
    private int faultKind;

    public RoundDays() {
        tape = new Tape();
        reader = new Reader();
        plan = new Plan();
        kept = new Plan[PLACES];
        for (int k = 0; k < PLACES; k++) {
            kept[k] = new Plan();
        }
        filled = new boolean[PLACES];
        acts = new Acts();
        finder = new Finder();
        starterList = new StarterList();
        profile = new Profile();
        keptProfile = new Profile();
        dice = new Dice();
        told = new int[MOST_TEAMS];
        faultKind = 0;
    }

    public int feed(int a, int b, int c, int d, int e) {
        if (tape.length + 20 > MOST_TAPE) {
            return NONE;
        }
        tape.push(a);
        tape.push(b);
        tape.push(c);
        tape.push(d);
        tape.push(e);
        return tape.length;
    }

    public boolean end(int n) {
        if (n < 0 || n > tape.length) {
            return false;
        }
        tape.length = n;
        return true;
    }

    public int text() {
        boolean good = reader.read(tape);
        tape.length = 0;
        faultKind = reader.faultKind;
        if (!good) {
            return -1 - reader.faultPlace;
        }
        plan.copy(reader.plan);
        acts.forget();
        return reader.lines;
    }

    public int fault() {
        return faultKind;
    }

    public int now(int what) {
        switch (what) {
            case 0:
                return plan.teams;
            case 1:
                return plan.days;
            case 2:
                return plan.days == plan.teams - 1 ? 1 : 0;
            case 3:
                profile.measure(plan);
                return profile.makes(1) == plan.days * (plan.days - 1) / 2 ? 1 : 0;
            case 4:
                profile.measure(plan);
                return profile.makes(1);
            case 5:
                return acts.held;
            case 6:
                return tape.length;
            default:
                return NONE;
        }
    }

    public int meets(int day, int team) {
        return plan.partner(day, team);
    }

    public int met(int a, int b) {
        return plan.dayOf(a, b);
    }

    public int rings(int d, int e) {
        return plan.hasTwoDays(d, e) ? plan.circles(d, e) : NONE;
    }

    public int ring(int d, int e, int i) throws NoSuchElementException {
        int set = plan.hasTwoDays(d, e) ? plan.circleAt(d, e, i) : 0;
        if (set == 0) {
            throw new NoSuchElementException();
        }
        return set;
    }

    public int make(int n) {
        if (n < 1 || n > MOST_RINGS) {
            return NONE;
        }
        profile.measure(plan);
        return profile.makes(n);
    }

    public int sign(int day) {
        if (!plan.hasDay(day)) {
            return NONE;
        }
        profile.measure(plan);
        return profile.signOf(day);
    }

    public int may() {
        return finder.countAll(plan);
    }

    public int come(boolean best, int team) {
        if (!plan.hasTeam(team) || !finder.find(plan, best)) {
            return NONE;
        }
        return finder.found[team];
    }

    public int sure(int team) {
        return plan.hasTeam(team) ? finder.onlyPartner(plan, team) : NONE;
    }

    public int family(int f, int teams) {
        if (f < 0 || f > 1 || teams < LEAST_TEAMS || teams > MOST_TEAMS || (teams & 1) != 0) {
            return NONE;
        }
        if (f == 1 && (teams & 3) != 2) {
            return NONE;
        }
        acts.keep(plan);
        if (f == 0) {
            plan.fillWheel(teams);
        } else {
            plan.fillTwins(teams);
        }
        return plan.days;
    }

    public int starters(int m, int what) {
        if (!isStarterSize(m) || what < 0 || what > 1) {
            return NONE;
        }
        starterList.countAll(m, what == 1);
        return what == 0 ? starterList.counted : starterList.perfect;
    }

    public int starter(int m, int k, int number) {
        if (!isStarterSize(m) || number < 1 || number >= m || !starterList.find(m, k)) {
            return NONE;
        }
        return starterList.row[number];
    }

    public int by(int m, int k) {
        if (!isStarterSize(m) || !starterList.find(m, k)) {
            return NONE;
        }
        acts.keep(plan);
        plan.fillBy(m, starterList.row);
        return plan.days;
    }

    public int turned() {
        return plan.teams == 0 ? NONE : plan.turns();
    }

    public int alike(int k) {
        if (!isFilled(k)) {
            return NONE;
        }
        Plan other = kept[k];
        if (plan.teams != other.teams || plan.days != other.days) {
            return 0;
        }
        profile.measure(plan);
        keptProfile.measure(other);
        return profile.same(keptProfile) ? 1 : 0;
    }

    public int tell() {
        boolean good = readTold();
        tape.length = 0;
        if (!good) {
            return NONE;
        }
        acts.keep(plan);
        plan.append(told);
        return plan.days;
    }

    public int add(boolean best) {
        if (!finder.find(plan, best)) {
            return NONE;
        }
        acts.keep(plan);
        plan.append(finder.found);
        return plan.days;
    }

    public int addAll(boolean best) {
        int came = 0;
        while (came < MOST_DAYS && finder.find(plan, best)) {
            if (came == 0) {
                acts.keep(plan);
            }
            plan.append(finder.found);
            came++;
        }
        return came;
    }

    public int drop(int day) {
        if (!plan.hasDay(day)) {
            return NONE;
        }
        acts.keep(plan);
        plan.remove(day);
        return plan.days;
    }

    public int weed(int n) {
        profile.measure(plan);
        int gone = profile.daysBelow(n);
        if (gone == 0) {
            return 0;
        }
        acts.keep(plan);
        // From the last one, so that the numbers of the days ahead still fit their signs.
        for (int day = plan.days - 1; day >= 0; day--) {
            if (profile.signOf(day) < n) {
                plan.remove(day);
            }
        }
        return gone;
    }

    public int name(int a, int b) {
        if (!plan.hasTwoTeams(a, b)) {
            return NONE;
        }
        acts.keep(plan);
        return plan.swapTeams(a, b);
    }

    public int sort() {
        int moved = plan.outOfOrder();
        if (moved > 0) {
            acts.keep(plan);
            plan.putInOrder();
        }
        return moved;
    }

    public int drawn(int n, int seed) {
        if (n < 1 || n > MOST_DEEDS) {
            return NONE;
        }
        if (plan.teams == 0) {
            return 0;
        }
        acts.keep(plan);
        dice.seed = seed;
        for (int i = 0; i < n; i++) {
            doDrawnDeed();
        }
        return plan.days;
    }

    public int undo() {
        return acts.takeBack(plan) ? acts.held : NONE;
    }

    public boolean image(int k) {
        if (k < 0 || k >= PLACES) {
            return false;
        }
        kept[k].copy(plan);
        filled[k] = true;
        return true;
    }

    public boolean restore(int k) {
        if (!isFilled(k)) {
            return false;
        }
        plan.copy(kept[k]);
        acts.forget();
        return true;
    }

    private boolean isFilled(int k) {
        return k >= 0 && k < PLACES && filled[k];
    }

    private static boolean isStarterSize(int m) {
        return m >= LEAST_STARTER && m <= MOST_STARTER && (m & 1) == 1;
    }

    /** Whether the tape tells a day that may come; it stands in the row 'told' then. */
    private boolean readTold() {
        if (plan.teams == 0 || tape.length != plan.teams) {
            return false;
        }
        for (int team = 0; team < plan.teams; team++) {
            int other = tape.at(team);
            if (!plan.hasTwoTeams(team, other) || tape.at(other) != team || plan.dayOf(team, other) != NONE) {
                return false;
            }
            told[team] = other;
        }
        return true;
    }

    private void doDrawnDeed() {
        if (dice.draw(4) == 0) {
            dropDrawnDay();
        } else {
            renameDrawnTeams();
        }
    }

    /** FIRST does not come behind a day that went: in DRAWN it belongs to the change of names alone. */
    private void dropDrawnDay() {
        if (plan.days > 0) {
            plan.remove(dice.draw(plan.days));
        }
    }

    private void renameDrawnTeams() {
        int a = dice.draw(plan.teams);
        int b = dice.draw(plan.teams);
        if (a != b) {
            plan.swapTeams(a, b);
        }
        if (finder.find(plan, false)) {
            plan.append(finder.found);
        }
    }

    /** The bytes that came and were not read yet. */
    private static final class Tape {
        final int[] bytes = new int[MOST_TAPE];
        int length;

        void push(int number) {
            for (int shift = 24; shift >= 0; shift -= 8) {
                if (length < MOST_TAPE) {
                    bytes[length] = number >> shift & 255;
                    length++;
                }
            }
        }

        int at(int place) {
            return place < 0 || place >= length ? NONE : bytes[place];
        }
    }

    /** The draws of a seed. */
    private static final class Dice {
        int seed;

        int draw(int n) {
            seed = seed * 1103515245 + 12345;
            return n <= 0 ? 0 : (seed >>> 8) % n;
        }
    }

    /** Reads a tape as a text into a plan of its own, so that a fault leaves the object's plan alone. */
    private static final class Reader {
        private static final int END = 0;
        private static final int NO_TOKEN = 1;
        private static final int SEMICOLON = 2;
        private static final int NUMBER = 3;
        private static final int WORD_TEAMS = 4;
        private static final int WORD_DAY = 5;

        private static final int CANNOT_COME = 1;
        private static final int WRONG_NUMBER = 2;
        private static final int TOLD_AGAIN = 3;
        private static final int DAY_TOO_MANY = 4;

        final Plan plan = new Plan();
        int lines;
        int faultKind;
        int faultPlace;

        private final int[] row = new int[MOST_TEAMS];
        private int next;
        private int start;
        private int kind;
        private int value;

        boolean read(Tape tape) {
            plan.clear(0);
            lines = 0;
            faultKind = 0;
            faultPlace = 0;
            next = 0;
            step(tape);
            // A line has two tokens or more, so there are far fewer lines than bytes.
            for (int line = 0; line < MOST_TEXT && kind != END; line++) {
                boolean good = line == 0 ? readTeams(tape) : readDay(tape);
                if (!good) {
                    return false;
                }
            }
            return true;
        }

        private boolean readTeams(Tape tape) {
            if (kind != WORD_TEAMS) {
                return refuse(CANNOT_COME);
            }
            step(tape);
            if (kind != NUMBER) {
                return refuse(CANNOT_COME);
            }
            if (value < LEAST_TEAMS || value > MOST_TEAMS || (value & 1) != 0) {
                return refuse(WRONG_NUMBER);
            }
            plan.clear(value);
            return readLineEnd(tape);
        }

        private boolean readDay(Tape tape) {
            if (kind != WORD_DAY) {
                return refuse(CANNOT_COME);
            }
            if (plan.days >= plan.teams - 1) {
                return refuse(DAY_TOO_MANY);
            }
            int toldTeams = 0;
            int first = 0;
            for (int i = 0; i < plan.teams; i++) {
                step(tape);
                if (!readTeam(toldTeams)) {
                    return false;
                }
                toldTeams |= 1 << value;
                if ((i & 1) == 0) {
                    first = value;
                } else if (!readPair(first, value)) {
                    return false;
                }
            }
            if (!readLineEnd(tape)) {
                return false;
            }
            plan.append(row);
            return true;
        }

        private boolean readTeam(int toldTeams) {
            if (kind != NUMBER) {
                return refuse(CANNOT_COME);
            }
            if (!plan.hasTeam(value)) {
                return refuse(WRONG_NUMBER);
            }
            return (toldTeams >> value & 1) == 0 || refuse(TOLD_AGAIN);
        }

        private boolean readPair(int a, int b) {
            if (plan.dayOf(a, b) != NONE || !plan.hasTwoTeams(a, b)) {
                return refuse(TOLD_AGAIN);
            }
            row[a] = b;
            row[b] = a;
            return true;
        }

        private boolean readLineEnd(Tape tape) {
            step(tape);
            if (kind != SEMICOLON) {
                return refuse(CANNOT_COME);
            }
            lines++;
            step(tape);
            return true;
        }

        private boolean refuse(int why) {
            faultKind = why;
            faultPlace = start;
            return false;
        }

        /** Goes to the next token: its kind, where it starts and, of a number, its value. */
        private void step(Tape tape) {
            while (next < tape.length && isBlank(tape.at(next))) {
                next++;
            }
            start = next;
            if (tape.length > MOST_TEXT && next >= MOST_TEXT) {
                start = MOST_TEXT;
                kind = NO_TOKEN;
            } else if (next >= tape.length) {
                kind = END;
            } else if (tape.at(next) == ';') {
                next++;
                kind = SEMICOLON;
            } else {
                stepOverRun(tape);
            }
        }

        private void stepOverRun(Tape tape) {
            int letters = 0;
            int digits = 0;
            value = 0;
            while (next < tape.length && (isLetter(tape.at(next)) || isDigit(tape.at(next)))) {
                if (isLetter(tape.at(next))) {
                    letters++;
                } else {
                    digits++;
                    value = value * 10 + tape.at(next) - '0';
                }
                next++;
            }
            if (letters == 0 && (digits == 1 || digits == 2)) {
                kind = NUMBER;
            } else if (spells(tape, "teams")) {
                kind = WORD_TEAMS;
            } else if (spells(tape, "day")) {
                kind = WORD_DAY;
            } else {
                kind = NO_TOKEN;
            }
        }

        private boolean spells(Tape tape, String word) {
            if (next - start != word.length() || next > tape.length) {
                return false;
            }
            for (int i = 0; i < word.length(); i++) {
                if (tape.bytes[start + i] != word.charAt(i)) {
                    return false;
                }
            }
            return true;
        }

        private static boolean isBlank(int sign) {
            return sign == 32 || sign == 10;
        }

        private static boolean isLetter(int sign) {
            return sign >= 'a' && sign <= 'z';
        }

        private static boolean isDigit(int sign) {
            return sign >= '0' && sign <= '9';
        }
    }

    /** Teams and days; the row of a day tells team by team whom it meets. */
    private static final class Plan {
        int teams;
        int days;
        private final int[] rows = new int[MOST_DAYS * MOST_TEAMS];

        void clear(int newTeams) {
            teams = newTeams;
            days = 0;
        }

        void copy(Plan from) {
            teams = from.teams;
            days = from.days;
            System.arraycopy(from.rows, 0, rows, 0, rows.length);
        }

        boolean hasTeam(int team) {
            return team >= 0 && team < teams;
        }

        boolean hasTwoTeams(int a, int b) {
            return a != b && a >= 0 && a < teams && b >= 0 && b < teams;
        }

        boolean hasDay(int day) {
            return day >= 0 && day < days;
        }

        boolean hasTwoDays(int d, int e) {
            return d != e && d >= 0 && d < days && e >= 0 && e < days;
        }

        int partner(int day, int team) {
            if (day < 0 || day >= days || team < 0 || team >= teams) {
                return NONE;
            }
            return rows[day * MOST_TEAMS + team];
        }

        int dayOf(int a, int b) {
            if (!hasTwoTeams(a, b)) {
                return NONE;
            }
            for (int day = 0; day < days; day++) {
                if (rows[day * MOST_TEAMS + a] == b) {
                    return day;
                }
            }
            return NONE;
        }

        /** The teams of the ring of two days on which a team stands. */
        private int circleOf(int d, int e, int team) {
            int set = 0;
            int at = team;
            for (int step = 0; step < MOST_TEAMS && (set >> at & 1) == 0; step++) {
                int other = partner(d, at);
                set |= 1 << at | 1 << other;
                at = partner(e, other);
            }
            return set;
        }

        int circles(int d, int e) {
            int seen = 0;
            int count = 0;
            for (int team = 0; team < teams; team++) {
                if ((seen >> team & 1) == 0) {
                    seen |= circleOf(d, e, team);
                    count++;
                }
            }
            return count;
        }

        /** The i-th ring of two days, as bits; 0 if there are not so many. */
        int circleAt(int d, int e, int i) {
            int seen = 0;
            int count = 0;
            for (int team = 0; team < teams; team++) {
                if ((seen >> team & 1) == 0) {
                    int set = circleOf(d, e, team);
                    if (count == i) {
                        return set;
                    }
                    seen |= set;
                    count++;
                }
            }
            return 0;
        }

        /** Whether the first day makes one ring with each other one. */
        boolean isFirstOneWithAll() {
            int all = (1 << teams) - 1;
            for (int day = 1; day < days; day++) {
                if (circleOf(0, day, 0) != all) {
                    return false;
                }
            }
            return true;
        }

        void append(int[] row) {
            if (days >= MOST_DAYS || row.length < MOST_TEAMS) {
                return;
            }
            System.arraycopy(row, 0, rows, days * MOST_TEAMS, MOST_TEAMS);
            days++;
        }

        void remove(int day) {
            if (!hasDay(day)) {
                return;
            }
            int behind = (days - 1 - day) * MOST_TEAMS;
            System.arraycopy(rows, (day + 1) * MOST_TEAMS, rows, day * MOST_TEAMS, behind);
            days--;
        }

        /** Two teams change names: on how many days they do not meet. */
        int swapTeams(int a, int b) {
            if (!hasTwoTeams(a, b)) {
                return 0;
            }
            int apart = 0;
            for (int day = 0; day < days; day++) {
                int ofA = partner(day, a);
                int ofB = partner(day, b);
                if (ofA != b) {
                    pair(day, a, ofB);
                    pair(day, b, ofA);
                    apart++;
                }
            }
            return apart;
        }

        /** Two teams meet on a day; what are no two teams is passed over. */
        private void pair(int day, int a, int b) {
            if (day >= 0 && day < days && hasTwoTeams(a, b)) {
                rows[day * MOST_TEAMS + a] = b;
                rows[day * MOST_TEAMS + b] = a;
            }
        }

        /** Below 0 if day d comes ahead of day e in order, above 0 behind it, 0 if they are one. */
        private int order(int d, int e) {
            for (int team = 0; team < teams; team++) {
                int difference = partner(d, team) - partner(e, team);
                if (difference != 0) {
                    return difference;
                }
            }
            return 0;
        }

        /** How many days stand elsewhere than they would in order. */
        int outOfOrder() {
            int moved = 0;
            for (int day = 0; day < days; day++) {
                int ahead = 0;
                for (int other = 0; other < days; other++) {
                    if (order(other, day) < 0) {
                        ahead++;
                    }
                }
                if (ahead != day) {
                    moved++;
                }
            }
            return moved;
        }

        void putInOrder() {
            for (int day = 1; day < days; day++) {
                for (int at = day; at > 0 && order(at, at - 1) < 0; at--) {
                    swapDays(at, at - 1);
                }
            }
        }

        private void swapDays(int d, int e) {
            if (!hasTwoDays(d, e)) {
                return;
            }
            for (int team = 0; team < MOST_TEAMS; team++) {
                int kept = rows[d * MOST_TEAMS + team];
                rows[d * MOST_TEAMS + team] = rows[e * MOST_TEAMS + team];
                rows[e * MOST_TEAMS + team] = kept;
            }
        }

        /** The turns that make each day one of the days, as bits. */
        int turns() {
            int set = 0;
            for (int c = 0; c < teams - 1; c++) {
                boolean stays = true;
                for (int day = 0; day < days && stays; day++) {
                    stays = isTurnedToDay(day, c);
                }
                if (stays) {
                    set |= 1 << c;
                }
            }
            return set;
        }

        private boolean isTurnedToDay(int day, int c) {
            // Two teams meet on one day at most: the pair of team 0 alone says which day it could be.
            int target = dayOf(turn(0, c), turn(partner(day, 0), c));
            if (target == NONE) {
                return false;
            }
            for (int team = 1; team < teams; team++) {
                if (partner(target, turn(team, c)) != turn(partner(day, team), c)) {
                    return false;
                }
            }
            return true;
        }

        private int turn(int team, int c) {
            int last = teams - 1;
            return last <= 0 || team >= last ? team : (team + c) % last;
        }

        void fillWheel(int newTeams) {
            int m = newTeams - 1;
            if (m < 1 || m > MOST_DAYS) {
                return;
            }
            clear(newTeams);
            days = m;
            for (int day = 0; day < m; day++) {
                pair(day, m, day);
                for (int k = 1; k < newTeams / 2; k++) {
                    pair(day, (day + k) % m, (day + m - k) % m);
                }
            }
        }

        void fillTwins(int newTeams) {
            if (newTeams < LEAST_TEAMS || newTeams > MOST_TEAMS) {
                return;
            }
            int p = newTeams / 2;
            clear(newTeams);
            days = newTeams - 1;
            for (int day = 0; day < p; day++) {
                pair(day, day, day + p);
                for (int x = 0; x < newTeams; x++) {
                    pair(day, x, (2 * day + newTeams - x) % newTeams);
                }
            }
            int day = p;
            for (int i = 1; i < newTeams; i += 2) {
                if (i != p) {
                    for (int x = 0; x < newTeams; x += 2) {
                        pair(day, x, (x + i) % newTeams);
                    }
                    day++;
                }
            }
        }

        /** The schedule by a starter of m, whose row tells of each number (from 1) the other one. */
        void fillBy(int m, int[] row) {
            if (m < 1 || m > MOST_DAYS || row.length < m) {
                return;
            }
            clear(m + 1);
            days = m;
            for (int day = 0; day < m; day++) {
                pair(day, m, day);
                for (int a = 1; a < m; a++) {
                    pair(day, (a + day) % m, (row[a] + day) % m);
                }
            }
        }
    }

    /** The plans as they were ahead of the latest acts. */
    private static final class Acts {
        int held;
        private int next;
        private final Plan[] before;

        Acts() {
            before = new Plan[ACTS_KEPT];
            for (int i = 0; i < ACTS_KEPT; i++) {
                before[i] = new Plan();
            }
        }

        void forget() {
            held = 0;
        }

        void keep(Plan plan) {
            before[next].copy(plan);
            next = (next + 1) % ACTS_KEPT;
            held = Math.min(held + 1, ACTS_KEPT);
        }

        boolean takeBack(Plan plan) {
            if (held == 0) {
                return false;
            }
            next = (next + ACTS_KEPT - 1) % ACTS_KEPT;
            held--;
            plan.copy(before[next]);
            return true;
        }
    }

    /** How the days of a plan differ in their rings. */
    private static final class Profile {
        private int days;
        private final int[] signs = new int[MOST_DAYS];
        private final int[] daysOfSign = new int[MOST_DAYS];
        private final int[] pairsOfRings = new int[MOST_RINGS + 1];

        void measure(Plan plan) {
            days = Math.min(plan.days, MOST_DAYS);
            clear();
            for (int d = 0; d < days; d++) {
                for (int e = d + 1; e < days; e++) {
                    int rings = plan.circles(d, e);
                    if (rings >= 0 && rings <= MOST_RINGS) {
                        pairsOfRings[rings]++;
                    }
                    if (rings == 1) {
                        signs[d]++;
                        signs[e]++;
                    }
                }
            }
            for (int day = 0; day < days; day++) {
                int sign = signs[day];
                if (sign >= 0 && sign < MOST_DAYS) {
                    daysOfSign[sign]++;
                }
            }
        }

        private void clear() {
            for (int i = 0; i < MOST_DAYS; i++) {
                signs[i] = 0;
                daysOfSign[i] = 0;
            }
            for (int i = 0; i <= MOST_RINGS; i++) {
                pairsOfRings[i] = 0;
            }
        }

        int makes(int n) {
            return n < 0 || n > MOST_RINGS ? NONE : pairsOfRings[n];
        }

        int signOf(int day) {
            return day < 0 || day >= days ? NONE : signs[day];
        }

        int daysBelow(int n) {
            int count = 0;
            for (int sign = 0; sign < MOST_DAYS && sign < n; sign++) {
                count += daysOfSign[sign];
            }
            return count;
        }

        /** How many days have each sign says the same as all signs, the least first. */
        boolean same(Profile other) {
            for (int i = 0; i < MOST_DAYS; i++) {
                if (daysOfSign[i] != other.daysOfSign[i]) {
                    return false;
                }
            }
            for (int i = 0; i <= MOST_RINGS; i++) {
                if (pairsOfRings[i] != other.pairsOfRings[i]) {
                    return false;
                }
            }
            return true;
        }
    }

    /**
     * Looks for days that may come. The lowest team left is paired first, with the least that it can
     * meet, so days are gone through in order. Sets of teams are bits.
     */
    private static final class Finder {
        private static final int SETS = 1 << MOST_TEAMS - 2;

        final int[] found = new int[MOST_TEAMS];
        private final int[] free = new int[MOST_TEAMS];
        private int all;
        private int days;
        /** Of each day and team left: the other end of the way of told and new pairs that ends with it. */
        private final int[] ends = new int[MOST_DAYS * MOST_TEAMS];
        /** A set whose stamp is the present search's has been gone through: ways tells how many days it has. */
        private final int[] stamps = new int[SETS];
        private final int[] ways = new int[SETS];
        private int search;

        int countAll(Plan plan) {
            if (plan.teams == 0) {
                return 0;
            }
            look(plan);
            return countFrom(all, 0);
        }

        /** Whether there is a first or best day; it stands in the row 'found' then. */
        boolean find(Plan plan, boolean best) {
            if (plan.teams == 0) {
                return false;
            }
            look(plan);
            if (!best) {
                return firstFrom(all, 0);
            }
            lookAtEnds(plan);
            return bestFrom(all, 0);
        }

        int onlyPartner(Plan plan, int team) {
            if (!find(plan, false) || !plan.hasTeam(team)) {
                return NONE;
            }
            int other = found[team];
            if (!plan.hasTeam(other)) {
                return NONE;
            }
            free[team] &= ~(1 << other);
            free[other] &= ~(1 << team);
            search++;
            return firstFrom(all, 0) ? NONE : other;
        }

        private void look(Plan plan) {
            all = (1 << plan.teams) - 1;
            days = Math.min(plan.days, MOST_DAYS);
            search++;
            for (int team = 0; team < MOST_TEAMS; team++) {
                int met = 1 << team;
                for (int day = 0; day < days; day++) {
                    met |= 1 << plan.partner(day, team);
                }
                free[team] = all & ~met;
                found[team] = 0;
            }
        }

        private void lookAtEnds(Plan plan) {
            for (int day = 0; day < days; day++) {
                for (int team = 0; team < plan.teams; team++) {
                    ends[day * MOST_TEAMS + team] = plan.partner(day, team);
                }
            }
        }

        /**
         * The place of a set by its teams 1 to 12. Each set is even, so these tell whether team 13 is in it; team 0
         * is in the whole set alone, which is looked up ahead of all others and kept behind them.
         */
        private static int slot(int left) {
            return left >> 1 & SETS - 1;
        }

        private static int lowest(int left, int from) {
            int team = from;
            while (team < MOST_TEAMS && (left >> team & 1) == 0) {
                team++;
            }
            return team;
        }

        private int countFrom(int left, int from) {
            if (left == 0) {
                return 1;
            }
            int a = lowest(left, from);
            if (a >= MOST_TEAMS) {
                return 0;
            }
            int slot = slot(left);
            if (stamps[slot] == search) {
                return ways[slot];
            }
            int open = free[a] & left;
            int count = 0;
            for (int b = a + 1; b < MOST_TEAMS; b++) {
                if ((open >> b & 1) == 1) {
                    count += countFrom(left & ~(1 << a | 1 << b), a + 1);
                }
            }
            stamps[slot] = search;
            ways[slot] = count;
            return count;
        }

        private boolean firstFrom(int left, int from) {
            if (left == 0) {
                return true;
            }
            int a = lowest(left, from);
            // A set that was left with a stamp had no day.
            if (a >= MOST_TEAMS || stamps[slot(left)] == search) {
                return false;
            }
            int open = free[a] & left;
            for (int b = a + 1; b < MOST_TEAMS; b++) {
                if ((open >> b & 1) == 1 && firstFrom(left & ~(1 << a | 1 << b), a + 1)) {
                    found[a] = b;
                    found[b] = a;
                    return true;
                }
            }
            stamps[slot(left)] = search;
            return false;
        }

        private boolean bestFrom(int left, int from) {
            if (left == 0) {
                return true;
            }
            int a = lowest(left, from);
            if (a >= MOST_TEAMS) {
                return false;
            }
            int open = free[a] & left & ~closers(left, a);
            for (int b = a + 1; b < MOST_TEAMS; b++) {
                if ((open >> b & 1) == 1) {
                    join(a, b);
                    if (bestFrom(left & ~(1 << a | 1 << b), a + 1)) {
                        found[a] = b;
                        found[b] = a;
                        return true;
                    }
                    part(a, b);
                }
            }
            return false;
        }

        /** Teams that would close a ring with team a too early; the last pair must close them all. */
        private int closers(int left, int a) {
            if (Integer.bitCount(left) == 2) {
                return 0;
            }
            int set = 0;
            for (int day = 0; day < days; day++) {
                set |= 1 << ends[day * MOST_TEAMS + a];
            }
            return set;
        }

        private void join(int a, int b) {
            for (int day = 0; day < days; day++) {
                int row = day * MOST_TEAMS;
                int endA = ends[row + a];
                int endB = ends[row + b];
                setEnd(row, endA, endB);
                setEnd(row, endB, endA);
            }
        }

        /** Takes a join back: the ends told of a and b themselves were left as they were. */
        private void part(int a, int b) {
            for (int day = 0; day < days; day++) {
                int row = day * MOST_TEAMS;
                setEnd(row, ends[row + a], a);
                setEnd(row, ends[row + b], b);
            }
        }

        private void setEnd(int row, int team, int end) {
            if (team >= 0 && team < MOST_TEAMS) {
                ends[row + team] = end;
            }
        }
    }

    /** Goes through the starters of a number in order. */
    private static final class StarterList {
        final int[] row = new int[MOST_STARTER];
        int counted;
        int perfect;
        private final Plan plan = new Plan();
        private int m;
        private int wanted;
        private boolean judging;

        void countAll(int newM, boolean judge) {
            begin(newM, NONE, judge);
            seek(numbers(), 0, 1);
        }

        /** Whether there is a k-th starter; it stands in the row then. */
        boolean find(int newM, int k) {
            begin(newM, k, false);
            return k >= 0 && seek(numbers(), 0, 1);
        }

        private void begin(int newM, int k, boolean judge) {
            m = newM;
            wanted = k;
            judging = judge;
            counted = 0;
            perfect = 0;
        }

        private int numbers() {
            return (1 << m) - 2;
        }

        /** Pairs the numbers left, none below 'from', by differences not in the set gaps; true: the wanted one stands. */
        private boolean seek(int left, int gaps, int from) {
            if (left == 0) {
                return isWanted();
            }
            int a = from;
            while (a < m && (left >> a & 1) == 0) {
                a++;
            }
            if (a >= m || a >= MOST_STARTER) {
                return false;
            }
            for (int b = a + 1; b < m && b < MOST_STARTER; b++) {
                int gap = b - a;
                if ((left >> b & 1) == 1 && (gaps >> gap & 1) == 0) {
                    row[a] = b;
                    row[b] = a;
                    int more = 1 << gap | 1 << m - gap;
                    if (seek(left & ~(1 << a | 1 << b), gaps | more, a + 1)) {
                        return true;
                    }
                }
            }
            return false;
        }

        private boolean isWanted() {
            if (counted == wanted) {
                return true;
            }
            counted++;
            if (judging) {
                plan.fillBy(m, row);
                // Turned, two days become two that are as far from one another: the first day stands for all.
                if (plan.isFirstOneWithAll()) {
                    perfect++;
                }
            }
            return false;
        }
    }
}

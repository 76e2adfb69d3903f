/**
 * A roll of families and of titles that pass in them. Births, unions, deaths and titles are told
 * as texts on a tape; of each day it is told who holds each title and who stands next.
 */
public final class HeirRoll {
    public static final int BAD = -9;

    private static final int FINE = 0;
    private static final int NOT_THERE = 1;
    private static final int WRONG_TEXT = 2;
    private static final int WRONG_NUMBER = 3;
    private static final int BROKEN_BOND = 5;
    private static final int STILL_NAMED = 6;
    private static final int STRUCK_OUT = 8;
    private static final int NO_ROOM = 9;

    private static final int MOST_BYTES = 80;
    private static final int BYTES_OF_A_FEED = 20;
    private static final int MOST_DIGITS = 5;
    private static final int MOST_RECORDS = 200;
    private static final int MOST_PERSONS = 64;
    private static final int MOST_TITLES = 8;
    private static final int LAST_DAY = 99999;
    private static final int GROWN_AFTER = 4000;
    private static final int AWAITED_FOR = 300;

    private static final int BORN = 0;
    private static final int WED = 1;
    private static final int PART = 2;
    private static final int DEAD = 3;
    private static final int TITLE = 4;
    private static final int YIELD = 5;
    private static final int CALL = 6;
    private static final int LOSE = 7;
    private static final int BACK = 8;
    private static final int KINDS = 9;

    private static final int BY_MALES = 0;
    private static final int MIXED = 1;
    private static final int EQUAL = 2;
    private static final int YOUNGEST = 3;
    private static final int NEAREST = 4;
    private static final int WRIT = 5;
    private static final int RULES = 6;

    private static final int NONE = -1;
    private static final int VACANT = -1;
    private static final int ABEYANCE = -2;
    private static final int LOST = -3;
    private static final int NOT_YET = -4;

    private static final int LAST_BOND = 9;

    private final Tape tape = new Tape();
    private final Reader reader = new Reader(tape);
    private final Roll roll = new Roll();
    private final People people = new People();
    private final Unions unions = new Unions();
    private final Descent descent = new Descent(people);
    private final Lineup lineup = new Lineup(people, descent);
    private final Course[] courses = new Course[MOST_TITLES];
    private int lastStatus = FINE;
    private int lastWrongPlace = BAD;
    private int lastBond = 0;

    public HeirRoll() {
        for (int title = 0; title < MOST_TITLES; title++) {
            courses[title] = new Course(title, roll, people, descent, lineup);
        }
    }

    public int feed(int a, int b, int c, int d, int e) {
        if (!tape.hasRoomFor(BYTES_OF_A_FEED)) return refuse(NO_ROOM);
        tape.add(a);
        tape.add(b);
        tape.add(c);
        tape.add(d);
        tape.add(e);
        return accept(tape.size());
    }

    public int end(int n) {
        if (n < 0 || n > tape.size()) return refuse(WRONG_NUMBER);
        tape.keep(n);
        return accept(n);
    }

    public int record() {
        Entry entry = new Entry();
        lastBond = 0;
        lastWrongPlace = reader.readInto(entry);
        tape.keep(0);
        if (lastWrongPlace != BAD) return refuse(WRONG_TEXT);
        if (!roll.knowsAllNamedBy(entry)) return refuse(NOT_THERE);
        if (!roll.hasRoomFor(entry)) return refuse(NO_ROOM);
        roll.add(entry);
        lastBond = firstBrokenBond();
        if (lastBond != 0) roll.dropLatest();
        settle();
        return lastBond != 0 ? refuse(BROKEN_BOND) : accept(roll.size() - 1);
    }

    public int place() {
        return lastWrongPlace;
    }

    public int bond() {
        return lastBond;
    }

    public int strike(int record) {
        lastBond = 0;
        Entry entry = roll.taken(record);
        if (entry == null) return refuse(NOT_THERE);
        if (!entry.stands) return refuse(STRUCK_OUT);
        if (roll.namesWhatIsMadeBy(entry)) return refuse(STILL_NAMED);
        entry.stands = false;
        lastBond = firstBrokenBond();
        if (lastBond != 0) entry.stands = true;
        settle();
        return lastBond != 0 ? refuse(BROKEN_BOND) : accept(roll.countStanding());
    }

    public int count(int what) {
        switch (what) {
            case 0: return accept(roll.size());
            case 1: return accept(roll.countStanding());
            case 2: return accept(roll.persons());
            case 3: return accept(roll.titles());
            case 4: return accept(tape.size());
            default: return refuse(WRONG_NUMBER);
        }
    }

    public int fact(int record, int what) {
        Entry entry = roll.taken(record);
        if (entry == null) return refuse(NOT_THERE);
        switch (what) {
            case 0: return accept(entry.kind);
            case 1: return accept(entry.day);
            case 2: return accept(entry.stands ? 1 : 0);
            case 3: return accept(entry.person);
            case 4: return accept(entry.isOfUnion() ? entry.other : entry.title);
            default: return refuse(WRONG_NUMBER);
        }
    }

    public int person(int p, int what) {
        if (!people.has(p)) return refuse(NOT_THERE);
        switch (what) {
            case 0: return accept(people.isMale(p) ? 1 : 0);
            case 1: return accept(people.bornOn(p));
            case 2: return accept(people.father(p));
            case 3: return accept(people.mother(p));
            case 4: return accept(people.deadOn(p));
            case 5: return accept(descent.isLegit(p) ? 1 : 0);
            default: return refuse(WRONG_NUMBER);
        }
    }

    public int partner(int p, int day) {
        if (!people.has(p)) return refuse(NOT_THERE);
        if (!isDay(day)) return refuse(WRONG_NUMBER);
        return accept(unions.otherIn(p, day));
    }

    public int kin(int p, int q) {
        if (!people.has(p) || !people.has(q)) return refuse(NOT_THERE);
        return accept(people.birthsBetween(p, q));
    }

    public int holder(int title, int day) {
        if (!roll.hasTitle(title)) return refuse(NOT_THERE);
        if (!isDay(day)) return refuse(WRONG_NUMBER);
        Course course = courseOf(title);
        return accept(course.state(course.stepOn(day)));
    }

    public int since(int title, int day) {
        if (!roll.hasTitle(title)) return refuse(NOT_THERE);
        if (!isDay(day)) return refuse(WRONG_NUMBER);
        Course course = courseOf(title);
        return accept(course.firstDay(course.stepOn(day)));
    }

    public int line(int title, int day, int k) {
        if (!roll.hasTitle(title)) return refuse(NOT_THERE);
        if (!isDay(day)) return refuse(WRONG_NUMBER);
        courseOf(title).lineUpOn(day);
        if (k < 0 || k >= lineup.size()) return refuse(NOT_THERE);
        return accept(lineup.at(k));
    }

    public int rank(int title, int p, int day) {
        if (!roll.hasTitle(title) || !people.has(p)) return refuse(NOT_THERE);
        if (!isDay(day)) return refuse(WRONG_NUMBER);
        courseOf(title).lineUpOn(day);
        return accept(lineup.placeOf(p));
    }

    public int coheir(int title, int day, int k) {
        if (!roll.hasTitle(title)) return refuse(NOT_THERE);
        if (!isDay(day)) return refuse(WRONG_NUMBER);
        int heirs = courseOf(title).findCoheirsOn(day);
        if (k < 0 || k >= heirs) return refuse(NOT_THERE);
        return accept(lineup.heir(k));
    }

    public int tenures(int title) {
        if (!roll.hasTitle(title)) return refuse(NOT_THERE);
        return accept(courseOf(title).countTenures());
    }

    public int tenure(int title, int i, int what) {
        if (!roll.hasTitle(title)) return refuse(NOT_THERE);
        Course course = courseOf(title);
        int step = course.stepOfTenure(i);
        if (step == NONE) return refuse(NOT_THERE);
        if (what == 0) return accept(course.state(step));
        if (what == 1) return accept(course.firstDay(step));
        return refuse(WRONG_NUMBER);
    }

    public int holds(int p, int day, int k) {
        if (!people.has(p)) return refuse(NOT_THERE);
        if (!isDay(day)) return refuse(WRONG_NUMBER);
        int held = 0;
        for (int title = 0; title < MOST_TITLES; title++) {
            if (!roll.hasTitle(title)) continue;
            Course course = courseOf(title);
            if (course.state(course.stepOn(day)) != p) continue;
            if (held == k) return accept(title);
            held++;
        }
        return refuse(NOT_THERE);
    }

    public int status() {
        return lastStatus;
    }

    private int accept(int answer) {
        lastStatus = FINE;
        return answer;
    }

    private int refuse(int why) {
        lastStatus = why;
        return BAD;
    }

    private static boolean isDay(int day) {
        return day >= 0 && day <= LAST_DAY;
    }

    private static boolean isPersonNumber(int p) {
        return p >= 0 && p < MOST_PERSONS;
    }

    private int firstBrokenBond() {
        people.rebuild(roll);
        unions.rebuild(roll, people);
        return Bonds.firstBroken(roll, people, unions);
    }

    /** All that hangs on the standing records is made anew, so the order of telling can't matter. */
    private void settle() {
        people.rebuild(roll);
        unions.rebuild(roll, people);
        descent.rebuild(unions);
        lineup.forget();
        for (int title = 0; title < MOST_TITLES; title++) {
            courses[title].forget();
        }
    }

    /** The course of a title that is there, worked out on the first call that wants it. */
    private Course courseOf(int title) {
        Course course = courses[title];
        if (course.isKnown()) return course;
        int day = course.begin();
        for (int i = 0; i < MOST_RECORDS && day != NONE; i++) {
            course.goThrough(day);
            day = course.nextDay(day);
        }
        return course;
    }

    /** The bytes that were fed and not yet read. */
    private static final class Tape {
        private final int[] bytes = new int[MOST_BYTES];
        private int size = 0;

        int size() {
            return size;
        }

        boolean hasRoomFor(int more) {
            return size + more <= MOST_BYTES;
        }

        void add(int four) {
            for (int shift = 24; shift >= 0; shift -= 8) {
                if (size < MOST_BYTES) bytes[size++] = (four >> shift) & 255;
            }
        }

        void keep(int n) {
            if (n >= 0 && n <= size) size = n;
        }

        int at(int i) {
            return i >= 0 && i < size ? bytes[i] : NONE;
        }
    }

    /** One record; what its kind doesn't tell stays NONE. */
    private static final class Entry {
        int kind = NONE;
        int day = NONE;
        int person = NONE;
        int other = NONE;
        int father = NONE;
        int mother = NONE;
        int title = NONE;
        int rule = NONE;
        boolean male = false;
        boolean stands = true;

        boolean isOfUnion() {
            return kind == WED || kind == PART;
        }

        boolean isOfLoss() {
            return kind == LOSE || kind == BACK;
        }

        /** Whether it opens what a later part or back closes. */
        boolean opens() {
            return kind == WED || kind == LOSE;
        }

        /** On one day a part comes ahead of a wed; no others of a pair or title can share a day. */
        int turn() {
            return 2 * day + (kind == WED ? 1 : 0);
        }

        boolean takesTurnsWith(Entry e) {
            if (isOfUnion()) return e.isOfUnion() && e.person == person && e.other == other;
            return isOfLoss() && e.isOfLoss() && e.title == title;
        }
    }

    /** Reads the text on the tape; only the first fault counts, so reading goes on behind it. */
    private static final class Reader {
        private final Tape tape;
        private int from = 0;
        private int to = 0;
        private int wrongAt = BAD;

        Reader(Tape tape) {
            this.tape = tape;
        }

        /** Where the text is wrong; BAD if it is right. */
        int readInto(Entry entry) {
            from = 0;
            to = 0;
            wrongAt = BAD;
            entry.kind = takeKind();
            entry.day = takeNumber();
            takeWhatIsOf(entry);
            next();
            if (from < tape.size()) fail();
            return wrongAt;
        }

        private void takeWhatIsOf(Entry entry) {
            switch (entry.kind) {
                case BORN:
                    takeBirth(entry);
                    break;
                case WED:
                case PART:
                    entry.person = takeNumber();
                    entry.other = takeNumber();
                    break;
                case DEAD:
                    entry.person = takeNumber();
                    break;
                case TITLE:
                    entry.person = takeNumber();
                    entry.rule = takeRule();
                    break;
                case YIELD:
                case CALL:
                    entry.person = takeNumber();
                    entry.title = takeNumber();
                    break;
                default:
                    entry.title = takeNumber();
                    break;
            }
        }

        private void takeBirth(Entry entry) {
            next();
            entry.male = isWord("male");
            if (!entry.male && !isWord("female")) fail();
            takeWord("of");
            entry.father = takeParent();
            takeWord("and");
            entry.mother = takeParent();
        }

        private int takeKind() {
            next();
            for (int kind = 0; kind < KINDS; kind++) {
                if (isWord(kindWord(kind))) return kind;
            }
            fail();
            return NONE;
        }

        private int takeRule() {
            next();
            for (int rule = 0; rule < RULES; rule++) {
                if (isWord(ruleWord(rule))) return rule;
            }
            fail();
            return NONE;
        }

        private void takeWord(String word) {
            next();
            if (!isWord(word)) fail();
        }

        private int takeParent() {
            next();
            return isWord("none") ? NONE : numberAtHand();
        }

        private int takeNumber() {
            next();
            return numberAtHand();
        }

        private int numberAtHand() {
            int digits = to - from;
            if (!isDigit(tape.at(from)) || digits > MOST_DIGITS) {
                fail();
                return NONE;
            }
            int number = 0;
            for (int i = from; i < to; i++) {
                number = 10 * number + tape.at(i) - '0';
            }
            return number;
        }

        /** Goes on to the next word or number; of an odd byte, or at the tape's end, it is empty. */
        private void next() {
            from = to;
            while (from < tape.size() && tape.at(from) == ' ') from++;
            to = from;
            if (isLetter(tape.at(from))) {
                while (to < tape.size() && isLetter(tape.at(to))) to++;
            } else {
                while (to < tape.size() && isDigit(tape.at(to))) to++;
            }
        }

        private boolean isWord(String word) {
            if (to - from != word.length()) return false;
            for (int i = 0; i < word.length(); i++) {
                if (tape.at(from + i) != word.charAt(i)) return false;
            }
            return true;
        }

        private void fail() {
            if (wrongAt == BAD) wrongAt = from;
        }

        private static boolean isLetter(int b) {
            return b >= 'a' && b <= 'z';
        }

        private static boolean isDigit(int b) {
            return b >= '0' && b <= '9';
        }

        private static String kindWord(int kind) {
            switch (kind) {
                case BORN: return "born";
                case WED: return "wed";
                case PART: return "part";
                case DEAD: return "dead";
                case TITLE: return "title";
                case YIELD: return "yield";
                case CALL: return "call";
                case LOSE: return "lost";
                default: return "back";
            }
        }

        private static String ruleWord(int rule) {
            switch (rule) {
                case BY_MALES: return "male";
                case MIXED: return "mixed";
                case EQUAL: return "equal";
                case YOUNGEST: return "last";
                case NEAREST: return "near";
                default: return "writ";
            }
        }
    }

    /** The records by their numbers, and which of them made each person and title. */
    private static final class Roll {
        private final Entry[] entries = new Entry[MOST_RECORDS];
        private final Entry[] births = new Entry[MOST_PERSONS];
        private final Entry[] grants = new Entry[MOST_TITLES];
        private int size = 0;
        private int persons = 0;
        private int titles = 0;

        int size() {
            return size;
        }

        int persons() {
            return persons;
        }

        int titles() {
            return titles;
        }

        /** A record, struck out or not; null if there is none of the number. */
        Entry taken(int number) {
            return number >= 0 && number < size ? entries[number] : null;
        }

        /** A record, if it stands; null if it doesn't. */
        Entry standing(int number) {
            Entry entry = taken(number);
            return entry != null && entry.stands ? entry : null;
        }

        int countStanding() {
            int n = 0;
            for (int i = 0; i < size; i++) {
                if (standing(i) != null) n++;
            }
            return n;
        }

        boolean hasPerson(int p) {
            return p >= 0 && p < persons && births[p] != null && births[p].stands;
        }

        boolean hasTitle(int title) {
            return grantOf(title) != null;
        }

        /** The record that made a title; null if the title is not there. */
        Entry grantOf(int title) {
            if (title < 0 || title >= titles) return null;
            Entry grant = grants[title];
            return grant != null && grant.stands ? grant : null;
        }

        boolean knowsAllNamedBy(Entry e) {
            return knowsPerson(e.father) && knowsPerson(e.mother) && knowsPerson(e.person)
                    && knowsPerson(e.other) && (e.title == NONE || hasTitle(e.title));
        }

        private boolean knowsPerson(int p) {
            return p == NONE || hasPerson(p);
        }

        boolean hasRoomFor(Entry e) {
            if (size >= MOST_RECORDS) return false;
            if (e.kind == BORN) return persons < MOST_PERSONS;
            return e.kind != TITLE || titles < MOST_TITLES;
        }

        void add(Entry e) {
            if (!hasRoomFor(e)) return;
            if (e.kind == BORN) {
                e.person = persons;
                births[persons++] = e;
            }
            if (e.kind == TITLE) {
                e.title = titles;
                grants[titles++] = e;
            }
            entries[size++] = e;
        }

        void dropLatest() {
            Entry e = taken(size - 1);
            if (e == null) return;
            size--;
            entries[size] = null;
            if (e.kind == BORN && persons > 0) births[--persons] = null;
            if (e.kind == TITLE && titles > 0) grants[--titles] = null;
        }

        /** Whether another standing record names the person or title that this one made. */
        boolean namesWhatIsMadeBy(Entry made) {
            for (int i = 0; i < size; i++) {
                Entry e = standing(i);
                if (e == null || e == made) continue;
                if (made.kind == BORN && namesPerson(e, made.person)) return true;
                if (made.kind == TITLE && e.title == made.title) return true;
            }
            return false;
        }

        private static boolean namesPerson(Entry e, int p) {
            return e.person == p || e.other == p || e.father == p || e.mother == p;
        }

        /** Whether another standing record tells the same of the same person and title. */
        boolean tellsAgain(Entry told) {
            for (int i = 0; i < size; i++) {
                Entry e = standing(i);
                if (e == null || e == told) continue;
                if (e.kind == told.kind && e.person == told.person && e.title == told.title) return true;
            }
            return false;
        }

        /** Whether a wed, part, lost or back is out of turn with those of its pair or title. */
        boolean isOutOfTurn(Entry told) {
            Entry before = null;
            for (int i = 0; i < size; i++) {
                Entry e = standing(i);
                if (e == null || e == told || !told.takesTurnsWith(e)) continue;
                if (e.turn() == told.turn()) return true;
                if (e.turn() < told.turn() && (before == null || e.turn() > before.turn())) before = e;
            }
            boolean open = before != null && before.opens();
            return open == told.opens();
        }

        /** The day of the first part of a pair behind a day; NONE if there is none. */
        int nextPart(Entry wed) {
            int next = NONE;
            for (int i = 0; i < size; i++) {
                Entry e = standing(i);
                if (e == null || e.kind != PART || !wed.takesTurnsWith(e)) continue;
                if (e.day > wed.day && (next == NONE || e.day < next)) next = e.day;
            }
            return next;
        }

        /** The latest lost or back of a title up to a day; null if there is none. */
        Entry latestLossOrBack(int title, int day) {
            Entry latest = null;
            for (int i = 0; i < size; i++) {
                Entry e = standing(i);
                if (e == null || !e.isOfLoss() || e.title != title || e.day > day) continue;
                if (latest == null || e.day > latest.day) latest = e;
            }
            return latest;
        }
    }

    /** What the standing births and deaths tell of each person. */
    private static final class People {
        private final boolean[] there = new boolean[MOST_PERSONS];
        private final boolean[] male = new boolean[MOST_PERSONS];
        private final int[] born = new int[MOST_PERSONS];
        private final int[] dead = new int[MOST_PERSONS];
        private final int[] fathers = new int[MOST_PERSONS];
        private final int[] mothers = new int[MOST_PERSONS];
        private final int[] birthsUp = new int[MOST_PERSONS];
        private final int[] otherBirthsUp = new int[MOST_PERSONS];

        void rebuild(Roll roll) {
            for (int p = 0; p < MOST_PERSONS; p++) {
                there[p] = false;
                male[p] = false;
                born[p] = NONE;
                dead[p] = NONE;
                fathers[p] = NONE;
                mothers[p] = NONE;
            }
            for (int i = 0; i < roll.size(); i++) {
                Entry e = roll.standing(i);
                if (e == null || !isPersonNumber(e.person)) continue;
                if (e.kind == BORN) takeBirth(e, e.person);
                if (e.kind == DEAD) dead[e.person] = e.day;
            }
        }

        private void takeBirth(Entry e, int p) {
            there[p] = true;
            male[p] = e.male;
            born[p] = e.day;
            fathers[p] = e.father;
            mothers[p] = e.mother;
        }

        boolean has(int p) {
            return p >= 0 && p < MOST_PERSONS && there[p];
        }

        boolean isMale(int p) {
            return p >= 0 && p < MOST_PERSONS && male[p];
        }

        int bornOn(int p) {
            return isPersonNumber(p) ? born[p] : NONE;
        }

        int deadOn(int p) {
            return isPersonNumber(p) ? dead[p] : NONE;
        }

        int father(int p) {
            return isPersonNumber(p) ? fathers[p] : NONE;
        }

        int mother(int p) {
            return isPersonNumber(p) ? mothers[p] : NONE;
        }

        boolean isDeadAhead(int p, int day) {
            int deadOn = deadOn(p);
            return deadOn != NONE && deadOn < day;
        }

        boolean isAlive(int p, int day) {
            return has(p) && born[p] <= day && (dead[p] == NONE || dead[p] > day);
        }

        boolean isGrown(int p, int day) {
            return has(p) && born[p] <= day - GROWN_AFTER;
        }

        boolean isElder(int p, int q) {
            return bornOn(p) != bornOn(q) ? bornOn(p) < bornOn(q) : p < q;
        }

        int birthsBetween(int p, int q) {
            countBirthsUp(p, birthsUp);
            countBirthsUp(q, otherBirthsUp);
            int fewest = NONE;
            for (int i = 0; i < MOST_PERSONS; i++) {
                if (birthsUp[i] == NONE || otherBirthsUp[i] == NONE) continue;
                int births = birthsUp[i] + otherBirthsUp[i];
                if (fewest == NONE || births < fewest) fewest = births;
            }
            return fewest;
        }

        /** A parent's number is always below its child's, so one way down the numbers reaches all. */
        private void countBirthsUp(int p, int[] births) {
            for (int i = 0; i < MOST_PERSONS; i++) {
                births[i] = i == p ? 0 : NONE;
            }
            for (int i = MOST_PERSONS - 1; i >= 0; i--) {
                if (births[i] == NONE) continue;
                lower(births, fathers[i], births[i] + 1);
                lower(births, mothers[i], births[i] + 1);
            }
        }

        private static void lower(int[] row, int i, int value) {
            if (i < 0 || i >= row.length) return;
            if (row[i] == NONE || row[i] > value) row[i] = value;
        }
    }

    /** The unions that the weds make, each with its first and last open day. */
    private static final class Unions {
        private final int[] men = new int[MOST_RECORDS];
        private final int[] women = new int[MOST_RECORDS];
        private final int[] firstDays = new int[MOST_RECORDS];
        private final int[] lastDays = new int[MOST_RECORDS];
        private int size = 0;

        void rebuild(Roll roll, People people) {
            size = 0;
            for (int i = 0; i < roll.size(); i++) {
                Entry e = roll.standing(i);
                if (e == null || e.kind != WED || size >= MOST_RECORDS) continue;
                men[size] = e.person;
                women[size] = e.other;
                firstDays[size] = e.day;
                lastDays[size] = lastDay(e, roll, people);
                size++;
            }
        }

        private static int lastDay(Entry wed, Roll roll, People people) {
            int last = LAST_DAY;
            int part = roll.nextPart(wed);
            if (part != NONE) last = part - 1;
            last = earlier(last, people.deadOn(wed.person));
            return earlier(last, people.deadOn(wed.other));
        }

        private static int earlier(int last, int deadOn) {
            return deadOn != NONE && deadOn < last ? deadOn : last;
        }

        private boolean isOpen(int i, int day) {
            return firstDays[i] <= day && day <= lastDays[i];
        }

        boolean joined(int man, int woman, int day) {
            for (int i = 0; i < size; i++) {
                if (men[i] == man && women[i] == woman && isOpen(i, day)) return true;
            }
            return false;
        }

        int otherIn(int p, int day) {
            for (int i = 0; i < size; i++) {
                if (!isOpen(i, day)) continue;
                if (men[i] == p) return women[i];
                if (women[i] == p) return men[i];
            }
            return NONE;
        }

        boolean putSomebodyInTwo() {
            for (int i = 0; i < size; i++) {
                for (int j = 0; j < i; j++) {
                    boolean shared = men[i] == men[j] || women[i] == women[j];
                    if (shared && firstDays[i] <= lastDays[j] && firstDays[j] <= lastDays[i]) return true;
                }
            }
            return false;
        }
    }

    /** The bonds that hold of the standing records together. */
    private static final class Bonds {
        /** The first bond that is broken; 0 if all hold. */
        static int firstBroken(Roll roll, People people, Unions unions) {
            for (int bond = 1; bond <= LAST_BOND; bond++) {
                if (bond == 7 && unions.putSomebodyInTwo()) return bond;
                for (int i = 0; i < roll.size(); i++) {
                    Entry e = roll.standing(i);
                    if (e != null && breaks(bond, e, roll, people)) return bond;
                }
            }
            return 0;
        }

        private static boolean breaks(int bond, Entry e, Roll roll, People people) {
            switch (bond) {
                case 1: return hasWrongSexes(e, people);
                case 2: return e.kind == DEAD && (roll.tellsAgain(e) || e.day < people.bornOn(e.person));
                case 3: return e.kind == BORN && e.mother != NONE && !couldAct(e.mother, e.day, 0, people);
                case 4: return e.kind == BORN && e.father != NONE
                        && !couldAct(e.father, e.day, AWAITED_FOR, people);
                case 5: return e.isOfUnion() && !(couldAct(e.person, e.day, 0, people)
                        && couldAct(e.other, e.day, 0, people));
                case 6: return e.isOfUnion() && roll.isOutOfTurn(e);
                case 8: return breaksATitle(e, roll, people);
                case 9: return e.isOfLoss() && roll.isOutOfTurn(e);
                default: return false;
            }
        }

        private static boolean hasWrongSexes(Entry e, People people) {
            if (e.kind == BORN) {
                return (e.father != NONE && !people.isMale(e.father))
                        || (e.mother != NONE && people.isMale(e.mother));
            }
            return e.isOfUnion() && (!people.isMale(e.person) || people.isMale(e.other));
        }

        /** Whether one was grown on a day and not dead ahead of it by more than a grace. */
        private static boolean couldAct(int p, int day, int grace, People people) {
            return people.isGrown(p, day) && !people.isDeadAhead(p, day - grace);
        }

        private static boolean breaksATitle(Entry e, Roll roll, People people) {
            if (e.kind == TITLE || e.kind == YIELD || e.kind == CALL) {
                if (people.bornOn(e.person) > e.day || people.isDeadAhead(e.person, e.day)) return true;
            }
            if (e.kind == YIELD && roll.tellsAgain(e)) return true;
            if (e.kind != YIELD && e.kind != CALL && !e.isOfLoss()) return false;
            Entry grant = roll.grantOf(e.title);
            if (grant == null) return true;
            return e.day < grant.day || (e.kind == CALL && grant.rule != WRIT);
        }
    }

    /** Who is legit, and so who descends from whom. */
    private static final class Descent {
        private final People people;
        private final boolean[] legit = new boolean[MOST_PERSONS];
        private final int[] byAge = new int[MOST_PERSONS];
        private int size = 0;
        private final int[] kids = new int[2 * MOST_PERSONS];
        private final int[] kidsFrom = new int[MOST_PERSONS + 1];
        private final long[] bodies = new long[MOST_PERSONS];

        Descent(People people) {
            this.people = people;
        }

        void rebuild(Unions unions) {
            size = 0;
            for (int p = 0; p < MOST_PERSONS; p++) {
                legit[p] = people.has(p) && isBornLegit(p, unions);
                if (people.has(p)) sortIn(p);
            }
            listKids();
            gatherBodies();
        }

        private boolean isBornLegit(int p, Unions unions) {
            int father = people.father(p);
            int mother = people.mother(p);
            if (father == NONE || mother == NONE) return false;
            int day = people.bornOn(p);
            if (unions.joined(father, mother, day)) return true;
            int deadOn = people.deadOn(father);
            return deadOn != NONE && deadOn >= day - AWAITED_FOR && deadOn <= day
                    && unions.joined(father, mother, deadOn);
        }

        private void sortIn(int p) {
            if (size >= MOST_PERSONS) return;
            int i = size;
            while (i > 0 && people.isElder(p, byAge[i - 1])) {
                byAge[i] = byAge[i - 1];
                i--;
            }
            byAge[i] = p;
            size++;
        }

        private void listKids() {
            int n = 0;
            for (int p = 0; p < MOST_PERSONS; p++) {
                kidsFrom[p] = n;
                for (int i = 0; i < size; i++) {
                    int kid = byAge[i];
                    boolean isTheirs = people.father(kid) == p || people.mother(kid) == p;
                    if (isLegit(kid) && isTheirs && n < kids.length) kids[n++] = kid;
                }
            }
            kidsFrom[MOST_PERSONS] = n;
        }

        /** A child's number is always above its parents', so its body is whole when theirs is gathered. */
        private void gatherBodies() {
            for (int p = MOST_PERSONS - 1; p >= 0; p--) {
                long body = 1L << p;
                for (int i = 0; i < kidCount(p); i++) {
                    body |= body(kid(p, i));
                }
                bodies[p] = body;
            }
        }

        boolean isLegit(int p) {
            return isPersonNumber(p) && legit[p];
        }

        int size() {
            return size;
        }

        /** The i-th of all by age, the oldest first. */
        int byAge(int i) {
            return i >= 0 && i < size ? byAge[i] : NONE;
        }

        int kidCount(int p) {
            return p >= 0 && p < MOST_PERSONS ? kidsFrom[p + 1] - kidsFrom[p] : 0;
        }

        /** The i-th legit child of one, the oldest first. */
        int kid(int p, int i) {
            if (p < 0 || p >= MOST_PERSONS || i < 0) return NONE;
            int at = kidsFrom[p] + i;
            return at < kidsFrom[p + 1] ? kids[at] : NONE;
        }

        long body(int p) {
            return isPersonNumber(p) ? bodies[p] : 0L;
        }
    }

    /** The line of a title on a day. It is filled anew for each question. */
    private static final class Lineup {
        private static final int DAUGHTERS = 0;
        private static final int SONS = 1;
        private static final int ALL = 2;

        private final People people;
        private final Descent descent;
        private final int[] body = new int[MOST_PERSONS];
        private int bodySize = 0;
        private int bodyRule = NONE;
        private int bodyRoot = NONE;
        private final int[] stack = new int[2 * MOST_PERSONS + 1];
        private int top = 0;
        private final int[] births = new int[MOST_PERSONS];
        private final int[] order = new int[MOST_PERSONS];
        private int size = 0;
        private long members = 0L;
        private final int[] heirs = new int[MOST_PERSONS];
        private int heirCount = 0;

        Lineup(People people, Descent descent) {
            this.people = people;
            this.descent = descent;
        }

        void forget() {
            bodyRule = NONE;
            bodyRoot = NONE;
        }

        /** The order of a body hangs on no day, so it is kept while the root stays. */
        void fill(int rule, int root, int day, int[] yieldedOn) {
            if (rule != bodyRule || root != bodyRoot) {
                bodySize = 0;
                bodyRule = rule;
                bodyRoot = root;
                if (rule == NEAREST) orderByBirths(root);
                else orderByBranches(rule, root);
            }
            size = 0;
            members = 0L;
            for (int i = 0; i < bodySize; i++) {
                int p = body[i];
                if (!people.isAlive(p, day) || (rule == BY_MALES && !people.isMale(p))) continue;
                if (p >= yieldedOn.length || (yieldedOn[p] != NONE && yieldedOn[p] <= day)) continue;
                order[size++] = p;
                members |= 1L << p;
            }
        }

        private void orderByBirths(int root) {
            if (!isPersonNumber(root)) return;
            for (int p = 0; p < MOST_PERSONS; p++) {
                births[p] = p == root ? 0 : NONE;
            }
            for (int p = root; p < MOST_PERSONS; p++) {
                if (births[p] != NONE) countBirthsOfKids(p);
            }
            for (int away = 0; away < MOST_PERSONS; away++) {
                for (int i = 0; i < descent.size(); i++) {
                    int p = descent.byAge(i);
                    if (p != NONE && births[p] == away && bodySize < MOST_PERSONS) body[bodySize++] = p;
                }
            }
        }

        private void countBirthsOfKids(int p) {
            for (int i = 0; i < descent.kidCount(p); i++) {
                int kid = descent.kid(p, i);
                if (kid == NONE) continue;
                if (births[kid] == NONE || births[kid] > births[p] + 1) births[kid] = births[p] + 1;
            }
        }

        /** What is pushed last is taken first; who was taken before has its place already. */
        private void orderByBranches(int rule, int root) {
            if (!isPersonNumber(root)) return;
            long taken = 0L;
            stack[0] = root;
            top = 1;
            for (int i = 0; i < stack.length && top > 0; i++) {
                top--;
                int p = stack[top];
                if ((taken & (1L << p)) != 0L || bodySize >= MOST_PERSONS) continue;
                taken |= 1L << p;
                body[bodySize++] = p;
                if (rule == YOUNGEST || rule == EQUAL) {
                    pushKids(p, ALL, rule == YOUNGEST);
                } else {
                    if (rule != BY_MALES) pushKids(p, DAUGHTERS, false);
                    if (rule != BY_MALES || people.isMale(p)) pushKids(p, SONS, false);
                }
            }
        }

        private void pushKids(int p, int which, boolean elderFirst) {
            int n = descent.kidCount(p);
            for (int i = 0; i < n; i++) {
                int kid = descent.kid(p, elderFirst ? i : n - 1 - i);
                if (which != ALL && people.isMale(kid) != (which == SONS)) continue;
                if (kid != NONE && top < stack.length) stack[top++] = kid;
            }
        }

        int size() {
            return size;
        }

        int at(int k) {
            return k >= 0 && k < size ? order[k] : NONE;
        }

        int placeOf(int p) {
            for (int k = 0; k < size; k++) {
                if (order[k] == p) return k;
            }
            return NONE;
        }

        boolean has(int p) {
            return isPersonNumber(p) && (members & (1L << p)) != 0L;
        }

        /** Who takes a title of the rule writ, looked for from the root on; or that it is in abeyance. */
        int stateByWrit(int root) {
            heirCount = 0;
            if (size == 0) return VACANT;
            int at = root;
            for (int i = 0; i < MOST_PERSONS && at != NONE && !has(at); i++) {
                int son = eldestSonWithLine(at);
                at = son != NONE ? son : soleDaughterWithLine(at);
            }
            return heirCount > 1 ? ABEYANCE : at;
        }

        private int eldestSonWithLine(int p) {
            for (int i = 0; i < descent.kidCount(p); i++) {
                int kid = descent.kid(p, i);
                if (people.isMale(kid) && (descent.body(kid) & members) != 0L) return kid;
            }
            return NONE;
        }

        /** The daughter that counts; if more do, NONE, and the coheirs are of each of them. */
        private int soleDaughterWithLine(int p) {
            long ofElder = 0L;
            int daughter = NONE;
            heirCount = 0;
            for (int i = 0; i < descent.kidCount(p); i++) {
                int kid = descent.kid(p, i);
                long own = descent.body(kid) & members & ~ofElder;
                if (people.isMale(kid) || own == 0L || heirCount >= MOST_PERSONS) continue;
                heirs[heirCount++] = firstOf(own);
                ofElder |= descent.body(kid);
                daughter = kid;
            }
            if (heirCount > 1) return NONE;
            heirCount = 0;
            return daughter;
        }

        private int firstOf(long some) {
            for (int k = 0; k < size; k++) {
                if ((some & (1L << order[k])) != 0L) return order[k];
            }
            return NONE;
        }

        int heirCount() {
            return heirCount;
        }

        int heir(int k) {
            return k >= 0 && k < heirCount ? heirs[k] : NONE;
        }
    }

    /** How a title passes: a step for each day on which something could move it. */
    private static final class Course {
        private final int title;
        private final Roll roll;
        private final People people;
        private final Descent descent;
        private final Lineup lineup;
        private final int[] yieldedOn = new int[MOST_PERSONS];
        private final int[] days = new int[MOST_RECORDS];
        private final int[] states = new int[MOST_RECORDS];
        private final int[] roots = new int[MOST_RECORDS];
        private final int[] firstDays = new int[MOST_RECORDS];
        private int size = 0;
        private boolean known = false;
        private int rule = NONE;
        private int own = NONE;
        private int root = NONE;
        private int state = VACANT;
        private int heldSince = NONE;

        Course(int title, Roll roll, People people, Descent descent, Lineup lineup) {
            this.title = title;
            this.roll = roll;
            this.people = people;
            this.descent = descent;
            this.lineup = lineup;
        }

        void forget() {
            known = false;
        }

        boolean isKnown() {
            return known;
        }

        /** Goes back to the title's own day, which is answered; NONE if the title is not there. */
        int begin() {
            known = true;
            size = 0;
            Entry grant = roll.grantOf(title);
            if (grant == null) return NONE;
            rule = grant.rule;
            own = grant.person;
            root = own;
            state = own;
            heldSince = grant.day;
            noteYields();
            return grant.day;
        }

        private void noteYields() {
            for (int p = 0; p < MOST_PERSONS; p++) {
                yieldedOn[p] = NONE;
            }
            for (int i = 0; i < roll.size(); i++) {
                Entry e = roll.standing(i);
                if (e == null || e.kind != YIELD || e.title != title) continue;
                if (isPersonNumber(e.person)) yieldedOn[e.person] = e.day;
            }
        }

        /** The first day behind one on which something could move the title; NONE if there is none. */
        int nextDay(int day) {
            int next = NONE;
            for (int i = 0; i < roll.size(); i++) {
                Entry e = roll.standing(i);
                if (e == null || e.day <= day || !couldMove(e)) continue;
                if (next == NONE || e.day < next) next = e.day;
            }
            return next;
        }

        private boolean couldMove(Entry e) {
            return e.kind == BORN || e.kind == DEAD || e.title == title;
        }

        void goThrough(int day) {
            int before = state;
            Entry turn = roll.latestLossOrBack(title, day);
            if (turn != null && turn.kind == LOSE) {
                state = LOST;
            } else {
                if (turn != null && turn.day == day) {
                    passOn(day);
                    heldSince = day;
                }
                if (mustPass(day)) {
                    passOn(day);
                } else {
                    giveToChildBornLate(day);
                }
                if (state == ABEYANCE) obeyCall(day);
            }
            if (state != before) heldSince = day;
            note(day);
        }

        private void note(int day) {
            if (size >= MOST_RECORDS) return;
            days[size] = day;
            states[size] = state;
            roots[size] = root;
            firstDays[size] = heldSince;
            size++;
        }

        private boolean mustPass(int day) {
            return state < 0 || !people.isAlive(state, day) || hasYielded(state, day);
        }

        private boolean hasYielded(int p, int day) {
            return isPersonNumber(p) && yieldedOn[p] != NONE && yieldedOn[p] <= day;
        }

        private void passOn(int day) {
            lineup.fill(rule, root, day, yieldedOn);
            if (lineup.size() == 0 && root != own) {
                root = own;
                lineup.fill(rule, root, day, yieldedOn);
            }
            if (lineup.size() == 0) {
                state = VACANT;
            } else {
                state = rule == WRIT ? lineup.stateByWrit(root) : lineup.at(0);
            }
        }

        /** A child born behind its father's death takes what passed it by since then. */
        private void giveToChildBornLate(int day) {
            lineup.fill(rule, root, day, yieldedOn);
            int place = lineup.placeOf(state);
            for (int k = 0; k < place; k++) {
                int p = lineup.at(k);
                if (people.bornOn(p) != day || !descent.isLegit(p)) continue;
                int fatherDeadOn = people.deadOn(people.father(p));
                if (fatherDeadOn != NONE && fatherDeadOn < day && heldSince >= fatherDeadOn) {
                    state = p;
                    return;
                }
            }
        }

        /** Records are gone through by their numbers, so the least of several calls is obeyed. */
        private void obeyCall(int day) {
            for (int i = 0; i < roll.size(); i++) {
                Entry e = roll.standing(i);
                if (e == null || e.kind != CALL || e.title != title || e.day != day) continue;
                if (!lineup.has(e.person)) continue;
                state = e.person;
                root = e.person;
                return;
            }
        }

        /** The latest step up to a day; NONE ahead of the title's own. */
        int stepOn(int day) {
            int step = NONE;
            for (int i = 0; i < size; i++) {
                if (days[i] <= day) step = i;
            }
            return step;
        }

        private boolean isStep(int step) {
            return step >= 0 && step < size;
        }

        int state(int step) {
            return isStep(step) ? states[step] : NOT_YET;
        }

        int firstDay(int step) {
            return isStep(step) ? firstDays[step] : NONE;
        }

        int countTenures() {
            int n = 0;
            for (int i = 0; i < size; i++) {
                if (firstDays[i] == days[i]) n++;
            }
            return n;
        }

        /** The step with which the i-th tenure begins; NONE if there is none. */
        int stepOfTenure(int i) {
            int n = 0;
            for (int step = 0; step < size; step++) {
                if (firstDays[step] != days[step]) continue;
                if (n == i) return step;
                n++;
            }
            return NONE;
        }

        void lineUpOn(int day) {
            int step = stepOn(day);
            lineup.fill(rule, isStep(step) ? roots[step] : own, day, yieldedOn);
        }

        /** How many coheirs there are on a day; they stay in the lineup. */
        int findCoheirsOn(int day) {
            int step = stepOn(day);
            if (!isStep(step) || states[step] != ABEYANCE) return 0;
            lineup.fill(rule, roots[step], days[step], yieldedOn);
            lineup.stateByWrit(roots[step]);
            return lineup.heirCount();
        }
    }
}

/** Terms 3 and promises 10 to 12, 15, 16, sentence by sentence: who is alive, legit, of a body, in a line and where. */
public final class PersonEdges {
    private static final String MAN = Told.MAN;
    private static final String WOMAN = Told.WOMAN;
    private static final String[] RULES = {"male", "mixed", "equal", "last", "near", "writ"};
    private static final int[] NO_DAYS = {-1, 100000, Integer.MIN_VALUE, Integer.MAX_VALUE};

    public static void main(String[] args) {
        alive();
        legitByOpenUnion();
        legitByFathersLastDay();
        legitByBothParents();
        body();
        bodyOfMales();
        age();
        orders();
        nearByBirthsWithinTheBody();
        onceInTheLine();
        yielded();
        fullLine();
        fullLineOfBothParents();
        lastPerson();
        longestDescent();
        persons();
        partners();
        kin();
        lines();
        ranks();
        Told.finish("PersonEdges");
    }

    private static Told couple() {
        return new Told().with(MAN, WOMAN, "wed 4000 0 1");
    }

    /** All six rules, titles 0 to 5, of one person from a day on. */
    private static Told withRules(Told t, int root, int day) {
        for (String rule : RULES) t.taken("title " + day + " " + root + " " + rule);
        return t;
    }

    private static void legit(Told t, String birth, int due) {
        t.taken(birth);
        Told.due("legit, " + birth, t.x.person(t.x.count(2) - 1, 5), due);
    }

    private static void alive() {
        Told.sentence("ALIVE on a day x, if it was born on x or ahead of it, and is not dead on x or ahead of it");
        Told t = couple().with("born 5000 male of 0 and 1", "title 4000 0 mixed", "dead 6000 2", "dead 6000 0");
        t.line(0, 4999, 0);
        t.line(0, 5000, 0, 2);
        t.line(0, 5999, 0, 2);
        t.line(0, 6000);
        Told u = couple().with("born 5000 male of 0 and 1", "title 4000 0 mixed", "dead 5000 2");
        u.line(0, 5000, 0);
        u.line(0, 5001, 0);
        Told v = new Told().with(MAN, "title 0 0 mixed", "born 99999 male of 0 and none", "title 99999 1 male");
        v.line(0, 0, 0);
        v.line(0, 99999, 0);
        v.line(1, 99999, 1);
        v.line(1, 99998);
        v.with("dead 99999 1");
        v.line(1, 99999);
    }

    private static void legitByOpenUnion() {
        Told.sentence("LEGIT, if f and m are both told, and a UNION of both is OPEN on its born d");
        Told t = new Told().with(MAN, WOMAN, MAN, WOMAN, "wed 5000 0 1", "part 6000 0 1", "wed 6000 2 1");
        legit(t, "born 4999 male of 0 and 1", 0);
        legit(t, "born 5000 male of 0 and 1", 1);
        legit(t, "born 5999 female of 0 and 1", 1);
        legit(t, "born 6000 female of 0 and 1", 0);
        legit(t, "born 5999 male of 2 and 1", 0);
        legit(t, "born 6000 male of 2 and 1", 1);
        legit(t, "born 5500 male of 0 and 3", 0);
        legit(t, "born 99999 male of 2 and 1", 1);
        t.taken("dead 99998 2");
        Told.due("born behind the death, the union open on it", t.x.person(11, 5), 1);
        Told u = couple().with("dead 6000 1");
        legit(u, "born 6000 male of 0 and 1", 1);
        u.taken("dead 6000 0");
        Told.due("both dead on the day of the birth", u.x.person(2, 5), 1);
        u.x.strike(2);
        Told.due("without the wed", u.x.person(2, 5), 0);
    }

    private static void legitByFathersLastDay() {
        Told.sentence("LEGIT: or f is dead on a y from d - 300 to d, and a UNION of both is OPEN on y");
        Told t = couple().with("dead 6000 0");
        legit(t, "born 6000 male of 0 and 1", 1);
        legit(t, "born 6001 male of 0 and 1", 1);
        legit(t, "born 6299 male of 0 and 1", 1);
        legit(t, "born 6300 male of 0 and 1", 1);
        t.breaks("born 6301 male of 0 and 1", 4);
        // parted ahead of y, on y; wed on y anew
        Told u = couple().with("part 5999 0 1", "dead 6000 0");
        legit(u, "born 6000 male of 0 and 1", 0);
        legit(u, "born 6300 male of 0 and 1", 0);
        u.taken("wed 6000 0 1");
        Told.due("wed on y", u.x.person(2, 5), 1);
        Told.due("wed on y", u.x.person(3, 5), 1);
        legit(u, "born 5999 male of 0 and 1", 0);
        Told v = couple().with("part 6000 0 1", "dead 6000 0");
        legit(v, "born 5999 male of 0 and 1", 1);
        legit(v, "born 6000 male of 0 and 1", 0);
        legit(v, "born 6001 male of 0 and 1", 0);
        // the mother in another union since then
        Told w = couple().with(MAN, "dead 6000 0", "wed 6001 2 1");
        legit(w, "born 6200 male of 0 and 1", 1);
        legit(w, "born 6200 male of 2 and 1", 1);
        // the mother dead behind the father, on the day of the birth
        Told x = couple().with("dead 6000 0", "dead 6300 1");
        legit(x, "born 6300 male of 0 and 1", 1);
        x.breaks("born 6301 male of none and 1", 3);
    }

    private static void legitByBothParents() {
        Told.sentence("LEGIT, if f and m are both told");
        Told t = couple();
        legit(t, "born 5000 male of 0 and none", 0);
        legit(t, "born 5000 male of none and 1", 0);
        legit(t, "born 5000 male of none and none", 0);
        legit(t, "born 5000 male of 0 and 1", 1);
        Told.due("the first of all", t.x.person(0, 5), 0);
    }

    private static void body() {
        Told.sentence("BODY: itself, and the LEGIT children of all in it (whenever they are born; of either parent)");
        // 2 legit, 3 not; 6 legit of 3, 7 legit of the daughter 4
        Told t = couple().with("born 4000 male of 0 and 1", "born 4000 male of 0 and none", "born 4100 female of 0 and 1", WOMAN,
                "wed 8000 3 5", "born 8000 male of 3 and 5", MAN, "wed 8100 7 4", "born 8100 male of 7 and 4");
        t.with("title 0 0 mixed", "title 0 1 mixed", "title 4000 3 mixed", "title 0 5 mixed", "title 4100 4 mixed");
        t.line(0, 9000, 0, 2, 4, 8);
        t.line(1, 9000, 1, 2, 4, 8);
        t.line(2, 9000, 3, 6);
        t.line(3, 9000, 5, 6);
        t.line(4, 9000, 4, 8);
        t.line(0, 0, 0);
        t.line(0, 8099, 0, 2, 4);
        // the dead in between take nothing from those behind them
        t.with("dead 8200 4", "dead 8200 0");
        t.line(0, 9000, 2, 8);
        t.line(4, 9000, 8);
    }

    private static void bodyOfMales() {
        Told.sentence("of a TITLE with the RULE male: the LEGIT sons of all males in it, alone");
        Told t = couple().with("born 4000 female of 0 and 1", "born 4000 male of 0 and 1", "born 4100 male of 0 and none", MAN, WOMAN,
                "wed 8000 5 2", "wed 8000 3 6", "born 8000 male of 5 and 2", "born 8000 female of 3 and 6",
                "born 8100 male of 3 and 6", "title 0 0 male", "title 0 1 male", "title 4000 2 male", "title 4100 4 male");
        t.line(0, 9000, 0, 3, 9);
        t.line(3, 9000, 4);
        Told.sentence("for male males alone");
        t.line(1, 9000);
        t.line(2, 9000);
        t.holder(1, 9000, 1);
        t.holder(2, 9000, 2);
        t.with("dead 9000 1", "dead 9000 2");
        t.holder(1, 9000, -1);
        t.holder(2, 9000, -1);
        t.holder(1, 8999, 1);
        // the person 0, too, holds what she can't stand in the line of
        Told u = new Told().with(WOMAN, "title 0 0 male", MAN, "dead 50 1");
        u.line(0, 60);
        u.tenures(0, 0, 0);
        u.taken("dead 60 0");
        u.tenures(0, 0, 0, -1, 60);
    }

    private static void age() {
        Told.sentence("The AGE goes by born d, the less the older; of one d the lesser number is the older");
        Told t = withRules(couple().with("born 5001 male of 0 and 1", "born 5000 male of 0 and 1", "born 5001 male of 0 and 1",
                "born 4999 male of 0 and 1", "born 4999 male of 0 and 1"), 0, 0);
        for (int title = 0; title < 6; title++) {
            if (title == 3) t.line(3, 6000, 0, 4, 2, 3, 6, 5);
            else t.line(title, 6000, 0, 5, 6, 3, 2, 4);
        }
    }

    /**
     * The children of 0 and 1: 2 son 5200, 3 daughter 5000, 4 son 5100, 5 daughter 5300; of 4: 8 daughter 9200, 9 son 9400;
     * of 3: 10 son 9300, 11 daughter 9250.
     */
    private static void orders() {
        Told t = withRules(couple().with("born 5200 male of 0 and 1", "born 5000 female of 0 and 1", "born 5100 male of 0 and 1",
                "born 5300 female of 0 and 1", MAN, WOMAN, "wed 9000 6 3", "wed 9100 4 7", "born 9200 female of 4 and 7",
                "born 9400 male of 4 and 7", "born 9300 male of 6 and 3", "born 9250 female of 6 and 3"), 0, 0);
        Told.sentence("male: a PERSON ahead of all others of its BODY; then its sons, the older first, each with all of its BODY");
        t.line(0, 10000, 0, 4, 9, 2);
        Told.sentence("mixed, writ: then its sons, the older first, each with all of its BODY; then its daughters likewise");
        t.line(1, 10000, 0, 4, 9, 8, 2, 3, 10, 11, 5);
        t.line(5, 10000, 0, 4, 9, 8, 2, 3, 10, 11, 5);
        Told.sentence("equal: likewise, but children by AGE, the older first");
        t.line(2, 10000, 0, 3, 11, 10, 4, 8, 9, 2, 5);
        Told.sentence("last: the younger first, sons and daughters alike");
        t.line(3, 10000, 0, 5, 2, 4, 9, 8, 3, 10, 11);
        Told.sentence("near: those first who are fewest births away from the ROOT, of these the older first");
        t.line(4, 10000, 0, 3, 4, 2, 5, 8, 11, 10, 9);
    }

    /** 7 is a half brother of the root 2, two births away; but the way over their father is not within the body. */
    private static void nearByBirthsWithinTheBody() {
        Told.sentence("near: fewest births (all within the BODY) away from the ROOT");
        // the root 2 is a son of 0 and 1; 5 is a daughter of his son 4; 6 is a son of 0, his father, and of 5
        Told t = couple().with("born 4000 male of 0 and 1", WOMAN, "wed 8000 2 3", "born 8000 male of 2 and 3", WOMAN, "wed 12000 4 5",
                "born 12000 female of 4 and 5", "part 4001 0 1", "wed 16000 0 6", "born 16000 male of 0 and 6",
                "born 15999 male of 4 and 5", "born 16001 male of 4 and 5", "title 4000 2 near");
        Told.due("half brothers", t.x.kin(2, 7), 2);
        t.line(0, 16001, 2, 4, 6, 8, 9, 7);
        // 8 is by his father 5 two births away, by his mother 4 three; 7, his older half brother, three
        Told u = couple().with("born 4000 male of 0 and 1", WOMAN, "wed 8000 2 3", "born 8000 female of 2 and 3",
                "born 8001 male of 0 and 1", MAN, "wed 12000 6 4", "born 12000 male of 6 and 4", "part 12001 6 4", "wed 12001 5 4",
                "born 12001 male of 5 and 4", "title 0 0 near");
        u.line(0, 13000, 0, 2, 5, 4, 8, 7);
        // and the other way round: 8 by his mother 5 two, by his father 4 three
        Told v = couple().with("born 4000 male of 0 and 1", WOMAN, "wed 8000 2 3", "born 8000 male of 2 and 3",
                "born 8001 female of 0 and 1", WOMAN, "wed 12000 4 6", "born 12000 male of 4 and 6", "part 12001 4 6", "wed 12001 4 5",
                "born 12001 male of 4 and 5", "title 0 0 near");
        v.line(0, 13000, 0, 2, 5, 4, 8, 7);
        // and with the lesser number nearer: 8 by his father 3 two, by his mother 5 three
        Told w = couple().with("born 4000 male of 0 and 1", "born 8001 male of 0 and 1", WOMAN, "wed 8000 2 4",
                "born 8000 female of 2 and 4", MAN, "wed 12000 6 5", "born 12000 male of 6 and 5", "part 12001 6 5", "wed 12001 3 5",
                "born 12001 male of 3 and 5", "title 0 0 near");
        w.line(0, 13000, 0, 2, 3, 5, 8, 7);
        // 6 is by his mother 4 three births away; the two by his father 5, who is not legit, are not within the body
        Told x = couple().with("born 4000 male of 0 and 1", WOMAN, "wed 8000 2 3", "born 8000 female of 2 and 3",
                "born 8001 male of 0 and none", "wed 12001 5 4", "born 12001 male of 5 and 4", "born 12100 male of 2 and 3",
                "title 0 0 near");
        Told.due("legit", x.x.person(6, 5), 1);
        Told.due("by all births as they are told", x.x.kin(0, 6), 2);
        x.line(0, 13000, 0, 2, 4, 7, 6);
        // 8 is four births down from 0; her child 11 is by his father two, but one does not go up from him to her
        Told y = couple().with("born 4000 male of 0 and 1", WOMAN, "wed 8000 2 3", "born 8000 male of 2 and 3", WOMAN,
                "wed 12000 4 5", "born 12000 male of 4 and 5", WOMAN, "wed 16000 6 7", "born 16000 female of 6 and 7",
                "born 16001 male of 0 and 1", "born 16500 male of 4 and 5", "wed 20001 9 8", "born 20001 male of 9 and 8",
                "title 0 0 near");
        y.line(0, 30000, 0, 2, 9, 4, 11, 6, 10, 8);
    }

    private static void onceInTheLine() {
        Told.sentence("who would stand in the LINE more than once stands where it comes first");
        // 2 daughter, 3 son; 6 son of 2, 7 daughter of 3; 8 son of 6 and 7
        Told t = withRules(couple().with("born 4000 female of 0 and 1", "born 4001 male of 0 and 1", MAN, WOMAN, "wed 8000 4 2",
                "wed 8001 3 5", "born 8000 male of 4 and 2", "born 8001 female of 3 and 5", "wed 12001 6 7",
                "born 12001 male of 6 and 7"), 0, 0);
        t.line(0, 13000, 0, 3);
        t.line(1, 13000, 0, 3, 7, 8, 2, 6);
        t.line(2, 13000, 0, 2, 6, 8, 3, 7);
        t.line(3, 13000, 0, 3, 7, 8, 2, 6);
        t.line(4, 13000, 0, 2, 3, 6, 7, 8);
        t.line(5, 13000, 0, 3, 7, 8, 2, 6);
        t.with("dead 13000 3", "dead 13000 7");
        t.line(1, 13000, 0, 8, 2, 6);
        t.line(5, 13000, 0, 8, 2, 6);
        t.with("yield 13000 6 2", "yield 13000 6 3");
        t.line(2, 13000, 0, 2, 8);
        t.line(3, 13000, 0, 8, 2);
    }

    private static void yielded() {
        Told.sentence("have not YIELDED the TITLE (by a yield on x or ahead of it)");
        Told t = couple().with("born 5000 male of 0 and 1", "title 4000 0 mixed", "title 4000 0 mixed", "yield 6000 2 0");
        t.line(0, 5999, 0, 2);
        t.line(0, 6000, 0);
        t.line(0, 6001, 0);
        t.line(0, 99999, 0);
        t.line(1, 6000, 0, 2);
        Told.due("rank", t.x.rank(0, 2, 6000), -1);
        Told.due("rank in another", t.x.rank(1, 2, 6000), 1);
        t.x.strike(6);
        t.line(0, 6000, 0, 2);
    }

    /** The most that can be in a line: all persons but a mother. */
    private static void fullLine() {
        Told.sentence("The LINE: all in the BODY of its ROOT (64 PERSONS at most in all)");
        Told t = new Told();
        t.tellPadded("born0male of none and none");
        t.tellPadded("born0female of none and none");
        t.tellPadded("wed4000 0 1");
        for (int i = 2; i < 64; i++) t.tellPadded("born" + (5000 + i) + "male of0and1");
        for (String rule : RULES) t.tellPadded("title0 0" + rule);
        t.tellPadded("title0 1near");
        t.tellPadded("title0 1mixed");
        for (int title = 6; title < 8; title++) {
            Told.due("the oldest son of his mother", t.x.line(title, 6000, 1), 2);
            Told.due("the youngest son of his mother", t.x.line(title, 6000, 62), 63);
        }
        Told.due("kin", t.x.kin(63, 62), 2);
        Told.due("kin", t.x.kin(0, 63), 1);
        for (int title = 0; title < 6; title++) {
            int youngest = title == 3 ? 1 : 62;
            Told.due("the oldest son", t.x.rank(title, 2, 6000), 63 - youngest);
            Told.due("the youngest son", t.x.rank(title, 63, 6000), youngest);
            Told.due("the last of the line", t.x.line(title, 6000, 62), title == 3 ? 2 : 63);
            t.refused("behind the last", t.x.line(title, 6000, 63), 1);
            Told.due("his mother", t.x.rank(title, 1, 6000), -1);
            Told.due("the youngest son unborn", t.x.rank(title, 63, 5062), -1);
        }
        t.tellPadded("dead6000 0");
        for (int title = 0; title < 6; title++) {
            t.holder(title, 6000, title == 3 ? 63 : 2);
            t.refused("behind the last", t.x.line(title, 6000, 62), 1);
        }
    }

    /** 0 weds his granddaughter 4; they have 59 sons, each of whom would stand in the line by her and by him. */
    private static void fullLineOfBothParents() {
        Told.sentence("who would stand in the LINE more than once stands where it comes first (64 PERSONS at most in all)");
        Told t = new Told();
        t.tellPadded("born0male of none and none");
        t.tellPadded("born0female of none and none");
        t.tellPadded("wed4000 0 1");
        t.tellPadded("born4000male of0and1");
        t.tellPadded("born0female of none and none");
        t.tellPadded("wed8000 2 3");
        t.tellPadded("born8000female of2and3");
        t.tellPadded("part12000 0 1");
        t.tellPadded("wed12000 0 4");
        for (int i = 5; i < 64; i++) t.tellPadded("born" + (12000 + i) + "male of0and4");
        for (String rule : RULES) t.tellPadded("title0 0" + rule);
        Told.due("records", t.x.count(1), 74);
        int[] due4 = {-1, 2, 2, 61, 61, 2};
        int[] due5 = {2, 3, 3, 59, 2, 3};
        int[] due63 = {60, 61, 61, 1, 60, 61};
        for (int title = 0; title < 6; title++) {
            Told.due("the granddaughter by " + RULES[title], t.x.rank(title, 4, 13000), due4[title]);
            Told.due("the oldest son of both by " + RULES[title], t.x.rank(title, 5, 13000), due5[title]);
            Told.due("the youngest son of both by " + RULES[title], t.x.rank(title, 63, 13000), due63[title]);
            int n = title == 0 ? 61 : 62;
            Told.due("the last", t.x.rank(title, t.x.line(title, 13000, n - 1), 13000), n - 1);
            t.refused("behind the last", t.x.line(title, 13000, n), 1);
        }
    }

    /** The last number that a person can have, 63, is an heir like any other. */
    private static void lastPerson() {
        Told.sentence("PERSONS: 64 at most in all");
        Told t = new Told();
        t.tellPadded("born0male of none and none");
        t.tellPadded("born0female of none and none");
        t.tellPadded("wed4000 0 1");
        for (int i = 2; i < 63; i++) t.tellPadded("born0male of none and none");
        t.tellPadded("born5000female of0and1");
        for (String rule : RULES) t.tellPadded("title0 0" + rule);
        t.tellPadded("dead6000 0");
        for (int title = 0; title < 6; title++) t.holder(title, 6000, title == 0 ? -1 : 63);
        Told.due("kin(63, 0)", t.x.kin(63, 0), 1);
        Told.due("kin(1, 63)", t.x.kin(1, 63), 1);
        t.person(63, 0, 5000, 0, 1, -1, 1);
    }

    /** Twenty-four births, one below the other, 4000 days apart: the most that the days have room for. */
    private static void longestDescent() {
        Told.sentence("With the RULE writ one looks from the ROOT on .. (births 4000 days apart at least, DAYS to 99999)");
        Told t = new Told();
        t.tellPadded("born0male of none and none");
        t.tellPadded("born0female of none and none");
        int father = 0;
        for (int i = 1; i < 25; i++) {
            t.tellPadded("wed" + 4000 * i + " " + father + " 1");
            t.tellPadded("born" + 4000 * i + "male of " + father + "and1");
            t.tellPadded("dead" + 4000 * i + " " + father);
            father = i + 1;
        }
        for (String rule : RULES) t.tellPadded("title0 0" + rule);
        Told.due("records", t.x.count(1), 80);
        for (int title = 0; title < 6; title++) {
            Told.due("tenures", t.x.tenures(title), 25);
            t.holder(title, 99999, 25);
            t.holder(title, 95999, 24);
            t.holder(title, 4000, 2);
            Told.due("the first of the line", t.x.line(title, 96000, 0), 25);
            t.refused("the second", t.x.line(title, 96000, 1), 1);
        }
        Told.due("kin, by the mother", t.x.kin(25, 1), 1);
        Told.due("kin, by the fathers", t.x.kin(25, 0), 24);
        Told.due("kin", t.x.kin(2, 25), 2);
    }

    private static void persons() {
        Told.sentence("person: 1; 3");
        Told t = couple().with("born 5000 female of 0 and 1", "born 5001 male of none and 1");
        int[] none = {-1, 4, 63, 64, Integer.MIN_VALUE, Integer.MAX_VALUE};
        int[] off = {-1, 6, Integer.MIN_VALUE, Integer.MAX_VALUE};
        for (int p : none) {
            for (int what = 0; what < 6; what++) t.refused("person(" + p + ", " + what + ")", t.x.person(p, what), 1);
            for (int what : off) t.refused("person(" + p + ", " + what + ")", t.x.person(p, what), 1);
        }
        for (int what : off) t.refused("person(0, " + what + ")", t.x.person(0, what), 3);
        t.x.strike(4);
        for (int what = -1; what < 7; what++) t.refused("person(3, " + what + ") struck out", t.x.person(3, what), 1);
        Told.sentence("person: 2 f, 3 m (-1: none); 4 the DAY on which it is dead (-1: it is not)");
        t.person(0, 1, 0, -1, -1, -1, 0);
        t.person(2, 0, 5000, 0, 1, -1, 1);
        t.with("dead 99999 2", "born 5000 male of 0 and none", "born 5000 female of none and 1", MAN, "dead 0 6");
        t.person(2, 0, 5000, 0, 1, 99999, 1);
        t.person(4, 1, 5000, 0, -1, -1, 0);
        t.person(5, 0, 5000, -1, 1, -1, 0);
        t.person(6, 1, 0, -1, -1, 0, 0);
    }

    private static void partners() {
        Told.sentence("partner: 1; 3");
        Told t = couple();
        int[] none = {-1, 2, 64, Integer.MIN_VALUE, Integer.MAX_VALUE};
        for (int p : none) {
            t.refused("partner(" + p + ", 0)", t.x.partner(p, 0), 1);
            for (int day : NO_DAYS) t.refused("partner(" + p + ", " + day + ")", t.x.partner(p, day), 1);
        }
        for (int day : NO_DAYS) t.refused("partner(0, " + day + ")", t.x.partner(0, day), 3);
        Told.sentence("partner: -1: with nobody");
        Told.due("partner(0, 0)", t.x.partner(0, 0), -1);
        Told.due("status", t.x.status(), 0);
        Told.due("partner(0, 99999)", t.x.partner(0, 99999), 1);
        t.x.strike(2);
        Told.due("partner(0, 99999)", t.x.partner(0, 99999), -1);
    }

    private static void kin() {
        Told.sentence("kin: 1");
        Told t = couple().with(MAN);
        t.x.strike(3);
        int[] none = {-1, 2, 3, 64, Integer.MIN_VALUE, Integer.MAX_VALUE};
        for (int p : none) {
            t.refused("kin(" + p + ", 0)", t.x.kin(p, 0), 1);
            t.refused("kin(0, " + p + ")", t.x.kin(0, p), 1);
            t.refused("kin(" + p + ", " + p + ")", t.x.kin(p, p), 1);
        }
        Told.sentence("kin: up from the one to somebody from whom both come (or one of both), down to the other; -1");
        Told.due("a PERSON and itself", t.x.kin(0, 0), 0);
        Told.due("two from whom a UNION is", t.x.kin(0, 1), -1);
        Told.due("status", t.x.status(), 0);
        t.with("born 5000 male of 0 and 1", "born 9000 male of 3 and none", "born 3999 female of none and none");
        Told.due("father", t.x.kin(0, 3), 1);
        Told.due("son", t.x.kin(3, 0), 1);
        Told.due("mother", t.x.kin(3, 1), 1);
        Told.due("grandson", t.x.kin(0, 4), 2);
        Told.due("parents of one", t.x.kin(0, 1), -1);
        Told.due("a stranger", t.x.kin(4, 5), -1);
        Told.sentence("kin: by f and m as they are told (LEGIT or not)");
        Told.due("not legit", t.x.person(4, 5), 0);
        Told.due("not legit", t.x.kin(4, 1), 2);
        // two lines down from one man, 24 births each; told in one run of calls
        Told u = new Told();
        u.tellPadded("born0male of none and none");
        for (int i = 1; i < 25; i++) {
            for (int side = 0; side < 2; side++) {
                int father = i == 1 ? 0 : 2 * i - 3 + side;
                u.tellPadded("born" + 4000 * i + "male of " + father + "and none");
            }
        }
        Told.sentence("kin: the fewest births");
        Told.due("the farthest", u.x.kin(47, 48), 48);
        Told.due("the farthest down", u.x.kin(48, 0), 24);
        Told.due("uncle", u.x.kin(1, 4), 3);
    }

    private static void lines() {
        Told.sentence("line: 1 (of the TITLE); 3; 1");
        Told t = couple().with("title 5000 0 mixed", "title 5000 0 mixed");
        t.x.strike(4);
        int[] none = {-1, 1, 2, 8, Integer.MIN_VALUE, Integer.MAX_VALUE};
        int[] places = {-1, 1, Integer.MIN_VALUE, Integer.MAX_VALUE};
        for (int title : none) {
            t.refused("line(" + title + ", 0, 0)", t.x.line(title, 0, 0), 1);
            t.refused("line(" + title + ", -1, -1)", t.x.line(title, -1, -1), 1);
        }
        for (int day : NO_DAYS) {
            t.refused("line(0, " + day + ", 0)", t.x.line(0, day, 0), 3);
            for (int k : places) t.refused("line(0, " + day + ", " + k + ")", t.x.line(0, day, k), 3);
        }
        for (int k : places) t.refused("line(0, 5000, " + k + ")", t.x.line(0, 5000, k), 1);
        Told.sentence("line: ahead of its own DAY the PERSON of its title is the ROOT");
        t.line(0, 0, 0);
        t.line(0, 4999, 0);
        t.line(0, 5000, 0);
        t.line(0, 99999, 0);
        Told u = new Told().with("born 10 male of none and none", "title 20 0 writ");
        u.line(0, 9);
        u.line(0, 10, 0);
        u.taken("dead 20 0");
        u.line(0, 19, 0);
        u.line(0, 20);
    }

    private static void ranks() {
        Told.sentence("rank: 1 (TITLE, PERSON); 3; -1: it is not in it");
        Told t = couple().with("title 5000 0 mixed", MAN);
        t.x.strike(4);
        int[] none = {-1, 2, 3, 64, Integer.MIN_VALUE, Integer.MAX_VALUE};
        for (int i : none) {
            t.refused("rank of title " + i, t.x.rank(i, 0, 0), 1);
            t.refused("rank of title " + i, t.x.rank(i, 0, -1), 1);
            t.refused("rank of person " + i, t.x.rank(0, i, 0), 1);
            t.refused("rank of person " + i, t.x.rank(0, i, 100000), 1);
        }
        for (int day : NO_DAYS) {
            t.refused("rank(0, 0, " + day + ")", t.x.rank(0, 0, day), 3);
            t.refused("rank(0, 1, " + day + ")", t.x.rank(0, 1, day), 3);
        }
        Told.due("rank(0, 0, 0)", t.x.rank(0, 0, 0), 0);
        Told.due("rank(0, 1, 99999)", t.x.rank(0, 1, 99999), -1);
        Told.due("status", t.x.status(), 0);
    }
}

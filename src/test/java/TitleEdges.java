/** Terms 4 and promises 13, 14, 17 to 20, sentence by sentence: what a title does on each day, and what is told of it. */
public final class TitleEdges {
    private static final String MAN = Told.MAN;
    private static final String WOMAN = Told.WOMAN;
    private static final int[] NO_DAYS = {-1, 100000, Integer.MIN_VALUE, Integer.MAX_VALUE};

    public static void main(String[] args) {
        ownDay();
        movedOnItsOwnDay();
        lost();
        back();
        passesFromAHolder();
        passesWhenNobodyHolds();
        bornBehindTheFather();
        notBornBehindTheFather();
        heldSince();
        firstSuchInTheLine();
        callsInAbeyance();
        callsOutOfAbeyance();
        whoIsCalled();
        rootOfTheCalled();
        rootAgain();
        vacant();
        fromTheRootOn();
        sonsFirst();
        daughtersThatCount();
        coheirsOfDaughters();
        oneTenure();
        mostTenures();
        holders();
        coheirs();
        tenures();
        holds();
        Told.finish("TitleEdges");
    }

    /** A couple and two sons 2 and 3, born 5000 and 5100; the title 0 of the man by a rule. */
    private static Told sons(String rule) {
        return new Told().with(MAN, WOMAN, "wed 4000 0 1", "born 5000 male of 0 and 1", "born 5100 male of 0 and 1",
                "title 6000 0 " + rule);
    }

    /** A couple and three daughters 2, 3, 4, born 5000, 5100, 5200; the title 0 of the man, by writ. */
    private static Told daughters() {
        return new Told().with(MAN, WOMAN, "wed 4000 0 1", "born 5000 female of 0 and 1", "born 5100 female of 0 and 1",
                "born 5200 female of 0 and 1", "title 6000 0 writ");
    }

    /** As sons, with a wife 4 of the elder son 2. */
    private static Told widow(String rule) {
        return sons(rule).with(WOMAN, "wed 9000 2 4");
    }

    private static void ownDay() {
        Told.sentence("Each TITLE has a STATE on each day from its own d on. On its d that PERSON HOLDS it");
        Told t = sons("mixed");
        t.holder(0, 0, -4);
        t.holder(0, 5999, -4);
        t.holder(0, 6000, 0);
        t.holder(0, 6001, 0);
        t.holder(0, 99999, 0);
        t.tenures(0, 0, 6000);
        Told u = new Told().with(MAN, "title 0 0 last", "born 99999 male of 0 and none", "title 99999 1 near");
        u.tenures(0, 0, 0);
        u.tenures(1, 1, 99999);
        Told v = sons("mixed").with("title 5000 2 equal", "title 5100 3 male");
        v.tenures(1, 2, 5000);
        v.tenures(2, 3, 5100);
    }

    private static void movedOnItsOwnDay() {
        Told.sentence("On each day x from then on on which somebody is born or dead, or a yield .. (its own d, too)");
        sons("mixed").with("dead 6000 0").tenures(0, 2, 6000);
        sons("mixed").with("yield 6000 0 0").tenures(0, 2, 6000);
        sons("mixed").with("lost 6000 0").tenures(0, -3, 6000);
        sons("mixed").with("lost 6000 0", "dead 6000 0", "back 6001 0").tenures(0, -3, 6000, 2, 6001);
        sons("mixed").with("yield 6000 0 0", "yield 6000 2 0", "yield 6000 3 0").tenures(0, -1, 6000);
        daughters().with("dead 6000 0").tenures(0, -2, 6000);
        daughters().with("dead 6000 0", "call 6000 3 0").tenures(0, 3, 6000);
        daughters().with("yield 6000 0 0", "call 6000 4 0").tenures(0, 4, 6000);
        daughters().with("call 6000 3 0").tenures(0, 0, 6000);
        daughters().with("dead 6000 0", "lost 6000 0", "call 6000 3 0").tenures(0, -3, 6000);
        sons("mixed").with("born 6000 male of 0 and 1").tenures(0, 0, 6000);
        Told.sentence("what is told of days ahead of its own moves nothing");
        Told t = new Told().with(MAN, WOMAN, "wed 4000 0 1", "born 5000 female of 0 and 1", "dead 5999 2", "title 6000 0 mixed",
                "title 6000 1 mixed", "dead 6001 0");
        t.tenures(0, 0, 6000, -1, 6001);
        t.tenures(1, 1, 6000);
    }

    private static void lost() {
        Told.sentence("a) Is its latest lost or back, on x or ahead of it, a lost, it is LOST");
        sons("mixed").with("lost 6500 0").tenures(0, 0, 6000, -3, 6500);
        sons("mixed").with("lost 99999 0").tenures(0, 0, 6000, -3, 99999);
        sons("mixed").with("lost 6500 0", "dead 6500 0").tenures(0, 0, 6000, -3, 6500);
        sons("mixed").with("lost 6500 0", "yield 6500 0 0").tenures(0, 0, 6000, -3, 6500);
        sons("mixed").with("lost 6500 0", "dead 6600 0", "dead 6700 2", "born 6800 female of none and none", "yield 6900 3 0")
                .tenures(0, 0, 6000, -3, 6500);
        daughters().with("dead 6400 0", "lost 6500 0", "call 6500 3 0", "call 6600 4 0").tenures(0, 0, 6000, -2, 6400, -3, 6500);
        sons("mixed").with("dead 6100 0", "dead 6200 2", "dead 6300 3", "lost 6500 0", "born 6501 male of none and 1")
                .tenures(0, 0, 6000, 2, 6100, 3, 6200, -1, 6300, -3, 6500);
        sons("mixed").with("lost 6500 0", "back 6600 0", "lost 6601 0")
                .tenures(0, 0, 6000, -3, 6500, 0, 6600, -3, 6601);
        Told.sentence("a lost, a back, a yield of another TITLE moves nothing");
        Told t = sons("mixed").with("title 6000 0 mixed", "lost 6500 1", "dead 7000 0", "back 7100 1", "yield 7200 2 1");
        t.tenures(0, 0, 6000, 2, 7000);
        t.tenures(1, 0, 6000, -3, 6500, 2, 7100, 3, 7200);
    }

    private static void back() {
        Told.sentence("a) On the day of a back it PASSES");
        sons("mixed").with("lost 6500 0", "back 6501 0").tenures(0, 0, 6000, -3, 6500, 0, 6501);
        sons("mixed").with("lost 6500 0", "back 99999 0").tenures(0, 0, 6000, -3, 6500, 0, 99999);
        sons("mixed").with("lost 6500 0", "back 6600 0", "dead 6600 0").tenures(0, 0, 6000, -3, 6500, 2, 6600);
        sons("mixed").with("lost 6500 0", "back 6600 0", "yield 6600 0 0").tenures(0, 0, 6000, -3, 6500, 2, 6600);
        sons("mixed").with("lost 6500 0", "back 6600 0", "dead 6550 0", "dead 6599 2").tenures(0, 0, 6000, -3, 6500, 3, 6600);
        sons("mixed").with("lost 6500 0", "back 6600 0", "dead 6550 0", "dead 6600 2", "dead 6600 3")
                .tenures(0, 0, 6000, -3, 6500, -1, 6600);
        daughters().with("lost 6500 0", "back 6600 0", "dead 6550 0").tenures(0, 0, 6000, -3, 6500, -2, 6600);
        // it goes to the first in the line, not to the one who held it
        Told t = new Told().with(MAN, WOMAN, "wed 4000 0 1", "born 5000 female of 0 and 1", "title 6000 0 mixed", "yield 7000 0 0",
                "born 7100 male of 0 and 1", "lost 7200 0", "back 7300 0");
        t.tenures(0, 0, 6000, 2, 7000, -3, 7200, 3, 7300);
        // on later days the back passes nothing
        Told u = new Told().with(MAN, WOMAN, "wed 4000 0 1", "born 5000 female of 0 and 1", "title 6000 0 mixed", "yield 7000 0 0",
                "lost 7050 0", "back 7060 0", "born 7100 male of 0 and 1", "dead 7200 1");
        u.tenures(0, 0, 6000, 2, 7000, -3, 7050, 2, 7060);
    }

    private static void passesFromAHolder() {
        Told.sentence("b) Does a PERSON HOLD it who is not ALIVE on x, or has YIELDED it, it PASSES");
        sons("mixed").with("dead 6001 0").tenures(0, 0, 6000, 2, 6001);
        sons("mixed").with("yield 6001 0 0").tenures(0, 0, 6000, 2, 6001);
        sons("mixed").with("dead 99999 0").tenures(0, 0, 6000, 2, 99999);
        sons("mixed").with("dead 7000 0", "dead 7000 2").tenures(0, 0, 6000, 3, 7000);
        sons("mixed").with("dead 7000 0", "yield 7000 2 0").tenures(0, 0, 6000, 3, 7000);
        sons("mixed").with("dead 7000 0", "yield 7001 2 0").tenures(0, 0, 6000, 2, 7000, 3, 7001);
        sons("mixed").with("dead 7000 0", "yield 6000 2 0").tenures(0, 0, 6000, 3, 7000);
        Told t = sons("mixed").with("title 6000 0 mixed", "yield 7000 0 1");
        t.tenures(0, 0, 6000);
        t.tenures(1, 0, 6000, 2, 7000);
        Told.sentence("who HOLDS it goes on, whoever comes to stand ahead in the LINE while its f lives");
        Told u = new Told().with(MAN, WOMAN, "wed 4000 0 1", "born 5000 female of 0 and 1", "title 6000 0 mixed", "yield 7000 0 0",
                "born 7000 male of 0 and 1", "born 7001 male of 0 and 1");
        u.tenures(0, 0, 6000, 3, 7000);
        u.line(0, 7001, 3, 4, 2);
        Told w = new Told().with(MAN, WOMAN, "wed 4000 0 1", "born 5000 female of 0 and 1", "title 6000 0 mixed", "yield 7000 0 0",
                "born 7001 male of 0 and 1", "dead 7500 1", "yield 8000 2 0");
        w.tenures(0, 0, 6000, 2, 7000, 3, 8000);
        Told v = new Told().with(MAN, WOMAN, "wed 4000 0 1", "born 5000 female of 0 and 1", "title 6000 0 mixed", "yield 7000 0 0",
                "born 7001 male of 0 and 1");
        v.tenures(0, 0, 6000, 2, 7000);
        v.line(0, 7001, 3, 2);
    }

    private static void passesWhenNobodyHolds() {
        Told.sentence("b) Is it VACANT or in ABEYANCE, it PASSES, too");
        Told t = new Told().with(MAN, WOMAN, "wed 4000 0 1", "title 6000 0 mixed", "dead 7000 0", MAN, "dead 7050 2");
        t.tenures(0, 0, 6000, -1, 7000);
        t.with("born 7300 female of 0 and 1");
        t.tenures(0, 0, 6000, -1, 7000, 3, 7300);
        t.with("dead 7301 3");
        t.tenures(0, 0, 6000, -1, 7000, 3, 7300, -1, 7301);
        daughters().with("dead 7000 0", "dead 7001 2", "dead 7002 4").tenures(0, 0, 6000, -2, 7000, 3, 7002);
        daughters().with("dead 7000 0", "yield 7001 2 0", "yield 7002 4 0").tenures(0, 0, 6000, -2, 7000, 3, 7002);
        daughters().with("dead 7000 0", "born 7300 male of 0 and 1").tenures(0, 0, 6000, -2, 7000, 5, 7300);
        daughters().with("dead 7000 0", "dead 7001 2", "dead 7001 3", "dead 7001 4").tenures(0, 0, 6000, -2, 7000, -1, 7001);
    }

    private static void bornBehindTheFather() {
        Told.sentence("c) was somebody LEGIT born on x whose f was dead ahead of x, who stands in the LINE ahead of the holder");
        for (int born : new int[] {9501, 9799, 9800}) {
            widow("mixed").with("dead 7000 0", "dead 9500 2", "born " + born + " female of 2 and 4")
                    .tenures(0, 0, 6000, 2, 7000, 3, 9500, 5, born);
        }
        for (String rule : new String[] {"male", "mixed", "equal", "writ"}) {
            widow(rule).with("dead 7000 0", "dead 9500 2", "born 9600 male of 2 and 4")
                    .tenures(0, 0, 6000, 2, 7000, 3, 9500, 5, 9600);
        }
        // a father of another family
        Told t = new Told().with(MAN, WOMAN, "wed 4000 0 1", "born 5000 female of 0 and 1", "born 5100 female of 0 and 1", MAN,
                "wed 9000 4 2", "title 6000 0 mixed", "yield 7000 2 0", "dead 9400 4", "dead 9400 0", "born 9600 female of 4 and 2");
        t.tenures(0, 0, 6000, 3, 9400, 5, 9600);
        // and one who comes into the world once more ahead of that one
        widow("mixed").with("dead 7000 0", "dead 9500 2", "born 9600 female of 2 and 4", "born 9700 male of 2 and 4")
                .tenures(0, 0, 6000, 2, 7000, 3, 9500, 5, 9600, 6, 9700);
    }

    private static void notBornBehindTheFather() {
        Told.sentence("c) LEGIT; f dead ahead of x; in the LINE ahead of the one who HOLDS it");
        int[] held = {0, 6000, 2, 7000, 3, 9500};
        sons("mixed").with(WOMAN, "dead 7000 0", "dead 9500 2", "born 9600 male of 2 and 4").tenures(0, held);
        widow("mixed").with("part 9499 2 4", "dead 7000 0", "dead 9500 2", "born 9600 male of 2 and 4").tenures(0, held);
        widow("male").with("dead 7000 0", "dead 9500 2", "born 9600 female of 2 and 4").tenures(0, held);
        widow("near").with("dead 7000 0", "dead 9500 2", "born 9600 male of 2 and 4").tenures(0, held);
        widow("mixed").with("dead 7000 0", "dead 9500 2", "born 9600 male of 2 and 4", "dead 9600 5").tenures(0, held);
        widow("mixed").with("dead 7000 0", "dead 9500 2", "born 9600 male of 2 and 4", "yield 9600 5 0").tenures(0, held);
        // of the younger brother, behind the holder; of a father who dies on the day, or lives
        sons("mixed").with(WOMAN, "wed 9200 3 4", "dead 7000 0", "dead 9500 3", "born 9600 male of 3 and 4")
                .tenures(0, 0, 6000, 2, 7000);
        widow("mixed").with("yield 9500 2 0", "dead 7000 0", "dead 9600 2", "born 9600 male of 2 and 4").tenures(0, held);
        widow("mixed").with("yield 9500 2 0", "dead 7000 0", "born 9600 male of 2 and 4").tenures(0, held);
        Told.sentence("c) If it does not PASS by b)");
        widow("mixed").with("dead 7000 0", "dead 9500 2", "dead 9600 3", "born 9600 male of 2 and 4")
                .tenures(0, 0, 6000, 2, 7000, 3, 9500, 5, 9600);
        widow("mixed").with("dead 7000 0", "dead 9500 2", "lost 9550 0", "born 9600 male of 2 and 4", "back 9600 0")
                .tenures(0, 0, 6000, 2, 7000, 3, 9500, -3, 9550, 5, 9600);
        widow("mixed").with("dead 7000 0", "dead 9500 2", "lost 9600 0", "born 9600 male of 2 and 4")
                .tenures(0, 0, 6000, 2, 7000, 3, 9500, -3, 9600);
    }

    private static void heldSince() {
        Told.sentence("c) does that one HOLD it since the day of f's dead or a later one");
        widow("mixed").with("dead 7000 0", "yield 9499 2 0", "dead 9500 2", "born 9600 male of 2 and 4")
                .tenures(0, 0, 6000, 2, 7000, 3, 9499);
        widow("mixed").with("dead 7000 0", "yield 9500 2 0", "dead 9500 2", "born 9600 male of 2 and 4")
                .tenures(0, 0, 6000, 2, 7000, 3, 9500, 5, 9600);
        widow("mixed").with("yield 8000 2 0", "dead 9501 0", "dead 9500 2", "born 9600 male of 2 and 4")
                .tenures(0, 0, 6000, 3, 9501, 5, 9600);
        // lost and given back to the same one: it holds it since the back
        String[] told = {"yield 8000 2 0", "dead 8500 0", "dead 9500 2", "born 9700 male of 2 and 4"};
        widow("mixed").with(told).tenures(0, 0, 6000, 3, 8500);
        widow("mixed").with(told).with("lost 9400 0", "back 9499 0").tenures(0, 0, 6000, 3, 8500, -3, 9400, 3, 9499);
        widow("mixed").with(told).with("lost 9400 0", "back 9500 0").tenures(0, 0, 6000, 3, 8500, -3, 9400, 3, 9500, 5, 9700);
        widow("mixed").with(told).with("lost 9400 0", "back 9699 0").tenures(0, 0, 6000, 3, 8500, -3, 9400, 3, 9699, 5, 9700);
    }

    private static void firstSuchInTheLine() {
        Told.sentence("c) the first such in the LINE HOLDS it from x on");
        widow("mixed").with("dead 7000 0", "dead 9500 2", "born 9600 female of 2 and 4", "born 9600 male of 2 and 4",
                "born 9600 male of 2 and 4").tenures(0, 0, 6000, 2, 7000, 3, 9500, 6, 9600);
        widow("equal").with("dead 7000 0", "dead 9500 2", "born 9600 female of 2 and 4", "born 9600 male of 2 and 4")
                .tenures(0, 0, 6000, 2, 7000, 3, 9500, 5, 9600);
        // one ahead of it in the line whose father died behind the day since which it is held is not such a one
        Told t = new Told().with(MAN, WOMAN, "wed 4000 0 1", "born 5000 male of 0 and 1", "born 5100 male of 0 and 1",
                "born 5200 male of 0 and 1", WOMAN, WOMAN, "wed 9200 2 5", "wed 9200 3 6", "title 6000 0 mixed", "dead 7000 0",
                "dead 9400 3", "yield 9450 2 0", "dead 9500 2", "born 9600 male of 2 and 5", "born 9600 male of 3 and 6");
        t.tenures(0, 0, 6000, 2, 7000, 4, 9450, 8, 9600);
        t.line(0, 9600, 7, 8, 4);
    }

    private static void callsInAbeyance() {
        Told.sentence("d) Is it in ABEYANCE (from before, or by b)), and is there a call of it on x");
        daughters().with("dead 7000 0", "call 7000 3 0").tenures(0, 0, 6000, 3, 7000);
        daughters().with("dead 7000 0", "call 7001 3 0").tenures(0, 0, 6000, -2, 7000, 3, 7001);
        daughters().with("dead 7000 0", "call 99999 3 0").tenures(0, 0, 6000, -2, 7000, 3, 99999);
        daughters().with("yield 7000 0 0", "call 7000 4 0").tenures(0, 0, 6000, 4, 7000);
        daughters().with("dead 7000 0", "lost 7100 0", "back 7200 0", "call 7200 3 0")
                .tenures(0, 0, 6000, -2, 7000, -3, 7100, 3, 7200);
        daughters().with("lost 6500 0", "dead 7000 0", "back 7200 0", "call 7200 3 0").tenures(0, 0, 6000, -3, 6500, 3, 7200);
        // a call of another title, on a day on which somebody dies
        daughters().with("title 6000 0 writ", MAN, "dead 7000 0", "call 7100 3 1", "dead 7100 5").tenures(0, 0, 6000, -2, 7000);
    }

    private static void callsOutOfAbeyance() {
        Told.sentence("d) Is it in ABEYANCE: a call on another day, or while it is HELD, VACANT or LOST, does nothing");
        daughters().with("dead 7000 0", "call 6999 3 0").tenures(0, 0, 6000, -2, 7000);
        daughters().with("call 6500 3 0").tenures(0, 0, 6000);
        daughters().with("dead 7000 0", "call 7100 3 0", "call 7101 2 0").tenures(0, 0, 6000, -2, 7000, 3, 7100);
        daughters().with("dead 7000 0", "lost 7100 0", "call 7100 3 0", "call 7150 3 0", "back 7200 0")
                .tenures(0, 0, 6000, -2, 7000, -3, 7100, -2, 7200);
        Told t = daughters().with("dead 7000 0", "dead 7100 2", "dead 7100 3", "dead 7100 4", "call 7100 2 0", "call 7200 1 0");
        t.tenures(0, 0, 6000, -2, 7000, -1, 7100);
        Told u = daughters().with("dead 7000 0", "dead 7100 2", "dead 7100 4", "call 7100 3 0");
        u.tenures(0, 0, 6000, -2, 7000, 3, 7100);
    }

    private static void whoIsCalled() {
        Told.sentence("d) whose PERSON is in the LINE");
        daughters().with("dead 7000 0", "call 7100 1 0").tenures(0, 0, 6000, -2, 7000);
        daughters().with("dead 7000 0", "call 7000 0 0").tenures(0, 0, 6000, -2, 7000);
        daughters().with("dead 7000 0", "call 7100 3 0", "dead 7100 3").tenures(0, 0, 6000, -2, 7000);
        daughters().with("dead 7000 0", "call 7100 3 0", "dead 7101 3").tenures(0, 0, 6000, -2, 7000, 3, 7100, -2, 7101);
        daughters().with("dead 7000 0", "call 7100 3 0", "yield 7100 3 0").tenures(0, 0, 6000, -2, 7000);
        daughters().with("dead 7000 0", "call 7100 3 0", "yield 7101 3 0").tenures(0, 0, 6000, -2, 7000, 3, 7100, -2, 7101);
        daughters().with("dead 7000 0", "born 9200 female of none and 4", "call 9200 5 0").tenures(0, 0, 6000, -2, 7000);
        daughters().with("dead 7000 0", MAN, "wed 9200 5 4", "born 9200 female of 5 and 4", "call 9200 6 0")
                .tenures(0, 0, 6000, -2, 7000, 6, 9200);
        Told.sentence("d) of several calls that with the least number of a RECORD");
        daughters().with("dead 7000 0", "call 7100 4 0", "call 7100 2 0", "call 7100 3 0").tenures(0, 0, 6000, -2, 7000, 4, 7100);
        Told t = daughters().with("dead 7000 0", "call 7100 1 0", "call 7100 3 0", "call 7100 2 0");
        t.tenures(0, 0, 6000, -2, 7000, 3, 7100);
        t.x.strike(9);
        t.tenures(0, 0, 6000, -2, 7000, 2, 7100);
        t.x.strike(10);
        t.tenures(0, 0, 6000, -2, 7000);
        daughters().with("dead 7000 0", "call 7101 4 0", "call 7100 3 0").tenures(0, 0, 6000, -2, 7000, 3, 7100);
    }

    private static void rootOfTheCalled() {
        Told.sentence("d) that one HOLDS it, and is its ROOT from x on");
        Told t = daughters().with(MAN, "wed 9200 5 4", "born 9200 male of 5 and 4", "born 9300 female of 5 and 4",
                "born 9400 female of 5 and 4", "dead 9500 0", "call 9600 4 0");
        t.line(0, 9599, 2, 3, 4, 6, 7, 8);
        t.line(0, 9600, 4, 6, 7, 8);
        t.line(0, 99999, 4, 6, 7, 8);
        Told.due("rank of who is in the line no more", t.x.rank(0, 2, 9600), -1);
        Told.due("rank a day ahead", t.x.rank(0, 2, 9599), 0);
        t.tenures(0, 0, 6000, -2, 9500, 4, 9600);
        t.with("dead 9700 4", "dead 9800 6");
        t.tenures(0, 0, 6000, -2, 9500, 4, 9600, 6, 9700, -2, 9800);
        t.coheirs(0, 9800, 7, 8);
        t.with("call 9900 3 0", "call 9900 8 0");
        t.tenures(0, 0, 6000, -2, 9500, 4, 9600, 6, 9700, -2, 9800, 8, 9900);
        t.line(0, 9899, 7, 8);
        t.line(0, 9900, 8);
    }

    private static void rootAgain() {
        Told.sentence("is nobody of the LINE left and the ROOT is not the PERSON of its title, the ROOT is that PERSON again");
        Told t = daughters().with("dead 7000 0", "call 7100 4 0", "dead 7200 4");
        t.tenures(0, 0, 6000, -2, 7000, 4, 7100, -2, 7200);
        t.line(0, 7199, 4);
        t.line(0, 7200, 2, 3);
        t.coheirs(0, 7200, 2, 3);
        t.with("call 7200 3 0");
        t.tenures(0, 0, 6000, -2, 7000, 4, 7100, 3, 7200);
        t.line(0, 7200, 3);
        t.with("yield 7300 3 0");
        t.tenures(0, 0, 6000, -2, 7000, 4, 7100, 3, 7200, 2, 7300);
        t.line(0, 7300, 2);
        // on a back, too; and with nobody left of the first root's line either it is vacant
        Told u = daughters().with("dead 7000 0", "call 7100 4 0", "lost 7150 0", "dead 7200 4", "dead 7200 2", "back 7300 0");
        u.tenures(0, 0, 6000, -2, 7000, 4, 7100, -3, 7150, 3, 7300);
        u.line(0, 7299);
        u.line(0, 7300, 3);
        u.with("dead 7400 3");
        u.tenures(0, 0, 6000, -2, 7000, 4, 7100, -3, 7150, 3, 7300, -1, 7400);
        // who yielded is not of the line by the first root either
        Told v = daughters().with("dead 7000 0", "call 7100 4 0", "yield 7200 4 0", "dead 7300 2");
        v.tenures(0, 0, 6000, -2, 7000, 4, 7100, -2, 7200, 3, 7300);
    }

    private static void vacant() {
        Told.sentence("Then: to the first in the LINE; VACANT, if there is none");
        sons("mixed").with("dead 7000 0").tenures(0, 0, 6000, 2, 7000);
        sons("last").with("dead 7000 0").tenures(0, 0, 6000, 3, 7000);
        sons("male").with("dead 7000 0", "dead 7001 2", "dead 7002 3").tenures(0, 0, 6000, 2, 7000, 3, 7001, -1, 7002);
        daughters().with("yield 7000 0 0", "yield 7000 2 0", "yield 7000 3 0", "yield 7000 4 0").tenures(0, 0, 6000, -1, 7000);
        new Told().with(MAN, "title 0 0 writ", "dead 1 0").tenures(0, 0, 0, -1, 1);
    }

    private static void fromTheRootOn() {
        Told.sentence("With the RULE writ: is the PERSON at whom one is in the LINE, it HOLDS the TITLE");
        daughters().with("lost 7000 0", "back 7001 0").tenures(0, 0, 6000, -3, 7000, 0, 7001);
        Told.sentence("With the RULE writ: goes on at ..: is there one, one goes on at her");
        daughters().with("dead 6100 3", "dead 6200 4", "dead 7000 0").tenures(0, 0, 6000, 2, 7000);
        daughters().with("dead 6100 2", "dead 6200 4", "dead 7000 0").tenures(0, 0, 6000, 3, 7000);
        // down two empty places: the dead daughter's dead daughter has a son and a daughter
        Told t = new Told().with(MAN, WOMAN, "wed 4000 0 1", "born 4000 female of 0 and 1", MAN, "wed 8000 3 2",
                "born 8000 female of 3 and 2", MAN, "wed 12000 5 4", "born 12000 female of 5 and 4", "born 12001 male of 5 and 4",
                "title 100 0 writ", "dead 12002 2", "dead 12002 4", "dead 13000 0");
        t.tenures(0, 0, 100, 7, 13000);
        t.with("dead 13001 7");
        t.tenures(0, 0, 100, 7, 13000, 6, 13001);
    }

    private static void sonsFirst() {
        Told.sentence("Else one goes on at the oldest of its LEGIT sons whose BODY has somebody in the LINE");
        Told t = new Told().with(MAN, WOMAN, "wed 4000 0 1", "born 4000 female of 0 and 1", "born 4001 male of 0 and 1",
                "born 4002 male of 0 and 1", "born 4003 male of 0 and none", WOMAN, "wed 8001 3 6", "born 8001 female of 3 and 6",
                "born 8002 female of 3 and 6", "title 100 0 writ", "dead 9000 3", "dead 9001 0");
        // the two daughters of the oldest son, though another son lives
        t.tenures(0, 0, 100, -2, 9001);
        t.coheirs(0, 9001, 7, 8);
        t.with("dead 9002 7");
        t.tenures(0, 0, 100, -2, 9001, 8, 9002);
        t.with("dead 9003 8");
        t.tenures(0, 0, 100, -2, 9001, 8, 9002, 4, 9003);
        t.with("dead 9004 4");
        t.tenures(0, 0, 100, -2, 9001, 8, 9002, 4, 9003, 2, 9004);
        t.with("dead 9005 2");
        t.tenures(0, 0, 100, -2, 9001, 8, 9002, 4, 9003, 2, 9004, -1, 9005);
    }

    /** 2 and 3 daughters of 0; 6 a son of 2, 7 a daughter of 3; 8 the child of 6 and 7. */
    private static Told cousins() {
        return new Told().with(MAN, WOMAN, "wed 4000 0 1", "born 4000 female of 0 and 1", "born 4001 female of 0 and 1", MAN, MAN,
                "wed 8000 4 2", "wed 8001 5 3", "born 8000 male of 4 and 2", "born 8001 female of 5 and 3", "wed 12001 6 7",
                "born 12001 female of 6 and 7", "title 100 0 writ", "dead 13000 0");
    }

    private static void daughtersThatCount() {
        Told.sentence("the daughters that count: LEGIT ones whose BODY has somebody in the LINE who is in the BODY of no older one");
        Told t = cousins();
        t.tenures(0, 0, 100, -2, 13000);
        t.coheirs(0, 13000, 2, 3);
        t.with("dead 13001 3");
        t.coheirs(0, 13001, 2, 7);
        t.with("dead 13002 7");
        t.tenures(0, 0, 100, -2, 13000, 2, 13002);
        // the older one has nobody but the child of both: the younger one has nobody else
        Told u = cousins().with("dead 13001 2", "dead 13001 6", "dead 13001 3");
        u.tenures(0, 0, 100, -2, 13000);
        u.coheirs(0, 13001, 8, 7);
        u.with("yield 13002 7 0");
        u.tenures(0, 0, 100, -2, 13000, 8, 13002);
        Told v = cousins().with("dead 13001 2", "dead 13001 6", "dead 13001 8");
        v.tenures(0, 0, 100, -2, 13000, 3, 13001);
        // one who is not legit counts nothing
        Told w = new Told().with(MAN, WOMAN, "wed 4000 0 1", "born 5000 female of 0 and 1", "born 5001 female of 0 and none",
                "title 6000 0 writ", "dead 7000 0");
        w.tenures(0, 0, 6000, 2, 7000);
    }

    private static void coheirsOfDaughters() {
        Told.sentence("COHEIRS are of each of these daughters, the older first, the one of her BODY .. who comes first in the LINE");
        Told t = new Told().with(MAN, WOMAN, "wed 4000 0 1", "born 5002 female of 0 and 1", "born 5001 female of 0 and 1",
                "born 5002 female of 0 and 1", "title 6000 0 writ", "dead 7000 0");
        t.coheirs(0, 7000, 3, 2, 4);
        t.with(MAN, "wed 9100 5 3", "born 9101 female of 5 and 3", "born 9102 male of 5 and 3", "born 9103 male of 5 and 3");
        t.coheirs(0, 9103, 3, 2, 4);
        t.with("dead 9200 3");
        t.coheirs(0, 9200, 7, 2, 4);
        t.with("dead 9201 7");
        t.coheirs(0, 9201, 8, 2, 4);
        t.with("dead 9202 8");
        t.coheirs(0, 9202, 6, 2, 4);
        t.with("dead 9203 6");
        t.coheirs(0, 9203, 2, 4);
        Told.sentence("COHEIRS: the one of her BODY, but of no older one's");
        Told u = cousins().with("dead 13001 2", "dead 13002 6", "dead 13003 3");
        u.coheirs(0, 13001, 6, 3);
        u.coheirs(0, 13002, 8, 3);
        u.coheirs(0, 13003, 8, 7);
    }

    private static void oneTenure() {
        Told.sentence("TENURE: as long as it stays VACANT, LOST or in ABEYANCE, it is one, whoever the COHEIRS are");
        daughters().with("dead 7000 0", "dead 7100 3", MAN, "dead 7200 5").tenures(0, 0, 6000, -2, 7000);
        sons("male").with("dead 7000 0", "dead 7000 2", "dead 7000 3", MAN, "dead 7200 4", "born 7200 female of none and 1")
                .tenures(0, 0, 6000, -1, 7000);
        sons("male").with("lost 7000 0", "dead 7100 0", "dead 7200 2").tenures(0, 0, 6000, -3, 7000);
        Told.sentence("TENURE: who holds it anew behind another STATE has another TENURE");
        sons("male").with("lost 7000 0", "back 7001 0").tenures(0, 0, 6000, -3, 7000, 0, 7001);
        daughters().with("dead 7000 0", "lost 7001 0", "back 7002 0").tenures(0, 0, 6000, -2, 7000, -3, 7001, -2, 7002);
        sons("male").with("dead 7000 0", "dead 7000 2", "dead 7000 3", "lost 7001 0", "back 7002 0")
                .tenures(0, 0, 6000, -1, 7000, -3, 7001, -1, 7002);
    }

    /** A record for every tenure but the first two records. */
    private static void mostTenures() {
        Told.sentence("tenures: how many TENURES a TITLE has, till the last DAY (200 RECORDS at most)");
        Told t = new Told();
        t.tellPadded("born0male of none and none");
        t.tellPadded("title0 0mixed");
        for (int i = 2; i < 200; i++) {
            int day = i == 199 ? 99999 : i;
            Told.due("record " + i, t.tellPadded((i % 2 == 0 ? "lost" : "back") + day + " 0"), i);
        }
        Told.due("tenures", t.x.tenures(0), 199);
        for (int i : new int[] {0, 1, 2, 99, 100, 197}) {
            Told.due("tenure " + i, t.x.tenure(0, i, 0), i % 2 == 0 ? 0 : -3);
            Told.due("first day of tenure " + i, t.x.tenure(0, i, 1), i == 0 ? 0 : i + 1);
        }
        Told.due("first day of the last", t.x.tenure(0, 198, 1), 99999);
        t.refused("one more", t.x.tenure(0, 199, 0), 1);
        t.holder(0, 99998, -3);
        t.holder(0, 99999, 0);
    }

    private static int[] noTitles() {
        return new int[] {-1, 1, 2, 8, Integer.MIN_VALUE, Integer.MAX_VALUE};
    }

    /** A title 0 that is there, and a title 1 that was struck out. */
    private static Told oneOfTwo() {
        Told t = sons("mixed").with("title 6000 0 mixed");
        t.x.strike(6);
        return t;
    }

    private static void holders() {
        Told.sentence("holder: -4 the DAY is ahead of its own. since: -1 ahead of the TITLE's own. 1; 3");
        Told t = oneOfTwo();
        for (int title : noTitles()) {
            t.refused("holder(" + title + ", 6000)", t.x.holder(title, 6000), 1);
            t.refused("since(" + title + ", 6000)", t.x.since(title, 6000), 1);
            t.refused("holder(" + title + ", -1)", t.x.holder(title, -1), 1);
            t.refused("since(" + title + ", 100000)", t.x.since(title, 100000), 1);
        }
        for (int day : NO_DAYS) {
            t.refused("holder(0, " + day + ")", t.x.holder(0, day), 3);
            t.refused("since(0, " + day + ")", t.x.since(0, day), 3);
        }
        int[] days = {0, 5999, 6000, 99999};
        for (int day : days) {
            Told.due("holder(0, " + day + ")", t.x.holder(0, day), day < 6000 ? -4 : 0);
            Told.due("status", t.x.status(), 0);
            Told.due("since(0, " + day + ")", t.x.since(0, day), day < 6000 ? -1 : 6000);
            Told.due("status", t.x.status(), 0);
        }
    }

    private static void coheirs() {
        Told.sentence("coheir: 1; 3; 1 (if it is not in ABEYANCE, too)");
        Told t = oneOfTwo();
        for (int title : noTitles()) {
            t.refused("coheir(" + title + ", 6000, 0)", t.x.coheir(title, 6000, 0), 1);
            t.refused("coheir(" + title + ", -1, 0)", t.x.coheir(title, -1, 0), 1);
        }
        Told u = daughters().with("dead 7000 0", "lost 8000 0", "back 8100 0", "call 8200 4 0", "dead 8300 4", "dead 8400 2",
                "dead 8400 3");
        for (int day : NO_DAYS) {
            u.refused("coheir(0, " + day + ", 0)", u.x.coheir(0, day, 0), 3);
            u.refused("coheir(0, " + day + ", -1)", u.x.coheir(0, day, -1), 3);
            u.refused("coheir(0, " + day + ", 99)", u.x.coheir(0, day, 99), 3);
        }
        u.tenures(0, 0, 6000, -2, 7000, -3, 8000, -2, 8100, 4, 8200, -2, 8300, -1, 8400);
        int[] others = {0, 5999, 6000, 6999, 8000, 8099, 8200, 8299, 8400, 99999};
        for (int day : others) u.coheirs(0, day);
        u.coheirs(0, 7000, 2, 3, 4);
        u.coheirs(0, 7999, 2, 3, 4);
        u.coheirs(0, 8100, 2, 3, 4);
        u.coheirs(0, 8199, 2, 3, 4);
        u.coheirs(0, 8300, 2, 3);
        u.coheirs(0, 8399, 2, 3);
        int[] places = {-1, 3, 4, 64, Integer.MIN_VALUE, Integer.MAX_VALUE};
        for (int k : places) u.refused("coheir(0, 7000, " + k + ")", u.x.coheir(0, 7000, k), 1);
        Told.sentence("coheir: of the latest day, up to this DAY, on which it PASSED");
        Told v = daughters().with("dead 7000 0", "dead 7100 2", "yield 7200 3 0");
        v.coheirs(0, 7099, 2, 3, 4);
        v.coheirs(0, 7100, 3, 4);
        v.coheirs(0, 7199, 3, 4);
        v.coheirs(0, 7200);
    }

    private static void tenures() {
        Told.sentence("tenures: 1. tenure: 1 (the TITLE); 1 (no i-th one); 3");
        Told t = oneOfTwo().with("dead 7000 0");
        for (int title : noTitles()) {
            t.refused("tenures(" + title + ")", t.x.tenures(title), 1);
            t.refused("tenure(" + title + ", 0, 0)", t.x.tenure(title, 0, 0), 1);
            t.refused("tenure(" + title + ", 9, 9)", t.x.tenure(title, 9, 9), 1);
        }
        int[] off = {-1, 2, Integer.MIN_VALUE, Integer.MAX_VALUE};
        for (int i : off) {
            t.refused("tenure(0, " + i + ", 0)", t.x.tenure(0, i, 0), 1);
            t.refused("tenure(0, " + i + ", 1)", t.x.tenure(0, i, 1), 1);
            t.refused("tenure(0, " + i + ", 2)", t.x.tenure(0, i, 2), 1);
            t.refused("tenure(0, 0, " + i + ")", t.x.tenure(0, 0, i), 3);
            t.refused("tenure(0, 1, " + i + ")", t.x.tenure(0, 1, i), 3);
        }
        Told.due("tenures(0)", t.x.tenures(0), 2);
        Told.due("status", t.x.status(), 0);
        Told.due("tenure(0, 1, 0)", t.x.tenure(0, 1, 0), 2);
        Told.due("tenure(0, 1, 1)", t.x.tenure(0, 1, 1), 7000);
    }

    private static void holds() {
        Told.sentence("holds: 1; 3; 1");
        Told t = oneOfTwo().with(MAN);
        t.x.strike(7);
        int[] none = {-1, 4, 5, 64, Integer.MIN_VALUE, Integer.MAX_VALUE};
        int[] places = {-1, 1, 8, Integer.MIN_VALUE, Integer.MAX_VALUE};
        for (int p : none) {
            t.refused("holds(" + p + ", 6000, 0)", t.x.holds(p, 6000, 0), 1);
            t.refused("holds(" + p + ", -1, -1)", t.x.holds(p, -1, -1), 1);
        }
        for (int day : NO_DAYS) {
            t.refused("holds(0, " + day + ", 0)", t.x.holds(0, day, 0), 3);
            for (int k : places) t.refused("holds(0, " + day + ", " + k + ")", t.x.holds(0, day, k), 3);
        }
        for (int k : places) t.refused("holds(0, 6000, " + k + ")", t.x.holds(0, 6000, k), 1);
        t.refused("holds(0, 5999, 0)", t.x.holds(0, 5999, 0), 1);
        t.refused("holds(1, 6000, 0)", t.x.holds(1, 6000, 0), 1);
        Told.due("holds(0, 6000, 0)", t.x.holds(0, 6000, 0), 0);
        Told.due("holds(0, 99999, 0)", t.x.holds(0, 99999, 0), 0);
        Told.sentence("holds: the k-th TITLE (by their numbers, of those that are there)");
        Told u = new Told().with(MAN, WOMAN);
        for (int i = 0; i < 8; i++) u.taken("title " + (80 - i) + " " + i % 2 + " male");
        u.x.strike(4);
        int[] due = {0, 4, 6};
        for (int k = 0; k < 3; k++) Told.due("holds(0, 99999, " + k + ")", u.x.holds(0, 99999, k), due[k]);
        u.refused("holds(0, 99999, 3)", u.x.holds(0, 99999, 3), 1);
        Told.due("holds(0, 79, 0)", u.x.holds(0, 79, 0), 4);
        Told.due("holds(0, 75, 0)", u.x.holds(0, 75, 0), 6);
        Told.due("holds(1, 99999, 3)", u.x.holds(1, 99999, 3), 7);
        Told.due("holds(1, 73, 0)", u.x.holds(1, 73, 0), 7);
        u.refused("holds(1, 72, 0)", u.x.holds(1, 72, 0), 1);
        u.taken("lost 90 0");
        Told.due("holds(0, 90, 0)", u.x.holds(0, 90, 0), 4);
        Told.due("holds(0, 89, 0)", u.x.holds(0, 89, 0), 0);
    }
}

/** Promises 15 and 16: the order of the line by each rule, and who is in it. */
public final class LineTest {
    private static final String MAN = Told.MAN;
    private static final String WOMAN = Told.WOMAN;
    private static final String[] RULES = {"male", "mixed", "equal", "last", "near", "writ"};

    public static void main(String[] args) {
        orders();
        sameDay();
        whoIsIn();
        bothParents();
        nearestByTheShorterWay();
        maleRoots();
        rootsAndDays();
        refusals();
        Told.finish("LineTest");
    }

    /**
     * 0 and 1 a couple; their children 2 (daughter, oldest), 3 (son), 4 (daughter), 5 (son);
     * 6 and 7 strangers; 8 son and 9 daughter of 2 and 6; 10 daughter and 11 son of 3 and 7.
     */
    private static Told family() {
        return new Told().with(MAN, WOMAN, "wed 4000 0 1", "born 4500 female of 0 and 1", "born 4600 male of 0 and 1",
                "born 4700 female of 0 and 1", "born 4800 male of 0 and 1", MAN, WOMAN, "wed 8500 6 2",
                "wed 8600 3 7", "born 9000 male of 6 and 2", "born 9300 female of 6 and 2",
                "born 9100 female of 3 and 7", "born 9200 male of 3 and 7");
    }

    private static void orders() {
        Told t = family();
        for (String rule : RULES) t.taken("title 4000 0 " + rule);
        t.line(0, 10000, 0, 3, 11, 5);
        t.line(1, 10000, 0, 3, 11, 10, 5, 2, 8, 9, 4);
        t.line(2, 10000, 0, 2, 8, 9, 3, 10, 11, 4, 5);
        t.line(3, 10000, 0, 5, 4, 3, 11, 10, 2, 9, 8);
        t.line(4, 10000, 0, 2, 3, 4, 5, 8, 10, 11, 9);
        t.line(5, 10000, 0, 3, 11, 10, 5, 2, 8, 9, 4);
        // who is dead is passed over, but not those behind it
        t.with("dead 9500 3", "dead 9600 2", "dead 9700 11");
        t.line(0, 10000, 0, 5);
        t.line(1, 10000, 0, 10, 5, 8, 9, 4);
        t.line(2, 10000, 0, 8, 9, 10, 4, 5);
        t.line(3, 10000, 0, 5, 4, 10, 9, 8);
        t.line(4, 10000, 0, 4, 5, 8, 10, 9);
        t.line(5, 10000, 0, 10, 5, 8, 9, 4);
        Told.due("rank of a dead one", t.x.rank(1, 3, 10000), -1);
        Told.due("rank of it alive", t.x.rank(1, 3, 9499), 1);
        Told.due("rank of a stranger", t.x.rank(1, 6, 10000), -1);
        Told.due("rank of a female by male", t.x.rank(0, 4, 10000), -1);
        Told.due("status", t.x.status(), 0);
    }

    private static void sameDay() {
        Told t = new Told().with(MAN, WOMAN, "wed 4000 0 1", "born 5000 male of 0 and 1", "born 5000 female of 0 and 1",
                "born 5000 male of 0 and 1", "born 5000 female of 0 and 1");
        for (String rule : RULES) t.taken("title 4000 0 " + rule);
        t.line(0, 5000, 0, 2, 4);
        t.line(1, 5000, 0, 2, 4, 3, 5);
        t.line(2, 5000, 0, 2, 3, 4, 5);
        t.line(3, 5000, 0, 5, 4, 3, 2);
        t.line(4, 5000, 0, 2, 3, 4, 5);
        t.line(5, 5000, 0, 2, 4, 3, 5);
    }

    private static void whoIsIn() {
        Told t = new Told().with(MAN, WOMAN, "wed 4000 0 1", "born 5000 male of 0 and 1", "born 5100 male of 0 and 1",
                "title 6000 0 mixed", "yield 7000 2 0", "dead 8000 3", "dead 9000 0");
        t.line(0, 4999, 0);
        t.line(0, 5000, 0, 2);
        t.line(0, 5100, 0, 2, 3);
        t.line(0, 6999, 0, 2, 3);
        t.line(0, 7000, 0, 3);
        t.line(0, 7999, 0, 3);
        t.line(0, 8000, 0);
        t.line(0, 9000);
        t.line(0, 99999);
        t.x.strike(6);
        t.line(0, 8500, 0, 2);
        t.line(0, 99999, 2);
        // one that is not legit is not in, nor its children; a root need not be legit
        Told u = new Told().with(MAN, WOMAN, "born 4000 male of 0 and 1", WOMAN, "wed 8000 2 3",
                "born 8500 male of 2 and 3", "title 4000 0 mixed", "title 4000 2 mixed");
        u.line(0, 9000, 0);
        u.line(1, 9000, 2, 4);
        u.taken("wed 4000 0 1");
        u.line(0, 9000, 0, 2, 4);
        // a yield is of one title alone
        u.taken("yield 8600 4 0");
        u.line(0, 9000, 0, 2);
        u.line(1, 9000, 2, 4);
    }

    /** Cousins wed: their child is of the body by both, and stands where it comes first. */
    private static void bothParents() {
        Told t = new Told().with(MAN, WOMAN, "wed 4000 0 1", "born 4500 female of 0 and 1", "born 4600 male of 0 and 1",
                WOMAN, MAN, "wed 8600 3 4", "wed 8600 5 2", "born 9000 male of 5 and 2", "born 9000 female of 3 and 4",
                "wed 13000 6 7", "born 13500 male of 6 and 7", "born 13600 female of 6 and 7");
        for (String rule : RULES) t.taken("title 4000 0 " + rule);
        t.line(0, 14000, 0, 3);
        t.line(1, 14000, 0, 3, 7, 8, 9, 2, 6);
        t.line(2, 14000, 0, 2, 6, 8, 9, 3, 7);
        t.line(3, 14000, 0, 3, 7, 9, 8, 2, 6);
        t.line(4, 14000, 0, 2, 3, 6, 7, 8, 9);
        t.line(5, 14000, 0, 3, 7, 8, 9, 2, 6);
    }

    /** A man weds his grand-niece: their child is two births from the root by him, four by her. */
    private static void nearestByTheShorterWay() {
        Told t = new Told().with(MAN, WOMAN, "wed 4000 0 1", "born 4000 male of 0 and 1", "born 16000 male of 0 and 1",
                WOMAN, "wed 8000 2 4", "born 8000 male of 2 and 4", "born 4000 female of none and none",
                "wed 12000 5 6", "born 12000 female of 5 and 6", "wed 20000 3 7", "born 20000 female of 3 and 7",
                "born 20001 male of 3 and 7", "title 100 0 near");
        // 2, 3 are one away; 5, 8, 9 are two; 7 is three
        t.line(0, 20001, 0, 2, 3, 5, 8, 9, 7);
        t.line(0, 20000, 0, 2, 3, 5, 8, 7);
        // the nearer parent told behind the farther one
        Told u = new Told().with(MAN, WOMAN, "wed 4000 0 1", "born 4000 male of 0 and 1", WOMAN, "wed 8000 2 3",
                "born 9000 female of 2 and 3", "born 9500 male of 0 and 1", "wed 13500 5 4", "born 14000 male of 5 and 4",
                "born 13999 female of 5 and 4", "title 100 0 near");
        u.line(0, 14000, 0, 2, 5, 4, 7, 6);
        u.taken("born 13400 male of none and 4");
        u.line(0, 14000, 0, 2, 5, 4, 7, 6);
    }

    private static void maleRoots() {
        Told t = new Told().with(MAN, WOMAN, "wed 4000 0 1", "born 5000 male of 0 and 1", "title 6000 1 male",
                "title 6000 1 mixed");
        t.line(0, 7000);
        t.line(1, 7000, 1, 2);
        t.holder(0, 6000, 1);
        t.holder(0, 99999, 1);
        Told.due("rank of a female holder", t.x.rank(0, 1, 7000), -1);
        t.taken("dead 8000 1");
        t.holder(0, 8000, -1);
        t.holder(1, 8000, 2);
    }

    private static void rootsAndDays() {
        // behind a call the line is of the one who was called; ahead of the title's own day of its person
        Told t = new Told().with(MAN, WOMAN, "wed 4000 0 1", "born 5000 female of 0 and 1", "born 5100 female of 0 and 1",
                MAN, "wed 9100 4 3", "born 9500 male of 4 and 3", "title 10000 0 writ", "dead 11000 0",
                "call 12000 3 0");
        t.line(0, 100, 0);
        t.line(0, 9999, 0, 2, 3, 5);
        t.line(0, 11999, 2, 3, 5);
        t.line(0, 12000, 3, 5);
        t.with("dead 13000 3");
        t.line(0, 13000, 5);
        t.holder(0, 13000, 5);
        t.with("dead 14000 5");
        t.line(0, 13999, 5);
        t.line(0, 14000, 2);
        t.holder(0, 14000, 2);
    }

    private static void refusals() {
        Told t = new Told().with(MAN, MAN, "title 0 0 mixed");
        t.x.strike(1);
        t.refused("rank of a struck out person", t.x.rank(0, 1, 0), 1);
        t.refused("rank of no person", t.x.rank(0, 2, 0), 1);
        t.refused("rank of no person", t.x.rank(0, -1, 0), 1);
        t.refused("line of no title", t.x.line(-1, 0, 0), 1);
        t.x.strike(2);
        t.refused("line of a struck out title", t.x.line(0, 0, 0), 1);
        t.refused("rank in it", t.x.rank(0, 0, 0), 1);
    }
}

/** Promises 13, 14, 17 to 20: how titles pass, are lost, fall into abeyance and are called out of it. */
public final class TitleTest {
    private static final String MAN = Told.MAN;
    private static final String WOMAN = Told.WOMAN;

    public static void main(String[] args) {
        plainPassing();
        ownDay();
        yields();
        losses();
        vacantAgain();
        bornBehindTheFather();
        bornTooLateForIt();
        bornTwins();
        abeyance();
        abeyanceByBranches();
        daughtersThatCount();
        calls();
        callsThatDoNothing();
        rootGoesBack();
        holding();
        anyOrder();
        Told.finish("TitleTest");
    }

    /** A couple and two sons 2 and 3, born 5000 and 5100. */
    private static Told sons() {
        return new Told().with(MAN, WOMAN, "wed 4000 0 1", "born 5000 male of 0 and 1", "born 5100 male of 0 and 1");
    }

    /** A couple and three daughters 2, 3, 4, born 5000, 5100, 5200; the title 0 of the man, by writ. */
    private static Told daughters() {
        return new Told().with(MAN, WOMAN, "wed 4000 0 1", "born 5000 female of 0 and 1", "born 5100 female of 0 and 1",
                "born 5200 female of 0 and 1", "title 6000 0 writ");
    }

    private static void plainPassing() {
        Told t = sons().with("title 6000 0 male", "dead 7000 0", "dead 8000 2", "dead 9000 3");
        t.tenures(0, 0, 6000, 2, 7000, 3, 8000, -1, 9000);
        t.x.strike(7);
        t.tenures(0, 0, 6000, 2, 7000);
    }

    private static void ownDay() {
        Told t = sons().with("title 5200 2 mixed", "dead 5200 2");
        t.tenures(0, -1, 5200);
        Told u = sons().with("title 5200 2 mixed", "yield 5200 2 0");
        u.tenures(0, -1, 5200);
        Told v = sons().with("title 5200 0 mixed", "lost 5200 0");
        v.tenures(0, -3, 5200);
        Told w = sons().with("title 5000 2 mixed");
        w.tenures(0, 2, 5000);
        Told x = sons().with("title 0 0 mixed");
        x.tenures(0, 0, 0);
        Told.due("holder on the last day", x.x.holder(0, 99999), 0);
        Told y = sons().with("title 99999 0 mixed");
        y.tenures(0, 0, 99999);
        y.with("dead 99999 0");
        y.tenures(0, 2, 99999);
    }

    private static void yields() {
        Told t = sons().with("title 6000 0 mixed", "yield 7000 0 0", "yield 6500 2 0");
        t.tenures(0, 0, 6000, 3, 7000);
        t.with("dead 8000 3");
        t.tenures(0, 0, 6000, 3, 7000, -1, 8000);
        // who yielded all the same holds another title
        t.with("title 7500 0 mixed", "dead 9000 0");
        t.tenures(1, 0, 7500, 2, 9000);
    }

    private static void losses() {
        Told t = sons().with("title 6000 0 mixed", "lost 6500 0", "back 7000 0", "lost 7500 0", "dead 7600 0",
                "back 8000 0", "lost 99999 0");
        t.tenures(0, 0, 6000, -3, 6500, 0, 7000, -3, 7500, 2, 8000, -3, 99999);
        // what is told while it is lost moves nothing, and its back gives it to the first in the line
        Told u = sons().with("title 6000 3 mixed", "lost 6100 0", "yield 6200 3 0", "back 6300 0");
        u.tenures(0, 3, 6000, -3, 6100, -1, 6300);
        // given back once, it passes on no later day by that
        Told w = new Told().with(MAN, WOMAN, "wed 4000 0 1", "born 6000 female of 0 and 1", "title 6500 0 mixed",
                "yield 7000 0 0", "lost 7100 0", "back 7200 0", "born 7300 male of 0 and 1", "dead 7400 1");
        w.tenures(0, 0, 6500, 2, 7000, -3, 7100, 2, 7200);
        // a holder who got it ahead of an elder in the line does not get it back: the first does
        Told v = new Told().with(MAN, WOMAN, "wed 4000 0 1", "born 6000 female of 0 and 1", "title 6500 0 mixed",
                "dead 7000 0", "born 7100 male of 0 and 1", "lost 7200 0", "back 7300 0");
        v.tenures(0, 0, 6500, 2, 7000, 3, 7100, -3, 7200, 3, 7300);
    }

    private static void vacantAgain() {
        Told t = new Told().with(MAN, WOMAN, "wed 4000 0 1", "title 4100 0 mixed", "dead 5000 0", "born 5200 female of 0 and 1");
        t.tenures(0, 0, 4100, -1, 5000, 2, 5200);
        t.with("dead 5200 2");
        t.tenures(0, 0, 4100, -1, 5000);
    }

    /** 0 holds; his brother 3 follows him while his widow awaits a son. */
    private static void bornBehindTheFather() {
        Told t = sons().with(WOMAN, "wed 9000 2 4", "title 6000 0 male", "dead 7000 0", "dead 9500 2",
                "born 9700 male of 2 and 4");
        t.tenures(0, 0, 6000, 2, 7000, 3, 9500, 5, 9700);
        // a daughter is not in the line of males
        Told u = sons().with(WOMAN, "wed 9000 2 4", "title 6000 0 male", "dead 7000 0", "dead 9500 2",
                "born 9700 female of 2 and 4");
        u.tenures(0, 0, 6000, 2, 7000, 3, 9500);
        // one who is not legit is not in it
        Told v = sons().with(WOMAN, "title 6000 0 mixed", "dead 7000 0", "dead 9500 2", "born 9700 male of 2 and 4");
        v.tenures(0, 0, 6000, 2, 7000, 3, 9500);
        // one who stands behind the holder in the line gets nothing
        Told w = sons().with(WOMAN, "wed 9100 3 4", "title 6000 0 mixed", "dead 7000 0", "dead 9500 3",
                "born 9700 male of 3 and 4");
        w.tenures(0, 0, 6000, 2, 7000);
    }

    private static void bornTooLateForIt() {
        // 3 holds it since before his brother's death: nothing is taken from him
        Told t = sons().with(WOMAN, "wed 9000 2 4", "title 9400 3 mixed", "title 6000 0 mixed", "yield 8000 2 1",
                "dead 8500 0", "dead 9500 2", "born 9700 male of 2 and 4");
        t.tenures(0, 3, 9400);
        t.tenures(1, 0, 6000, 3, 8500);
        // since the day of the death itself it is taken
        Told u = sons().with(WOMAN, "wed 9000 2 4", "title 6000 0 mixed", "yield 8000 2 0", "dead 9500 0",
                "dead 9500 2", "born 9700 male of 2 and 4");
        u.tenures(0, 0, 6000, 3, 9500, 5, 9700);
        // a child whose father lives, or dies on the day of its birth, takes nothing from who holds
        Told v = sons().with(WOMAN, "wed 9000 2 4", "title 6000 0 mixed", "yield 8000 2 0", "dead 8500 0",
                "dead 9700 2", "born 9700 male of 2 and 4");
        v.tenures(0, 0, 6000, 3, 8500);
        // lost and given back since the father's death: the one who has it anew holds it since then
        Told w = sons().with(WOMAN, "wed 9000 2 4", "title 6000 0 mixed", "yield 8000 2 0", "dead 8500 0",
                "dead 9500 2", "lost 9550 0", "back 9600 0", "born 9700 male of 2 and 4");
        w.tenures(0, 0, 6000, 3, 8500, -3, 9550, 3, 9600, 5, 9700);
        // an heir of the heir holds it a later day than the death
        Told x = new Told().with(MAN, WOMAN, "wed 4000 0 1", "born 5000 male of 0 and 1", "born 5100 male of 0 and 1",
                "born 5200 male of 0 and 1", WOMAN, "wed 9500 2 5", "title 6000 0 mixed", "dead 7000 0", "dead 9600 2",
                "dead 9650 3", "born 9700 male of 2 and 5");
        x.tenures(0, 0, 6000, 2, 7000, 3, 9600, 4, 9650, 6, 9700);
    }

    private static void bornTwins() {
        Told t = sons().with(WOMAN, "wed 9000 2 4", "title 6000 0 mixed", "dead 7000 0", "dead 9500 2",
                "born 9700 female of 2 and 4", "born 9700 male of 2 and 4", "born 9700 male of 2 and 4");
        t.tenures(0, 0, 6000, 2, 7000, 3, 9500, 6, 9700);
        Told u = sons().with(WOMAN, "wed 9000 2 4", "title 6000 0 last", "dead 7000 0", "dead 9400 3", "dead 9500 2",
                "born 9700 female of 2 and 4", "born 9700 male of 2 and 4");
        u.tenures(0, 0, 6000, 3, 7000, 2, 9400, -1, 9500, 6, 9700);
    }

    private static void abeyance() {
        Told t = daughters().with("dead 7000 0");
        t.tenures(0, 0, 6000, -2, 7000);
        t.coheirs(0, 7000, 2, 3, 4);
        t.coheirs(0, 99999, 2, 3, 4);
        t.coheirs(0, 6999);
        t.coheirs(0, 5999);
        t.with("dead 7500 3");
        t.coheirs(0, 7499, 2, 3, 4);
        t.coheirs(0, 7500, 2, 4);
        t.tenures(0, 0, 6000, -2, 7000);
        t.with("yield 7600 4 0");
        t.tenures(0, 0, 6000, -2, 7000, 2, 7600);
        t.coheirs(0, 7600);
        t.with("dead 8000 2");
        t.tenures(0, 0, 6000, -2, 7000, 2, 7600, -1, 8000);
        // one daughter alone takes it; a son takes it ahead of all
        Told u = daughters().with("dead 6500 2", "dead 6600 4", "dead 7000 0");
        u.tenures(0, 0, 6000, 3, 7000);
        Told v = daughters().with("born 7200 male of 0 and 1", "dead 7100 0");
        v.tenures(0, 0, 6000, -2, 7100, 5, 7200);
    }

    /** Of a dead daughter her body stands for her; of the body the first in the line is coheir. */
    private static void abeyanceByBranches() {
        Told t = daughters().with(MAN, "wed 9000 5 2", "born 9100 female of 5 and 2", "born 9200 female of 5 and 2",
                "born 9300 male of 5 and 2", "dead 9500 2", "dead 9600 0");
        t.coheirs(0, 9600, 8, 3, 4);
        t.with("dead 9700 8");
        t.coheirs(0, 9700, 6, 3, 4);
        t.with("dead 9800 3", "dead 9800 4");
        // of the only daughter left one goes on to her daughters: they are coheirs now, and it is one tenure
        t.tenures(0, 0, 6000, -2, 9600);
        t.coheirs(0, 9800, 6, 7);
        t.with("dead 9900 6");
        t.tenures(0, 0, 6000, -2, 9600, 7, 9900);
        // below a son likewise
        Told u = new Told().with(MAN, WOMAN, "wed 4000 0 1", "born 5000 male of 0 and 1", "born 5100 female of 0 and 1",
                WOMAN, "wed 9000 2 4", "born 9100 female of 2 and 4", "born 9200 female of 2 and 4",
                "title 6000 0 writ", "dead 7000 0", "dead 9300 2");
        u.tenures(0, 0, 6000, 2, 7000, -2, 9300);
        u.coheirs(0, 9300, 5, 6);
        u.with("dead 9400 5", "dead 9500 6");
        u.tenures(0, 0, 6000, 2, 7000, -2, 9300, 6, 9400, 3, 9500);
    }

    /** Who is in the body of an older daughter, too, makes a younger one count for nothing. */
    private static void daughtersThatCount() {
        // 2 and 3 daughters; 6 son of 2, 7 daughter of 3; 8 the child of 6 and 7
        Told t = new Told().with(MAN, WOMAN, "wed 4000 0 1", "born 4000 female of 0 and 1", "born 4001 female of 0 and 1",
                MAN, MAN, "wed 8000 4 2", "wed 8001 5 3", "born 8100 male of 4 and 2", "born 8200 female of 5 and 3",
                "wed 12500 6 7", "born 13000 female of 6 and 7", "title 100 0 writ",
                "dead 14000 2", "dead 14001 3", "dead 14002 6", "dead 14003 0");
        t.coheirs(0, 14003, 8, 7);
        t.with("dead 15000 7");
        t.tenures(0, 0, 100, -2, 14003, 8, 15000);
        t.with("dead 16000 8");
        t.tenures(0, 0, 100, -2, 14003, 8, 15000, -1, 16000);
    }

    private static void calls() {
        Told t = daughters().with("dead 7000 0", "call 7000 4 0");
        t.tenures(0, 0, 6000, 4, 7000);
        // of several on one day that of the least number whose person is in the line
        Told u = daughters().with("dead 7000 0", "yield 6500 2 0", "call 7100 2 0", "call 7100 4 0", "call 7100 3 0",
                "call 7050 1 0");
        u.tenures(0, 0, 6000, -2, 7000, 4, 7100);
        u.line(0, 7100, 4);
        u.x.strike(10);
        u.tenures(0, 0, 6000, -2, 7000, 3, 7100);
        // one below a coheir can be called
        Told v = daughters().with(MAN, "wed 9100 5 3", "born 9100 male of 5 and 3", "dead 9200 0", "call 9300 6 0");
        v.tenures(0, 0, 6000, -2, 9200, 6, 9300);
        v.line(0, 9300, 6);
        // one who dies on the day is not in the line
        Told w = daughters().with("dead 7000 0", "call 7100 3 0", "dead 7100 3", "call 7100 2 0");
        w.tenures(0, 0, 6000, -2, 7000, 2, 7100);
        // on the day of a back
        Told x = daughters().with("dead 7000 0", "lost 7100 0", "back 7200 0", "call 7200 3 0");
        x.tenures(0, 0, 6000, -2, 7000, -3, 7100, 3, 7200);
    }

    private static void callsThatDoNothing() {
        Told t = daughters().with("call 6500 3 0", "dead 7000 0", "lost 7100 0", "call 7200 3 0", "back 7300 0");
        t.tenures(0, 0, 6000, -2, 7000, -3, 7100, -2, 7300);
        t.coheirs(0, 7150);
        t.coheirs(0, 7300, 2, 3, 4);
        // a call on the day on which the abeyance ends by itself comes too late
        Told u = daughters().with("dead 7000 0", "dead 7500 3", "dead 7500 4", "call 7500 4 0");
        u.tenures(0, 0, 6000, -2, 7000, 2, 7500);
        u.line(0, 7500, 2);
    }

    private static void rootGoesBack() {
        Told t = daughters().with("dead 7000 0", "call 7100 4 0", "dead 7500 4");
        t.tenures(0, 0, 6000, -2, 7000, 4, 7100, -2, 7500);
        t.coheirs(0, 7500, 2, 3);
        t.line(0, 7499, 4);
        t.line(0, 7500, 2, 3);
        t.with("dead 8000 2", "dead 8000 3");
        t.tenures(0, 0, 6000, -2, 7000, 4, 7100, -2, 7500, -1, 8000);
        t.line(0, 8000);
        // abeyance below the called one, then all of them dead on a day: abeyance goes on from the first root
        Told u = daughters().with(MAN, "wed 9200 5 4", "born 9300 female of 5 and 4", "born 9300 female of 5 and 4",
                "dead 9400 0", "call 9500 4 0", "dead 9600 4", "dead 9700 6", "dead 9700 7");
        u.tenures(0, 0, 6000, -2, 9400, 4, 9500, -2, 9600);
        u.coheirs(0, 9699, 6, 7);
        u.line(0, 9699, 6, 7);
        u.coheirs(0, 9700, 2, 3);
        u.line(0, 9700, 2, 3);
    }

    private static void holding() {
        Told t = sons().with("title 6000 0 male", "title 6100 3 mixed", "title 6200 0 equal", "title 6300 2 near",
                "dead 7000 0");
        Told.due("holds", t.x.holds(0, 6999, 0), 0);
        Told.due("holds", t.x.holds(0, 6999, 1), 2);
        t.refused("holds", t.x.holds(0, 6999, 2), 1);
        t.refused("holds", t.x.holds(0, 5999, 0), 1);
        t.refused("holds", t.x.holds(0, 7000, 0), 1);
        Told.due("holds", t.x.holds(2, 7000, 0), 0);
        Told.due("holds", t.x.holds(2, 7000, 1), 2);
        Told.due("holds", t.x.holds(2, 7000, 2), 3);
        Told.due("holds", t.x.holds(3, 7000, 0), 1);
        t.refused("holds", t.x.holds(1, 7000, 0), 1);
        Told.due("strike", t.x.strike(7), 9);
        Told.due("holds, one title struck out", t.x.holds(2, 7000, 1), 3);
        t.refused("since of a title struck out", t.x.since(2, 7000), 1);
    }

    /** The same records told in another order, all tenures the same. */
    private static void anyOrder() {
        Told t = new Told().with(MAN, WOMAN, "title 6000 0 writ", "lost 8000 0", "dead 7000 0",
                "born 5000 female of 0 and 1", "born 5100 female of 0 and 1", "call 7500 3 0");
        t.tenures(0, 0, 6000, -1, 7000, -3, 8000);
        t.taken("wed 4000 0 1");
        t.tenures(0, 0, 6000, -2, 7000, 3, 7500, -3, 8000);
        t.taken("yield 6500 2 0");
        t.tenures(0, 0, 6000, 3, 7000, -3, 8000);
        t.x.strike(9);
        t.x.strike(3);
        t.tenures(0, 0, 6000, -2, 7000, 3, 7500);
        t.x.strike(4);
        t.tenures(0, 0, 6000);
    }
}

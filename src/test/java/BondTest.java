/** Promises 4, 6, 7: each bond at its edges, by a record and by a strike. */
public final class BondTest {
    public static void main(String[] args) {
        sexes();
        deaths();
        mothers();
        fathers();
        unions();
        turnsOfUnions();
        oneUnionADay();
        titles();
        turnsOfLosses();
        strikes();
        firstOfSeveral();
        Told.finish("BondTest");
    }

    private static final String MAN = Told.MAN;
    private static final String WOMAN = Told.WOMAN;

    private static Told four() {
        return new Told().with(MAN, WOMAN, MAN, WOMAN);
    }

    private static void sexes() {
        Told t = four();
        t.breaks("born 9000 male of 1 and 3", 1);
        t.breaks("born 9000 male of 0 and 2", 1);
        t.breaks("born 9000 male of 1 and none", 1);
        t.breaks("born 9000 male of none and 0", 1);
        t.breaks("born 9000 male of 0 and 0", 1);
        t.breaks("wed 9000 1 0", 1);
        t.breaks("wed 9000 0 0", 1);
        t.breaks("part 9000 1 1", 1);
        t.breaks("part 9000 0 2", 1);
        t.taken("born 9000 male of 0 and none");
        t.taken("born 9000 male of none and 1");
    }

    private static void deaths() {
        Told t = new Told().with("born 100 male of none and none", "born 100 male of none and none");
        t.breaks("dead 99 0", 2);
        t.taken("dead 100 0");
        t.breaks("dead 100 0", 2);
        t.breaks("dead 200 0", 2);
        t.breaks("dead 50 0", 2);
        t.taken("dead 99999 1");
        Told.due("strike", t.x.strike(2), 3);
        t.taken("dead 200 0");
        t.person(0, 1, 100, -1, -1, 200, 0);
    }

    private static void mothers() {
        Told t = new Told().with("born 100 female of none and none");
        t.breaks("born 4099 male of none and 0", 3);
        t.taken("born 4100 male of none and 0");
        t.taken("dead 5000 0");
        t.breaks("born 5001 male of none and 0", 3);
        t.taken("born 5000 male of none and 0");
        t.x.strike(2);
        t.breaks("dead 4999 0", 3);
        t.breaks("dead 99 0", 2);
        t.taken("dead 5000 0");
    }

    private static void fathers() {
        Told t = new Told().with("born 100 male of none and none");
        t.breaks("born 4099 male of 0 and none", 4);
        t.taken("born 4100 male of 0 and none");
        t.taken("dead 5000 0");
        t.breaks("born 5301 male of 0 and none", 4);
        t.taken("born 5300 female of 0 and none");
        t.x.strike(2);
        t.breaks("dead 4999 0", 4);
        t.taken("dead 5300 0");
    }

    private static void unions() {
        Told t = new Told().with("born 100 male of none and none", "born 200 female of none and none");
        t.breaks("wed 4199 0 1", 5);
        t.taken("wed 4200 0 1");
        t.taken("dead 5000 1");
        t.breaks("part 5001 0 1", 5);
        t.taken("part 5000 0 1");
        t.breaks("wed 5001 0 1", 5);
        t.taken("wed 5000 0 1");
        t.taken("dead 5000 0");
        Told.due("strike", t.x.strike(6), 6);
        t.breaks("dead 4999 0", 5);
        Told u = new Told().with("born 200 male of none and none", "born 100 female of none and none");
        u.breaks("wed 4199 0 1", 5);
        u.breaks("part 4199 0 1", 5);
        u.breaks("part 4200 0 1", 6);
        u.taken("dead 4300 0");
        u.breaks("wed 4301 0 1", 5);
        u.taken("wed 4300 0 1");
    }

    private static void turnsOfUnions() {
        Told t = four();
        t.breaks("part 5000 0 1", 6);
        t.taken("wed 5000 0 1");
        t.breaks("wed 5000 0 1", 6);
        t.breaks("wed 6000 0 1", 6);
        t.breaks("wed 4500 0 1", 6);
        t.breaks("part 5000 0 1", 6);
        t.breaks("part 4999 0 1", 6);
        t.breaks("part 6000 0 3", 6);
        t.breaks("part 6000 2 1", 6);
        t.taken("part 6000 0 1");
        t.breaks("part 6000 0 1", 6);
        t.breaks("part 5500 0 1", 6);
        t.breaks("part 7000 0 1", 6);
        t.breaks("wed 5999 0 1", 6);
        t.taken("wed 6000 0 1");
        t.breaks("wed 6000 0 1", 6);
        t.breaks("part 6000 0 1", 6);
        t.taken("part 6001 0 1");
        t.taken("wed 6001 0 1");
        t.breaks("wed 1 0 1", 5);
        Told.due("partner", t.x.partner(0, 5999), 1);
        Told.due("partner", t.x.partner(0, 6000), 1);
        Told.due("partner", t.x.partner(0, 4999), -1);
        // told in any order: a later one first, then two that stand between
        Told u = four().with("wed 8000 0 1");
        u.breaks("part 7000 0 1", 6);
        u.breaks("wed 5000 0 1", 6);
        u.taken("part 9000 0 1");
        u.breaks("wed 7000 0 1", 6);
        // of a pair's two on a day in the wrong turn
        u.breaks("part 8000 0 1", 6);
        u.breaks("part 4000 0 1", 6);
    }

    private static void oneUnionADay() {
        Told t = four().with("wed 5000 0 1", "part 6000 0 1");
        t.breaks("wed 5999 0 3", 7);
        t.breaks("wed 5999 2 1", 7);
        t.breaks("wed 4000 0 3", 7);
        t.taken("wed 5999 2 3");
        t.taken("dead 6500 2");
        t.breaks("wed 6500 0 3", 7);
        t.taken("wed 6501 0 3");
        t.breaks("wed 6600 0 1", 7);
        t.breaks("wed 6000 0 1", 7);
        Told.due("a widow is in a union on the day", t.x.partner(3, 6500), 2);
        Told.due("and in another behind it", t.x.partner(3, 6501), 0);
        // that the first union ended by the dead may not be struck out
        t.strikeBreaks(7, 7);
        Told u = four().with("wed 5000 0 1", "part 6000 0 1", "wed 6000 0 3");
        u.strikeBreaks(5, 7);
        Told.due("partner", u.x.partner(0, 5999), 1);
        Told.due("partner", u.x.partner(0, 6000), 3);
        Told v = four().with("wed 7000 0 1");
        v.breaks("wed 5000 0 3", 7);
        // the last day of the one the first of the other, whichever is told first
        Told w = four().with("dead 6500 2", "wed 6500 0 3");
        w.breaks("wed 5000 2 3", 7);
        Told x = four().with("dead 6500 2", "wed 5000 2 3");
        x.breaks("wed 6500 0 3", 7);
    }

    private static void titles() {
        Told t = new Told().with("born 100 male of none and none", "born 6000 female of none and none");
        t.breaks("title 99 0 writ", 8);
        t.taken("title 100 0 writ");
        t.breaks("yield 99 0 0", 8);
        t.breaks("yield 5999 1 0", 8);
        t.taken("yield 6000 1 0");
        t.breaks("yield 6000 1 0", 8);
        t.breaks("yield 7000 1 0", 8);
        t.taken("yield 100 0 0");
        t.breaks("call 5999 1 0", 8);
        t.taken("call 6000 1 0");
        t.taken("call 6000 1 0");
        t.breaks("call 99 0 0", 8);
        t.breaks("lost 99 0", 8);
        t.taken("dead 7000 1");
        t.breaks("title 7001 1 male", 8);
        t.breaks("call 7001 1 0", 8);
        t.taken("call 7000 1 0");
        t.taken("title 7000 1 male");
        t.breaks("yield 7001 1 1", 8);
        t.breaks("yield 6999 1 1", 8);
        t.taken("yield 7000 1 1");
        t.breaks("lost 6999 1", 8);
        t.taken("lost 7000 1");
        t.breaks("back 6999 1", 8);
        t.breaks("back 7000 1", 9);
        String[] rules = {"male", "mixed", "equal", "last", "near"};
        for (int i = 0; i < rules.length; i++) {
            Told u = new Told().with(MAN, "title 10 0 " + rules[i]);
            u.breaks("call 20 0 0", 8);
            u.taken("yield 20 0 0");
        }
        // what is told of a title or person is still bound when another record comes
        Told v = new Told().with(MAN, "title 10 0 writ", "call 500 0 0");
        v.breaks("dead 499 0", 8);
        v.taken("dead 500 0");
        Told w = new Told().with(MAN, "title 10 0 writ");
        w.breaks("dead 9 0", 8);
        w.taken("dead 10 0");
    }

    private static void turnsOfLosses() {
        Told t = new Told().with(MAN, "title 10 0 male", "title 10 0 male");
        t.breaks("back 10 0", 9);
        t.taken("lost 20 0");
        t.breaks("lost 20 0", 9);
        t.breaks("lost 30 0", 9);
        t.breaks("lost 10 0", 9);
        t.breaks("back 20 0", 9);
        t.breaks("back 19 0", 9);
        t.breaks("back 30 1", 9);
        t.taken("back 21 0");
        t.breaks("lost 21 0", 9);
        t.breaks("back 22 0", 9);
        t.taken("lost 22 0");
        t.taken("lost 22 1");
        t.breaks("back 9 0", 8);
        t.taken("back 99999 0");
    }

    private static void strikes() {
        Told t = four().with("wed 5000 0 1", "part 6000 0 1", "wed 7000 0 1");
        t.strikeBreaks(4, 6);
        t.strikeBreaks(5, 6);
        Told.due("strike", t.x.strike(6), 6);
        Told.due("bond", t.x.bond(), 0);
        t.strikeBreaks(4, 6);
        Told.due("strike", t.x.strike(5), 5);
        Told.due("strike", t.x.strike(4), 4);
        Told u = new Told().with(MAN, "title 10 0 male", "lost 20 0", "back 30 0", "lost 40 0");
        u.strikeBreaks(2, 9);
        u.strikeBreaks(3, 9);
        u.refused("another refusal", u.x.strike(0), 6);
        Told.due("bond", u.x.bond(), 0);
        u.strikeBreaks(3, 9);
        u.x.count(0);
        Told.due("bond stays behind other calls", u.x.bond(), 9);
        u.refused("no such record", u.x.strike(77), 1);
        Told.due("bond", u.x.bond(), 0);
        Told.due("strike", u.x.strike(4), 4);
        Told.due("strike", u.x.strike(3), 3);
        Told.due("strike", u.x.strike(2), 2);
    }

    private static void firstOfSeveral() {
        Told t = four().with("wed 5000 0 1", "born 6000 male of 0 and 1", "title 6000 0 mixed", "dead 9000 1");
        t.breaks("dead 4999 0", 4);
        t.breaks("born 100 male of 1 and 0", 1);
        t.breaks("born 100 male of 0 and 1", 3);
        t.breaks("wed 3999 0 1", 5);
        t.breaks("wed 5500 0 1", 6);
        t.breaks("wed 9001 1 0", 1);
        t.refused("wrong text", t.tell("wed 9001 1 zero"), 2);
        Told.due("bond behind a wrong text", t.x.bond(), 0);
        t.breaks("dead 8000 1", 2);
        t.refused("nobody", t.tell("dead 8000 7"), 1);
        Told.due("bond behind a missing name", t.x.bond(), 0);
    }
}

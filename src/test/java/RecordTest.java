/** Promises 4, 7, 8, 9: records as they are taken, refused, struck out, counted and told again. */
public final class RecordTest {
    public static void main(String[] args) {
        namesThatAreNotThere();
        facts();
        striking();
        counts();
        roomForRecords();
        roomForPersonsAndTitles();
        Told.finish("RecordTest");
    }

    private static Told couple() {
        return new Told().with("born 0 male of none and none", "born 0 female of none and none", "wed 5000 0 1");
    }

    private static void namesThatAreNotThere() {
        Told t = couple().with("born 5000 male of 0 and 1", "title 9000 0 mixed");
        String[] texts = {"born 9000 male of 3 and 1", "born 9000 male of 0 and 3", "born 9000 male of none and 99999",
            "wed 9000 3 1", "wed 9000 0 3", "part 9000 3 1", "dead 9000 3", "dead 9000 64", "title 9000 3 male",
            "yield 9000 3 0", "yield 9000 0 1", "call 9000 0 8", "call 9000 5 0", "lost 9000 1", "back 9000 99999"};
        for (String text : texts) {
            t.refused(text, t.tell(text), 1);
            Told.due(text + ": bond", t.x.bond(), 0);
            Told.due(text + ": place", t.x.place(), HeirRoll.BAD);
            Told.due(text + ": bytes", t.x.count(4), 0);
        }
        Told.due("records", t.x.count(0), 5);
        // a name that isn't there comes ahead of a bond
        t.refused("wed 100 1 7", t.tell("wed 100 1 7"), 1);
        // a struck out person is not there, and its number is not given anew
        Told.due("strike", t.x.strike(4), 4);
        t.refused("struck title", t.tell("lost 9000 0"), 1);
        Told.due("strike", t.x.strike(3), 3);
        t.refused("struck person", t.tell("dead 9000 2"), 1);
        t.taken("born 6000 female of 0 and 1");
        t.person(3, 0, 6000, 0, 1, -1, 1);
        t.taken("title 9000 3 equal");
        t.refused("struck title", t.tell("lost 9000 0"), 1);
        t.holder(1, 9000, 3);
    }

    private static void facts() {
        Told t = couple().with("part 6000 0 1", "dead 7000 1", "title 6500 0 writ", "yield 6600 1 0", "call 6700 0 0",
                "lost 6800 0", "back 6900 0", "born 5500 female of 0 and 1", "title 6000 2 male");
        t.facts(0, 0, 0, 1, 0, -1);
        t.facts(1, 0, 0, 1, 1, -1);
        t.facts(2, 1, 5000, 1, 0, 1);
        t.facts(3, 2, 6000, 1, 0, 1);
        t.facts(4, 3, 7000, 1, 1, -1);
        t.facts(5, 4, 6500, 1, 0, 0);
        t.facts(6, 5, 6600, 1, 1, 0);
        t.facts(7, 6, 6700, 1, 0, 0);
        t.facts(8, 7, 6800, 1, -1, 0);
        t.facts(9, 8, 6900, 1, -1, 0);
        t.facts(10, 0, 5500, 1, 2, -1);
        t.facts(11, 4, 6000, 1, 2, 1);
        t.x.strike(11);
        t.facts(11, 4, 6000, 0, 2, 1);
        t.x.strike(10);
        t.facts(10, 0, 5500, 0, 2, -1);
        t.refused("fact(12, 0)", t.x.fact(12, 0), 1);
        t.refused("fact(-1, 0)", t.x.fact(-1, 0), 1);
        t.refused("fact(MIN, 9)", t.x.fact(Integer.MIN_VALUE, 9), 1);
        t.refused("fact(MAX, 0)", t.x.fact(Integer.MAX_VALUE, 0), 1);
        t.refused("fact(0, 5)", t.x.fact(0, 5), 3);
        t.refused("fact(0, -1)", t.x.fact(0, -1), 3);
        t.refused("fact(12, 5)", t.x.fact(12, 5), 1);
    }

    private static void striking() {
        Told t = couple().with("born 5000 male of 0 and 1", "title 6000 2 writ", "yield 6100 2 0", "dead 7000 2");
        t.refused("strike(-1)", t.x.strike(-1), 1);
        t.refused("strike(7)", t.x.strike(7), 1);
        t.refused("strike(MAX)", t.x.strike(Integer.MAX_VALUE), 1);
        t.refused("a father", t.x.strike(0), 6);
        t.refused("a mother", t.x.strike(1), 6);
        t.refused("a child with a title", t.x.strike(3), 6);
        t.refused("a title with a yield", t.x.strike(4), 6);
        Told.due("bond of a refusal by 6", t.x.bond(), 0);
        Told.due("all stand", t.x.count(1), 7);
        Told.due("strike yield", t.x.strike(5), 6);
        Told.due("status", t.x.status(), 0);
        t.refused("strike yield again", t.x.strike(5), 8);
        Told.due("strike title", t.x.strike(4), 5);
        t.refused("named by a dead", t.x.strike(3), 6);
        Told.due("strike dead", t.x.strike(6), 4);
        Told.due("strike child", t.x.strike(3), 3);
        t.refused("strike child again", t.x.strike(3), 8);
        t.refused("named by a wed", t.x.strike(1), 6);
        Told.due("strike wed", t.x.strike(2), 2);
        Told.due("strike mother", t.x.strike(1), 1);
        Told.due("strike father", t.x.strike(0), 0);
        Told.due("none stands", t.x.count(1), 0);
        Told.due("taken", t.x.count(0), 7);
        t.refused("person is gone", t.x.person(0, 0), 1);
        t.refused("title is gone", t.x.tenures(0), 1);
        for (String kind : new String[] {"lost 6000 0", "call 6000 2 0", "yield 6000 2 0"}) {
            Told u = couple().with("born 5000 male of 0 and 1", "title 6000 2 writ", kind);
            u.refused("title named by " + kind, u.x.strike(4), 6);
        }
        Told w = new Told().with("born 0 male of none and none", "born 0 female of none and none",
                "born 5000 male of 0 and none", "born 5000 male of none and 1");
        w.refused("a father alone", w.x.strike(0), 6);
        w.refused("a mother alone", w.x.strike(1), 6);
        Told y = couple();
        y.refused("a husband", y.x.strike(0), 6);
        y.refused("a wife", y.x.strike(1), 6);
        Told v = new Told().with("born 0 male of none and none", "title 0 0 mixed", "title 0 0 equal");
        Told.due("a title named by no other", v.x.strike(2), 2);
        v.refused("its person is named", v.x.strike(0), 6);
    }

    private static void counts() {
        Told t = couple().with("title 5000 0 male");
        t.x.feed(0, 0, 0, 0, 0);
        int[] want = {4, 4, 2, 1, 20};
        for (int what = 0; what < 5; what++) {
            Told.due("count(" + what + ")", t.x.count(what), want[what]);
        }
        t.x.strike(3);
        t.x.strike(2);
        t.x.strike(1);
        int[] then = {4, 1, 2, 1, 20};
        for (int what = 0; what < 5; what++) {
            Told.due("count(" + what + ")", t.x.count(what), then[what]);
        }
        t.refused("count(5)", t.x.count(5), 3);
        t.refused("count(-1)", t.x.count(-1), 3);
        Told.due("count(4) behind them", t.x.count(4), 20);
        Told.due("status", t.x.status(), 0);
    }

    private static void roomForRecords() {
        Told t = new Told();
        t.tellPadded("born0male of none and none");
        t.tellPadded("born0female of none and none");
        for (int i = 2; i < 200; i++) {
            String text = (i % 2 == 0 ? "wed" : "part") + (4000 + i) + " 0 1";
            Told.due(text, t.tellPadded(text), i);
        }
        t.refused("a record more", t.tellPadded("wed4200 0 1"), 9);
        t.refused("one that breaks a bond too", t.tellPadded("wed0 0 1"), 9);
        Told.due("bond", t.x.bond(), 0);
        t.refused("one that names nobody", t.tellPadded("dead 9000 2"), 1);
        t.refused("a wrong one", t.tellPadded("dead 9000"), 2);
        Told.due("strike the last", t.x.strike(199), 199);
        t.refused("room is not given back", t.tellPadded("part4199 0 1"), 9);
        Told.due("records", t.x.count(0), 200);
        Told.due("partner", t.x.partner(0, 4196), 1);
        Told.due("partner", t.x.partner(0, 4197), -1);
        Told.due("partner", t.x.partner(1, 99999), 0);
    }

    private static void roomForPersonsAndTitles() {
        Told t = new Told();
        for (int i = 0; i < 64; i++) {
            Told.due("birth " + i, t.tellPadded("born" + i + "male of none and none"), i);
        }
        t.refused("a person more", t.tellPadded("born0male of none and none"), 9);
        t.refused("a person more, of nobody", t.tellPadded("born0male of 64 and none"), 1);
        t.refused("a person more, against a bond", t.tellPadded("born0male of 0 and none"), 9);
        for (int i = 0; i < 8; i++) {
            Told.due("title " + i, t.tellPadded("title100 63male"), 64 + i);
        }
        t.refused("a title more", t.tellPadded("title100 63male"), 9);
        t.refused("a title more, against a bond", t.tellPadded("title1 63male"), 9);
        Told.due("strike a title", t.x.strike(71), 71);
        Told.due("strike a person", t.x.strike(5), 70);
        t.refused("a person more", t.tellPadded("born0male of none and none"), 9);
        t.refused("a title more", t.tellPadded("title100 63male"), 9);
        Told.due("other records are taken", t.tellPadded("dead100 63"), 72);
        Told.due("persons", t.x.count(2), 64);
        Told.due("titles", t.x.count(3), 8);
        t.person(63, 1, 63, -1, -1, 100, 0);
        t.holder(6, 100, -1);
    }
}

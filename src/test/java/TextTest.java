/** Promises 1 to 5: a new object, the tape, and where a text is wrong. */
public final class TextTest {
    public static void main(String[] args) {
        newObject();
        tape();
        rightTexts();
        wrongTexts();
        placeAndRefusals();
        Told.finish("TextTest");
    }

    private static void newObject() {
        HeirRoll x = new HeirRoll();
        Told.due("status of a new object", x.status(), 0);
        Told.due("place of a new object", x.place(), HeirRoll.BAD);
        Told.due("bond of a new object", x.bond(), 0);
        for (int what = 0; what < 5; what++) {
            Told.due("count(" + what + ") of a new object", x.count(what), 0);
        }
        Told t = new Told();
        t.refused("fact(0, 0)", t.x.fact(0, 0), 1);
        t.refused("strike(0)", t.x.strike(0), 1);
        t.refused("person(0, 0)", t.x.person(0, 0), 1);
        t.refused("partner(0, 0)", t.x.partner(0, 0), 1);
        t.refused("kin(0, 0)", t.x.kin(0, 0), 1);
        t.refused("holder(0, 0)", t.x.holder(0, 0), 1);
        t.refused("since(0, 0)", t.x.since(0, 0), 1);
        t.refused("line(0, 0, 0)", t.x.line(0, 0, 0), 1);
        t.refused("rank(0, 0, 0)", t.x.rank(0, 0, 0), 1);
        t.refused("coheir(0, 0, 0)", t.x.coheir(0, 0, 0), 1);
        t.refused("tenures(0)", t.x.tenures(0), 1);
        t.refused("tenure(0, 0, 0)", t.x.tenure(0, 0, 0), 1);
        t.refused("holds(0, 0, 0)", t.x.holds(0, 0, 0), 1);
        t.refused("record()", t.x.record(), 2);
        Told.due("place of an empty text", t.x.place(), 0);
        Told.due("two objects share nothing", x.place(), HeirRoll.BAD);
    }

    private static void tape() {
        Told t = new Told();
        for (int i = 1; i <= 4; i++) {
            Told.due("feed " + i, t.x.feed(-1, 0, Integer.MIN_VALUE, 7, 8), 20 * i);
            Told.due("bytes", t.x.count(4), 20 * i);
        }
        t.refused("feed 5", t.x.feed(0, 0, 0, 0, 0), 9);
        Told.due("bytes", t.x.count(4), 80);
        t.refused("end(81)", t.x.end(81), 3);
        t.refused("end(-1)", t.x.end(-1), 3);
        t.refused("end(MIN)", t.x.end(Integer.MIN_VALUE), 3);
        t.refused("end(MAX)", t.x.end(Integer.MAX_VALUE), 3);
        Told.due("end(80)", t.x.end(80), 80);
        Told.due("status", t.x.status(), 0);
        Told.due("end(61)", t.x.end(61), 61);
        t.refused("feed on 61", t.x.feed(0, 0, 0, 0, 0), 9);
        Told.due("end(60)", t.x.end(60), 60);
        t.refused("end(61) on 60", t.x.end(61), 3);
        Told.due("feed on 60", t.x.feed(0, 0, 0, 0, 0), 80);
        Told.due("end(0)", t.x.end(0), 0);
        Told.due("bytes", t.x.count(4), 0);
        t.refused("end(1) on 0", t.x.end(1), 3);

        // the highest byte of each number comes first, and a shorter end lets a feed go on there
        Told u = new Told();
        u.x.feed(0x626f726e, 0x35206d61, 0x6c656f66, 0x20202020, 0x20202020);
        Told.due("end(8)", u.x.end(8), 8);
        u.x.feed(0x206f6620, 0x6e6f6e65, 0x20616e64, 0x206e6f6e, 0x65202020);
        u.refused("a word cut in two", u.x.record(), 2);
        Told.due("its place", u.x.place(), 6);
        u.x.feed(0x626f726e, 0x35206d61, 0x6c656f66, 0x20202020, 0x20202020);
        Told.due("end(10)", u.x.end(10), 10);
        u.x.feed(0x206f6620, 0x6e6f6e65, 0x20616e64, 0x206e6f6e, 0x65202020);
        Told.due("a record in two parts", u.x.record(), 0);
        u.person(0, 1, 5, -1, -1, -1, 0);
        Told.due("the tape is empty behind it", u.x.count(4), 0);
    }

    private static void rightTexts() {
        Told t = new Told();
        t.taken("born 0 male of none and none");
        t.taken("   born   00000   female   of   none   and   none   ");
        t.taken("wed5000 0 1");
        t.taken("born5000male of0and1");
        t.taken("born 5001female of 00000and none");
        t.taken("title5001 00002male");
        t.taken("title 5001 2 mixed");
        t.taken("title 5001 2equal");
        t.taken("title 5001 2 last");
        t.taken("title 5001 2 near");
        t.taken("title 5001 2 writ");
        t.taken("yield5002 2 1");
        t.taken("call5002 2 5");
        t.taken("lost5002 5");
        t.taken("back99999 5");
        t.taken("part99999 0 1");
        t.taken("  dead 99999 0");
        Told.due("persons", t.x.count(2), 4);
        Told.due("titles", t.x.count(3), 6);
        Told.due("a text of 80 bytes", t.tell("dead 99999" + " ".repeat(69) + "1"), 17);
    }

    private static void wrong(Told t, String text, int place) {
        t.refused("'" + text + "'", t.tell(text), 2);
        Told.due("'" + text + "': place", t.x.place(), place);
        Told.due("'" + text + "': bytes", t.x.count(4), 0);
        Told.due("'" + text + "': records", t.x.count(0), 2);
    }

    private static void wrongTexts() {
        Told t = new Told();
        t.with("born 0 male of none and none", "born 0 female of none and none");
        wrong(t, "", 0);
        wrong(t, "   ", 3);
        wrong(t, "b", 0);
        wrong(t, " borne 1 male of none and none", 1);
        wrong(t, "bornmale", 0);
        wrong(t, "bornz 1 male of none and none", 0);
        wrong(t, "borna 1 male of none and none", 0);
        wrong(t, "born 10000000000000000000 male of none and none", 5);
        wrong(t, "12 born", 0);
        wrong(t, "born", 4);
        wrong(t, "born  ", 6);
        wrong(t, "born male of none and none", 5);
        wrong(t, "born 123456 male of none and none", 5);
        wrong(t, "born 000001 male of none and none", 5);
        wrong(t, "born 1 2 male of none and none", 7);
        wrong(t, "born 1 males of none and none", 7);
        wrong(t, "born 1 fe male of none and none", 7);
        wrong(t, "born 1 maleof none and none", 7);
        wrong(t, "born 1 male", 11);
        wrong(t, "born 1 male  and none", 13);
        wrong(t, "born 1 male of", 14);
        wrong(t, "born 1 male of non and none", 15);
        wrong(t, "born 1 male of and none", 15);
        wrong(t, "born 1 male of none", 19);
        wrong(t, "born 1 male of none or none", 20);
        wrong(t, "born 1 male of none and", 23);
        wrong(t, "born 1 male of none and 000000", 24);
        wrong(t, "born 1 male of none and none none", 29);
        wrong(t, "born 1 male of none and none 7", 29);
        wrong(t, "born 1 male of none and none .", 29);
        wrong(t, "born 1 male of none and nonE", 24);
        wrong(t, "Born 1 male of none and none", 0);
        wrong(t, "born 1 male of none, and none", 19);
        wrong(t, "born-1 male of none and none", 4);
        wrong(t, "born\t1 male of none and none", 4);
        wrong(t, "born 1" + (char) 225 + "male", 6);
        wrong(t, "born 1" + (char) 0 + "male", 6);
        wrong(t, "born 1{", 6);
        wrong(t, "born 1`", 6);
        wrong(t, "born 1/", 6);
        wrong(t, "born 1:", 6);
        wrong(t, "wed 4000 0", 10);
        wrong(t, "wed 4000 0 b", 11);
        wrong(t, "wed 4000 0 none", 11);
        wrong(t, "wed 4000 0 1 2", 13);
        wrong(t, "wed 4000 0 1x", 12);
        wrong(t, "part 4000 0,1", 11);
        wrong(t, "dead 4000", 9);
        wrong(t, "dead 4000 none", 10);
        wrong(t, "dead 4000 0 0", 12);
        wrong(t, "title 4000 0", 12);
        wrong(t, "title 4000 0 males", 13);
        wrong(t, "title 4000 0 female", 13);
        wrong(t, "title 4000 0 0", 13);
        wrong(t, "title 4000 male 0", 11);
        wrong(t, "title 4000 0 writ 0", 18);
        wrong(t, "yield 4000 0", 12);
        wrong(t, "call 4000 0 writ", 12);
        wrong(t, "lost 4000", 9);
        wrong(t, "lost 4000 0 0", 12);
        wrong(t, "back 4000 0 writ", 12);
        wrong(t, "x".repeat(80), 0);
        wrong(t, "dead 1 0" + " ".repeat(71) + "0", 79);
        wrong(t, "dead 1" + " ".repeat(74), 80);
    }

    private static void placeAndRefusals() {
        Told t = new Told();
        t.refused("person not there", t.tell("dead 1 0"), 1);
        Told.due("place of a right text", t.x.place(), HeirRoll.BAD);
        t.refused("wrong", t.tell("dead x"), 2);
        Told.due("place", t.x.place(), 5);
        t.type("born 0 male of none and none");
        Told.due("place till the next is read", t.x.place(), 5);
        t.x.feed(0, 0, 0, 0, 0);
        t.x.strike(0);
        Told.due("place till the next is read", t.x.place(), 5);
        t.x.end(28);
        Told.due("record", t.x.record(), 0);
        Told.due("place of a right text", t.x.place(), HeirRoll.BAD);
        t.refused("behind a wrong text", t.tell("dead 0 #"), 2);
        t.taken("dead 0 0");
        Told.due("place of a right text", t.x.place(), HeirRoll.BAD);
        t.tell("nought");
        Told.due("bond of a wrong text", t.x.bond(), 0);
    }
}

/** Terms 2 and promises 4, 6 to 9, sentence by sentence: numbers, room, refusals, bonds, unions, strikes. */
public final class RecordEdges {
    private static final String MAN = Told.MAN;
    private static final String WOMAN = Told.WOMAN;

    public static void main(String[] args) {
        numbers();
        thereWhileItStands();
        roomForRecords();
        roomForPersons();
        roomForTitles();
        refusals();
        bond1();
        bond2();
        bond3();
        bond4();
        bond5();
        bond6();
        bond7();
        bond8();
        bond9();
        firstBond();
        openUnions();
        anyOrder();
        bonds();
        strikes();
        strikeFirstThings();
        counts();
        facts();
        Told.finish("RecordEdges");
    }

    private static Told couple() {
        return new Told().with(MAN, WOMAN);
    }

    private static Told four() {
        return new Told().with(MAN, WOMAN, MAN, WOMAN);
    }

    private static void numbers() {
        Told.sentence("RECORDS 0, 1, .. are numbered as they are taken");
        Told t = new Told();
        t.refused("2", t.tell("born 0 male of none"), 2);
        Told.due("the first", t.tell(MAN), 0);
        t.refused("1", t.tell("dead 0 1"), 1);
        t.refused("5", t.tell("born 3999 male of 0 and none"), 5);
        Told.due("the next that is taken", t.tell("born 4000 male of 0 and none"), 1);
        t.x.strike(1);
        Told.due("the next behind one struck out", t.tell("born 4000 male of 0 and none"), 2);
        Told.sentence("born makes a PERSON (0, 1, ..), title a TITLE (0, 1, ..)");
        Told.due("no number is given for a refused born, none twice", t.x.fact(2, 3), 2);
        t.refused("5", t.tell("title 3999 2 male"), 5);
        Told.due("title", t.tell("title 4000 2 male"), 3);
        Told.due("its number", t.x.fact(3, 4), 0);
        t.x.strike(3);
        Told.due("title", t.tell("title 4000 2 male"), 4);
        Told.due("its number", t.x.fact(4, 4), 1);
    }

    private static void thereWhileItStands() {
        Told.sentence("these are there as long as that RECORD STANDS");
        Told t = new Told().with(MAN, "title 0 0 writ");
        Told.due("title", t.x.holder(0, 0), 0);
        t.x.strike(1);
        t.refused("title struck out", t.x.holder(0, 0), 1);
        t.refused("named by a record", t.tell("lost 0 0"), 1);
        Told.due("person", t.x.person(0, 1), 0);
        t.x.strike(0);
        t.refused("person struck out", t.x.person(0, 1), 1);
        t.refused("named by a record", t.tell("dead 0 0"), 1);
        t.refused("as a father", t.tell("born 5000 male of 0 and none"), 1);
    }

    /** Fifty deaths are struck out again, so that 200 are taken, but 150 stand. */
    private static void roomForRecords() {
        Told.sentence("RECORDS: 200 at most in all (struck out ones, too)");
        Told t = new Told();
        t.tellPadded("born0male of none and none");
        t.tellPadded("born0female of none and none");
        int told = 0;
        for (int i = 2; i < 200; i++) {
            if (i < 52) {
                Told.due("dead", t.tellPadded("dead99999 1"), i);
                Told.due("strike", t.x.strike(i), 2);
            } else {
                String text = (told % 2 == 0 ? "wed" : "part") + (4000 + told) + " 0 1";
                Told.due(text, t.tellPadded(text), i);
                told++;
            }
        }
        Told.due("taken", t.x.count(0), 200);
        Told.due("standing", t.x.count(1), 150);
        t.refused("a record more", t.tellPadded("wed4148 0 1"), 9);
        t.refused("a person more", t.tellPadded("born0male of none and none"), 9);
        t.refused("a title more", t.tellPadded("title0 0 male"), 9);
        Told.sentence("a right text is REFUSED by the first of these: 1, 9, 5");
        t.refused("nobody, and no room", t.tellPadded("dead0 2"), 1);
        t.refused("no title, and no room", t.tellPadded("lost0 0"), 1);
        t.refused("no room, and a bond", t.tellPadded("wed0 1 0"), 9);
        Told.due("bond", t.x.bond(), 0);
        t.refused("a wrong text, and no room", t.tellPadded("wed0 1"), 2);
        Told.sentence("RECORDS: 200 at most in all (struck out ones, too)");
        Told.due("strike the last", t.x.strike(199), 149);
        t.refused("no room is won by it", t.tellPadded("part4147 0 1"), 9);
        Told.due("taken", t.x.count(0), 200);
        t.facts(199, 2, 4147, 0, 0, 1);
        t.refused("fact(200, 0)", t.x.fact(200, 0), 1);
    }

    private static void roomForPersons() {
        Told.sentence("PERSON: 64 at most in all");
        Told t = new Told();
        for (int i = 0; i < 64; i++) {
            Told.due("birth " + i, t.tellPadded("born" + i + "male of none and none"), i);
            if (i % 10 == 5) Told.due("strike", t.x.strike(i), i - i / 10);
        }
        Told.due("made", t.x.count(2), 64);
        Told.due("standing", t.x.count(1), 58);
        t.refused("a person more", t.tellPadded("born0male of none and none"), 9);
        t.refused("a person more, of nobody", t.tellPadded("born0male of 64 and none"), 1);
        t.refused("a person more, of one struck out", t.tellPadded("born0male of none and 55"), 1);
        t.refused("a person more, against a bond", t.tellPadded("born0male of none and 0"), 9);
        t.refused("a dead of person 64", t.tellPadded("dead9000 64"), 1);
        Told.due("a dead of person 63", t.tellPadded("dead9000 63"), 64);
        Told.due("person(63, 4)", t.x.person(63, 4), 9000);
        t.refused("person(64, 4)", t.x.person(64, 4), 1);
        Told.due("a title", t.tellPadded("title63 63male"), 65);
        Told.due("kin(63, 62)", t.x.kin(63, 62), -1);
    }

    private static void roomForTitles() {
        Told.sentence("TITLE: 8 at most in all");
        Told t = new Told().with("born 10 male of none and none");
        for (int i = 0; i < 8; i++) {
            Told.due("title " + i, t.tell("title 10 0 writ"), i + 1);
            if (i % 3 == 2) Told.due("strike", t.x.strike(i + 1), i + 1 - i / 3);
        }
        Told.due("made", t.x.count(3), 8);
        t.refused("a title more", t.tell("title 10 0 writ"), 9);
        t.refused("a title more, of nobody", t.tell("title 10 1 writ"), 1);
        t.refused("a title more, against a bond", t.tell("title 9 0 writ"), 9);
        t.refused("title 8", t.tell("lost 10 8"), 1);
        t.refused("title 5, struck out", t.tell("lost 10 5"), 1);
        t.taken("lost 10 7");
        t.taken("born 0 male of none and none");
        Told.due("title 7", t.x.holder(7, 10), -3);
        t.refused("title 8", t.x.holder(8, 10), 1);
    }

    private static void refusals() {
        Told.sentence("REFUSED by the first of these: 1 a PERSON or TITLE that it names is not there");
        String[] texts = {"born 9000 male of 4 and 1", "born 9000 male of 0 and 4", "born 9000 male of 4 and none",
            "born 9000 male of none and 4", "wed 9000 4 1", "wed 9000 0 4", "part 9000 4 1", "part 9000 0 4", "dead 9000 4",
            "title 9000 4 male", "yield 9000 4 0", "yield 9000 0 1", "call 9000 4 0", "call 9000 0 1", "lost 9000 1",
            "back 9000 1", "dead 9000 99999", "lost 9000 99999", "dead 9000 2", "wed 9000 2 1", "born 9000 male of 2 and 1"};
        for (String text : texts) {
            Told t = four().with("title 0 0 writ");
            t.x.strike(2);
            t.refused(text, t.tell(text), 1);
            Told.due(text + ": bond", t.x.bond(), 0);
            Told.due(text + ": records", t.x.count(0), 5);
            Told.due(text + ": persons", t.x.count(2), 4);
            Told.due(text + ": titles", t.x.count(3), 1);
        }
        Told.sentence("REFUSED by the first of these: 1 ahead of 5");
        Told t = four().with("title 100 0 male");
        t.refused("a man for a mother, no father", t.tell("born 0 male of 4 and 0"), 1);
        t.refused("a woman for a man, no woman", t.tell("wed 0 1 4"), 1);
        t.refused("a call by the rule male, of nobody", t.tell("call 0 4 0"), 1);
        t.refused("a back without a lost, of no title", t.tell("back 0 1"), 1);
        t.breaks("call 0 0 0", 8);
    }

    private static void bond1() {
        Told.sentence("BOND 1: f is male, m female; of wed and part p is male, q female");
        Told t = four();
        t.breaks("born 9000 male of 1 and none", 1);
        t.breaks("born 9000 male of none and 0", 1);
        t.breaks("born 9000 female of 1 and 3", 1);
        t.breaks("born 9000 female of 0 and 2", 1);
        t.breaks("born 9000 female of 0 and 0", 1);
        t.breaks("born 9000 female of 1 and 0", 1);
        t.taken("born 9000 female of 0 and 1");
        for (String kind : new String[] {"wed", "part"}) {
            t.breaks(kind + " 9000 1 0", 1);
            t.breaks(kind + " 9000 1 3", 1);
            t.breaks(kind + " 9000 0 2", 1);
            t.breaks(kind + " 9000 0 0", 1);
            t.breaks(kind + " 9000 1 1", 1);
        }
        t.taken("wed 9000 0 1");
        t.taken("part 9001 0 1");
    }

    private static void bond2() {
        Told.sentence("BOND 2: A PERSON is dead once at most, and not ahead of its own born");
        Told t = new Told().with("born 100 male of none and none", "born 0 male of none and none");
        t.breaks("dead 99 0", 2);
        t.breaks("dead 0 0", 2);
        t.taken("dead 100 0");
        t.breaks("dead 100 0", 2);
        t.breaks("dead 101 0", 2);
        t.breaks("dead 99 0", 2);
        t.taken("dead 0 1");
        t.breaks("dead 0 1", 2);
        Told.due("strike", t.x.strike(2), 3);
        t.taken("dead 101 0");
        t.breaks("dead 100 0", 2);
    }

    private static void bond3() {
        Told.sentence("BOND 3: m was born 4000 days ahead of d or more, and is not dead ahead of d");
        Told t = new Told().with("born 100 female of none and none");
        t.breaks("born 4099 male of none and 0", 3);
        t.breaks("born 99 male of none and 0", 3);
        t.breaks("born 0 male of none and 0", 3);
        t.taken("born 4100 male of none and 0");
        t.breaks("dead 4099 0", 3);
        t.taken("dead 4100 0");
        t.breaks("born 4101 male of none and 0", 3);
        t.taken("born 4100 female of none and 0");
        Told u = new Told().with(WOMAN);
        u.breaks("born 3999 male of none and 0", 3);
        u.taken("born 4000 male of none and 0");
        u.taken("born 99999 male of none and 0");
        u.breaks("dead 99998 0", 3);
        u.taken("dead 99999 0");
    }

    private static void bond4() {
        Told.sentence("BOND 4: f was born 4000 days ahead of d or more, and is not dead ahead of d - 300");
        Told t = new Told().with("born 100 male of none and none");
        t.breaks("born 4099 male of 0 and none", 4);
        t.breaks("born 0 male of 0 and none", 4);
        t.taken("born 4100 male of 0 and none");
        t.breaks("dead 3799 0", 4);
        t.taken("dead 3800 0");
        t.breaks("born 4101 male of 0 and none", 4);
        t.taken("born 4100 female of 0 and none");
        Told u = new Told().with(MAN, "dead 5000 0");
        u.taken("born 5300 male of 0 and none");
        u.breaks("born 5301 male of 0 and none", 4);
        Told v = new Told().with(MAN, "dead 0 0");
        v.breaks("born 300 male of 0 and none", 4);
        Told w = new Told().with(MAN, "born 99999 male of 0 and none");
        w.breaks("dead 99698 0", 4);
        w.taken("dead 99699 0");
    }

    private static void bond5() {
        Told.sentence("BOND 5: wed, part: p and q were born 4000 days ahead of d or more, and are not dead ahead of d");
        String[] sexes = {"male", "female"};
        for (int younger = 0; younger < 2; younger++) {
            String[] births = {"born 0 male of none and none", "born 0 female of none and none"};
            births[younger] = "born 100 " + sexes[younger] + " of none and none";
            Told t = new Told().with(births);
            t.breaks("wed 4099 0 1", 5);
            t.breaks("part 4099 0 1", 5);
            t.taken("wed 4100 0 1");
            t.breaks("dead 4099 " + younger, 5);
            t.taken("part 4200 0 1");
            t.breaks("dead 4199 " + younger, 5);
            t.taken("dead 4200 " + younger);
            t.breaks("wed 4201 0 1", 5);
            t.breaks("part 4201 0 1", 5);
            t.taken("wed 4200 0 1");
        }
        Told u = couple().with("wed 4000 0 1", "dead 4100 1");
        u.breaks("part 4101 0 1", 5);
        u.taken("part 4100 0 1");
    }

    private static void bond6() {
        Told.sentence("BOND 6: Of the same two PERSONS wed and part, by their DAYS, take turns, a wed first");
        Told t = four();
        t.breaks("part 5000 0 1", 6);
        t.taken("wed 5000 0 1");
        t.breaks("wed 5001 0 1", 6);
        t.breaks("wed 4999 0 1", 6);
        t.breaks("part 4999 0 1", 6);
        t.breaks("part 5001 0 3", 6);
        t.breaks("part 5001 2 1", 6);
        t.taken("part 5001 0 1");
        t.breaks("part 5002 0 1", 6);
        t.breaks("part 4999 0 1", 6);
        t.breaks("wed 4999 0 1", 6);
        t.taken("wed 5002 0 1");
        t.taken("part 5003 0 1");
        t.strikeBreaks(4, 6);
        t.strikeBreaks(5, 6);
        t.strikeBreaks(6, 6);
        Told.due("the last of them", t.x.strike(7), 7);
        Told.sentence("BOND 6: on one DAY there is but a part and then the wed that comes next");
        Told u = four().with("wed 5000 0 1");
        u.breaks("wed 5000 0 1", 6);
        u.breaks("part 5000 0 1", 6);
        u.taken("part 5001 0 1");
        u.breaks("part 5001 0 1", 6);
        u.taken("wed 5001 0 1");
        u.breaks("wed 5001 0 1", 6);
        u.breaks("part 5001 0 1", 6);
        u.strikeBreaks(5, 6);
        u.strikeBreaks(4, 6);
        u.taken("part 5002 0 1");
        u.strikeBreaks(6, 6);
        u.strikeBreaks(5, 6);
        // the wed told ahead of the part of its day
        Told v = four().with("wed 5000 0 1");
        v.breaks("wed 6000 0 1", 6);
        v.taken("part 6000 0 1");
        v.taken("wed 6000 0 1");
        Told.due("wed struck out", v.x.strike(6), 6);
        Told.due("part struck out", v.x.strike(5), 5);
    }

    private static void bond7() {
        Told.sentence("BOND 7: Nobody is in two UNIONS on one day");
        Told t = four().with("wed 5000 0 1", "part 6000 0 1");
        t.breaks("wed 5999 0 3", 7);
        t.breaks("wed 5999 2 1", 7);
        t.breaks("wed 4999 0 3", 7);
        t.breaks("wed 4999 2 1", 7);
        t.taken("wed 6000 0 3");
        t.taken("wed 6000 2 1");
        t.strikeBreaks(5, 7);
        Told.due("one of the later ones", t.x.strike(6), 7);
        t.strikeBreaks(5, 7);
        Told.due("the other, too", t.x.strike(7), 6);
        Told.due("now nothing binds it", t.x.strike(5), 5);
        // a dead one of the two ends a union behind that day
        Told u = four().with("wed 5000 0 1", "dead 6000 1");
        u.breaks("wed 6000 0 3", 7);
        u.taken("wed 6001 0 3");
        u.strikeBreaks(5, 7);
        Told v = four().with("wed 5000 0 1", "dead 6000 0");
        v.breaks("wed 6000 2 1", 7);
        v.taken("wed 6001 2 1");
        v.strikeBreaks(5, 7);
        // one that is over ahead of the other, told behind it
        Told x = four().with("dead 6000 3", "wed 6001 0 1");
        x.taken("wed 5000 0 3");
        Told.due("partner(0, 6000)", x.x.partner(0, 6000), 3);
        Told.due("partner(0, 6001)", x.x.partner(0, 6001), 1);
        Told y = four().with("dead 6000 3", "wed 6000 0 1");
        y.breaks("wed 5000 0 3", 7);
        // one day is enough, by the day of a wed and by the last day of all
        Told w = four().with("wed 99999 0 1");
        w.breaks("wed 99999 0 3", 7);
        w.breaks("wed 4000 0 3", 7);
        w.taken("wed 4000 2 3");
    }

    private static void bond8() {
        Told.sentence("BOND 8: title, yield, call: p was born on d or ahead of it, and is not dead ahead of d");
        Told t = new Told().with(MAN, "born 100 male of none and none", "title 0 0 writ", "dead 200 1");
        for (String kind : new String[] {"title", "yield", "call"}) {
            String rest = kind.equals("title") ? " 1 mixed" : " 1 0";
            t.breaks(kind + " 99" + rest, 8);
            t.breaks(kind + " 201" + rest, 8);
            t.taken(kind + " 100" + rest);
            if (!kind.equals("yield")) t.taken(kind + " 200" + rest);
        }
        Told.due("strike a title at its last day", t.x.strike(5), 8);
        Told.due("strike dead", t.x.strike(3), 7);
        t.breaks("dead 199 1", 8);
        t.taken("dead 200 1");
        Told y = new Told().with(MAN, "title 0 0 male", "yield 200 0 0");
        y.breaks("dead 199 0", 8);
        y.taken("dead 200 0");
        Told.sentence("BOND 8: yield, call, lost, back: d is not ahead of the TITLE's own");
        Told u = new Told().with(MAN, "title 100 0 writ");
        u.breaks("yield 99 0 0", 8);
        u.breaks("call 99 0 0", 8);
        u.breaks("lost 99 0", 8);
        u.breaks("back 99 0", 8);
        u.taken("yield 100 0 0");
        u.taken("call 100 0 0");
        u.taken("lost 100 0");
        u.taken("back 101 0");
        Told.sentence("BOND 8: yield: once for a PERSON and a TITLE");
        Told v = couple().with("title 100 0 male", "title 100 0 male", "yield 100 0 0");
        v.breaks("yield 100 0 0", 8);
        v.breaks("yield 101 0 0", 8);
        v.taken("yield 100 0 1");
        v.taken("yield 100 1 0");
        Told.due("strike the first", v.x.strike(4), 6);
        v.taken("yield 101 0 0");
        v.breaks("yield 100 0 0", 8);
        Told.sentence("BOND 8: call: the TITLE's RULE is writ");
        for (String rule : new String[] {"male", "mixed", "equal", "last", "near"}) {
            Told w = new Told().with(MAN, "title 0 0 " + rule);
            w.breaks("call 0 0 0", 8);
        }
        Told w = new Told().with(MAN, "title 0 0 writ", "title 0 0 near");
        w.taken("call 0 0 0");
        w.taken("call 0 0 0");
        w.breaks("call 0 0 1", 8);
    }

    private static void bond9() {
        Told.sentence("BOND 9: lost and back of a TITLE, by their DAYS, take turns, a lost first, no two on one DAY");
        Told t = new Told().with(MAN, "title 100 0 male", "title 100 0 male");
        t.breaks("back 100 0", 9);
        t.taken("lost 100 0");
        t.breaks("lost 100 0", 9);
        t.breaks("lost 101 0", 9);
        t.breaks("back 100 0", 9);
        t.taken("back 101 0");
        t.breaks("back 101 0", 9);
        t.breaks("lost 101 0", 9);
        t.breaks("back 102 0", 9);
        t.taken("lost 102 0");
        t.breaks("back 102 0", 9);
        t.taken("back 103 0");
        t.breaks("back 104 1", 9);
        t.strikeBreaks(3, 9);
        t.strikeBreaks(4, 9);
        t.strikeBreaks(5, 9);
        Told.due("the last of them", t.x.strike(6), 6);
        // those of another title take turns by themselves
        Told v = new Told().with(MAN, "title 100 0 male", "title 100 0 male", "lost 200 0");
        v.taken("lost 200 1");
        v.breaks("lost 201 1", 9);
        v.taken("back 201 1");
        v.taken("back 201 0");
        v.taken("lost 202 1");
        // told the later first: a pair between a lost and the next back fits in, one of them at a time does not
        Told u = new Told().with(MAN, "title 100 0 male", "lost 300 0");
        u.breaks("lost 200 0", 9);
        u.breaks("back 200 0", 9);
        u.taken("back 400 0");
        u.breaks("lost 350 0", 9);
        u.breaks("back 350 0", 9);
    }

    private static void firstBond() {
        Told.sentence("BOND, the first such in this order");
        Told t = four().with("wed 5000 0 1", "born 6000 male of 0 and 1", "title 7000 0 mixed", "title 7000 1 mixed");
        t.breaks("born 1000 male of 1 and 1", 1);
        t.breaks("born 1000 male of 0 and 0", 1);
        t.breaks("wed 1000 1 1", 1);
        t.breaks("part 1000 0 2", 1);
        t.breaks("born 1000 male of 0 and 1", 3);
        t.breaks("born 1000 male of 0 and none", 4);
        t.breaks("dead 1000 0", 4);
        t.breaks("dead 1000 1", 3);
        t.breaks("dead 6000 1", 8);
        t.breaks("wed 1000 0 1", 5);
        t.breaks("part 1000 0 1", 5);
        t.breaks("wed 5500 0 1", 6);
        t.breaks("wed 1000 0 3", 5);
        t.breaks("wed 5500 0 3", 7);
        t.breaks("yield 6999 2 0", 8);
        t.breaks("back 6999 0", 8);
        t.breaks("back 7000 0", 9);
        Told u = four().with("wed 5000 0 1", "title 7000 0 mixed", "dead 9000 0");
        u.breaks("dead 1000 0", 2);
        Told v = four().with("wed 5000 0 1", "title 7000 0 mixed");
        v.breaks("dead 4999 0", 5);
        v.breaks("dead 5000 0", 8);
        Told w = four().with("wed 5000 0 1", "part 6000 0 1", "wed 6500 0 3", "part 7000 0 3", "wed 7000 0 1");
        w.strikeBreaks(5, 6);
    }

    private static void openUnions() {
        Told.sentence("OPEN on a day x, if its d is not behind x, the part of the two that comes next is behind x");
        Told t = four().with("wed 5000 0 1", "part 6000 0 1", "wed 7000 0 1", "part 7001 0 1", "wed 7001 0 3");
        int[] days = {0, 4999, 5000, 5999, 6000, 6999, 7000, 7001, 99999};
        int[] due = {-1, -1, 1, 1, -1, -1, 1, 3, 3};
        for (int i = 0; i < days.length; i++) Told.due("partner(0, " + days[i] + ")", t.x.partner(0, days[i]), due[i]);
        Told.due("partner(1, 7000)", t.x.partner(1, 7000), 0);
        Told.due("partner(1, 7001)", t.x.partner(1, 7001), -1);
        Told.due("partner(3, 7000)", t.x.partner(3, 7000), -1);
        Told.sentence("OPEN: the part of the two: that of another two ends nothing");
        Told w = four().with("wed 5000 0 1", "wed 5000 2 3", "part 6000 2 3");
        Told.due("partner(0, 6000)", w.x.partner(0, 6000), 1);
        Told.due("partner(2, 6000)", w.x.partner(2, 6000), -1);
        Told.due("partner(3, 5999)", w.x.partner(3, 5999), 2);
        Told.sentence("the part of the two that comes next by DAYS: one on the wed's own DAY is of the UNION ahead of it");
        Told u = couple().with("wed 5000 0 1", "part 6000 0 1", "wed 6000 0 1");
        Told.due("partner(0, 6000)", u.x.partner(0, 6000), 1);
        Told.due("partner(1, 99999)", u.x.partner(1, 99999), 0);
        Told.sentence("OPEN: neither of both is dead ahead of x");
        for (int who = 0; who < 2; who++) {
            Told v = couple().with("wed 5000 0 1", "dead 6000 " + who);
            Told.due("partner(0, 6000)", v.x.partner(0, 6000), 1);
            Told.due("partner(1, 6000)", v.x.partner(1, 6000), 0);
            Told.due("partner(0, 6001)", v.x.partner(0, 6001), -1);
            Told.due("partner(1, 6001)", v.x.partner(1, 6001), -1);
        }
    }

    /** The same records but for their order; persons and titles bear the same numbers. */
    private static void anyOrder() {
        Told.sentence("All that follows hangs on the RECORDS that STAND alone, not on the order in which they were told");
        String[] births = {MAN, WOMAN, "born 5000 female of 0 and 1", "born 5100 female of 0 and 1", "born 5200 male of 0 and 1",
            "title 6000 0 writ"};
        String[] late = {"wed 4000 0 1", "part 5150 0 1", "dead 7000 0", "yield 7100 2 0", "call 7000 3 0", "dead 7200 3",
            "lost 7300 0", "back 7400 0"};
        Told told = new Told().with(births).with(late);
        told.tenures(0, 0, 6000, 3, 7000, -1, 7200, -3, 7300, -1, 7400);
        int[][] orders = {{0, 6, 7, 5, 4, 3, 2, 1}, {2, 4, 3, 0, 1, 6, 7, 5}, {5, 4, 3, 2, 6, 0, 7, 1}};
        for (int[] order : orders) {
            Told other = new Told().with(births);
            other.with("wed 4100 0 1");
            other.x.strike(6);
            for (int i : order) other.with(late[i]);
            other.tenures(0, 0, 6000, 3, 7000, -1, 7200, -3, 7300, -1, 7400);
            other.person(4, 1, 5200, 0, 1, -1, 0);
            other.person(3, 0, 5100, 0, 1, 7200, 1);
        }
    }

    private static void bonds() {
        Told.sentence("bond: the BOND by which the latest record() or strike() was refused; 0 if it was not by one");
        Told t = couple().with("wed 5000 0 1", "part 6000 0 1", "wed 6000 0 1");
        String[] texts = {"wed 5000 0 1", "dead 9000 2", ".", "dead 9000 0"};
        int[] why = {5, 1, 2, 0};
        for (int i = 0; i < texts.length; i++) {
            t.strikeBreaks(3, 6);
            t.x.count(0);
            t.x.count(9);
            t.x.feed(0, 0, 0, 0, 0);
            t.x.end(0);
            Told.due("bond behind other calls", t.x.bond(), 6);
            t.tell(texts[i]);
            Told.due("status of " + texts[i], t.x.status(), why[i]);
            Told.due("bond of " + texts[i], t.x.bond(), why[i] == 5 ? 6 : 0);
        }
        int[] records = {-1, 77, 0};
        int[] due = {1, 1, 6};
        for (int i = 0; i < records.length; i++) {
            t.strikeBreaks(3, 6);
            t.refused("strike(" + records[i] + ")", t.x.strike(records[i]), due[i]);
            Told.due("bond of strike(" + records[i] + ")", t.x.bond(), 0);
        }
        t.strikeBreaks(3, 6);
        Told.due("strike", t.x.strike(4), 5);
        Told.due("bond of a strike", t.x.bond(), 0);
        t.breaks("part 5500 0 1", 6);
        t.refused("struck out", t.x.strike(4), 8);
        Told.due("bond of a second strike", t.x.bond(), 0);
    }

    private static void strikes() {
        Told.sentence("strike: how many STAND then. 1; 8");
        Told t = couple().with("wed 5000 0 1");
        int[] none = {-1, 3, 199, 200, Integer.MIN_VALUE, Integer.MAX_VALUE};
        for (int record : none) t.refused("strike(" + record + ")", t.x.strike(record), 1);
        Told.due("strike(2)", t.x.strike(2), 2);
        Told.due("status", t.x.status(), 0);
        t.refused("strike(2)", t.x.strike(2), 8);
        Told.due("strike(1)", t.x.strike(1), 1);
        Told.due("strike(0)", t.x.strike(0), 0);
        t.refused("strike(0)", t.x.strike(0), 8);
        Told.due("standing", t.x.count(1), 0);
        Told.sentence("strike: 6: another RECORD that STANDS names the PERSON or TITLE that this one made");
        String[] naming = {"born 5000 male of 0 and none", "wed 5000 0 1", "dead 5000 0", "title 5000 0 male", "yield 5000 0 0",
            "call 5000 0 0"};
        for (String text : naming) {
            Told u = couple().with("title 0 1 writ", text);
            u.refused("a man named by " + text, u.x.strike(0), 6);
            Told.due("strike " + text, u.x.strike(3), 3);
            Told.due("named no more", u.x.strike(0), 2);
        }
        for (String text : new String[] {"born 5000 male of none and 1", "wed 5000 0 1"}) {
            Told u = couple().with(text);
            u.refused("a woman named by " + text, u.x.strike(1), 6);
            Told.due("strike " + text, u.x.strike(2), 2);
            Told.due("named no more", u.x.strike(1), 1);
        }
        for (String text : new String[] {"yield 5000 1 0", "call 5000 1 0", "lost 5000 0"}) {
            Told u = couple().with("title 0 0 writ", text);
            u.refused("a title named by " + text, u.x.strike(2), 6);
            Told.due("strike " + text, u.x.strike(3), 3);
            Told.due("named no more", u.x.strike(2), 2);
        }
        Told u = couple().with("title 0 0 writ", "title 0 0 writ", "lost 100 0", "back 200 0", "yield 100 1 1", "born 5000 male of 0 and 1");
        u.refused("by a back", u.x.strike(2), 6);
        Told.due("strike back", u.x.strike(5), 7);
        Told.due("strike lost", u.x.strike(4), 6);
        Told.due("a title beside another that is named", u.x.strike(2), 5);
        Told.due("a child whom nobody names", u.x.strike(7), 4);
    }

    private static void strikeFirstThings() {
        Told.sentence("strike: 1; 8; 6; 5: of several the first as told with the call");
        Told t = couple().with("title 0 0 writ", "lost 100 0", "back 200 0", "lost 300 0");
        t.refused("6 of a title whose lost and back would be without it", t.x.strike(2), 6);
        Told.due("bond", t.x.bond(), 0);
        t.strikeBreaks(3, 9);
        Told.due("a strike that is refused changes nothing", t.x.holder(0, 150), -3);
        t.strikeBreaks(4, 9);
        Told.due("strike", t.x.strike(5), 5);
        Told.due("strike", t.x.strike(4), 4);
        Told.due("strike", t.x.strike(3), 3);
        t.refused("8 ahead of all", t.x.strike(4), 8);
        Told.due("strike", t.x.strike(2), 2);
        Told.due("strike", t.x.strike(0), 1);
        t.refused("8 of a person who was struck out", t.x.strike(0), 8);
    }

    private static void counts() {
        Told.sentence("count: taken (0), STAND (1); PERSONS (2), TITLES (3) made, struck out, too; bytes of the TAPE (4). 3");
        Told t = couple().with("title 0 0 writ", "title 0 0 male", "lost 5 0");
        t.x.strike(3);
        t.x.strike(1);
        t.x.feed(0, 0, 0, 0, 0);
        t.x.end(13);
        int[] due = {5, 3, 2, 2, 13};
        for (int what = 0; what < 5; what++) Told.due("count(" + what + ")", t.x.count(what), due[what]);
        int[] off = {-1, 5, 6, Integer.MIN_VALUE, Integer.MAX_VALUE};
        for (int what : off) t.refused("count(" + what + ")", t.x.count(what), 3);
    }

    private static void facts() {
        Told.sentence("fact: 1; 3");
        Told t = couple().with("wed 5000 0 1");
        int[] none = {-1, 3, 200, Integer.MIN_VALUE, Integer.MAX_VALUE};
        int[] off = {-1, 5, Integer.MIN_VALUE, Integer.MAX_VALUE};
        for (int record : none) {
            t.refused("fact(" + record + ", 0)", t.x.fact(record, 0), 1);
            for (int what : off) t.refused("fact(" + record + ", " + what + ")", t.x.fact(record, what), 1);
        }
        for (int what : off) t.refused("fact(2, " + what + ")", t.x.fact(2, what), 3);
        Told.sentence("fact: 2 whether it STANDS");
        Told.due("fact(2, 2)", t.x.fact(2, 2), 1);
        t.x.strike(2);
        t.facts(2, 1, 5000, 0, 0, 1);
        for (int what : off) t.refused("fact(2, " + what + ") struck out", t.x.fact(2, what), 3);
        Told.sentence("fact: 3 its PERSON (of born the one made, of wed and part p; -1 of lost and back); 4 q, the TITLE, else -1");
        String[] texts = {"wed 5000 0 1", "part 5001 0 1", "title 5 1 writ", "yield 6 0 0", "call 7 1 0", "lost 8 0", "back 9 0",
            "dead 5001 0", "born 5001 male of 0 and 1"};
        int[][] due = {{1, 5000, 1, 0, 1}, {2, 5001, 1, 0, 1}, {4, 5, 1, 1, 0}, {5, 6, 1, 0, 0}, {6, 7, 1, 1, 0}, {7, 8, 1, -1, 0},
            {8, 9, 1, -1, 0}, {3, 5001, 1, 0, -1}, {0, 5001, 1, 2, -1}};
        t.with(texts);
        for (int i = 0; i < due.length; i++) t.facts(i + 3, due[i][0], due[i][1], due[i][2], due[i][3], due[i][4]);
    }
}

/** Promises 10 to 12: persons, partners and kin. */
public final class PersonTest {
    public static void main(String[] args) {
        persons();
        legit();
        partners();
        kin();
        orderOfTelling();
        Told.finish("PersonTest");
    }

    private static final String MAN = Told.MAN;
    private static final String WOMAN = Told.WOMAN;

    private static Told couple() {
        return new Told().with(MAN, WOMAN, "wed 5000 0 1");
    }

    private static void persons() {
        Told t = couple().with("born 6000 female of 0 and 1", "dead 7000 2");
        t.person(0, 1, 0, -1, -1, -1, 0);
        t.person(1, 0, 0, -1, -1, -1, 0);
        t.person(2, 0, 6000, 0, 1, 7000, 1);
        t.refused("person(3, 0)", t.x.person(3, 0), 1);
        t.refused("person(-1, 0)", t.x.person(-1, 0), 1);
        t.refused("person(64, 0)", t.x.person(64, 0), 1);
        t.refused("person(MAX, 9)", t.x.person(Integer.MAX_VALUE, 9), 1);
        t.refused("person(0, 6)", t.x.person(0, 6), 3);
        t.refused("person(0, -1)", t.x.person(0, -1), 3);
        t.x.strike(4);
        Told.due("a death struck out", t.x.person(2, 4), -1);
        t.x.strike(3);
        t.refused("a struck out person", t.x.person(2, 4), 1);
    }

    private static int legitOf(Told t, String birth) {
        t.taken(birth);
        int p = t.x.count(2) - 1;
        return t.x.person(p, 5);
    }

    private static void legit() {
        Told t = couple().with("part 6000 0 1", MAN, WOMAN);
        Told.due("on the day of the wed", legitOf(t, "born 5000 male of 0 and 1"), 1);
        Told.due("ahead of the wed", legitOf(t, "born 4999 male of 0 and 1"), 0);
        Told.due("ahead of the part", legitOf(t, "born 5999 male of 0 and 1"), 1);
        Told.due("on the day of the part", legitOf(t, "born 6000 male of 0 and 1"), 0);
        Told.due("of another mother", legitOf(t, "born 5500 male of 0 and 3"), 0);
        Told.due("of another father", legitOf(t, "born 5500 male of 2 and 1"), 0);
        Told.due("of no mother", legitOf(t, "born 5500 male of 0 and none"), 0);
        Told.due("of no father", legitOf(t, "born 5500 male of none and 1"), 0);
        t.with("wed 6000 0 1");
        Told.due("the union anew", t.x.person(7, 5), 1);
        t.with("dead 8000 0");
        Told.due("on the father's last day", legitOf(t, "born 8000 male of 0 and 1"), 1);
        Told.due("300 days behind it", legitOf(t, "born 8300 male of 0 and 1"), 1);
        t.breaks("born 8301 male of 0 and 1", 4);
        Told u = couple().with("part 8000 0 1", "dead 8000 0");
        Told.due("parted on the father's last day", legitOf(u, "born 8000 male of 0 and 1"), 0);
        Told.due("and behind it", legitOf(u, "born 8100 male of 0 and 1"), 0);
        Told v = couple().with("part 7999 0 1", "dead 8000 0", "wed 8000 0 1");
        Told.due("wed on the last day", legitOf(v, "born 8300 male of 0 and 1"), 1);
        Told.due("between part and wed", legitOf(v, "born 7999 male of 0 and 1"), 0);
        Told w = couple().with("dead 8000 1");
        Told.due("on the mother's last day", legitOf(w, "born 8000 male of 0 and 1"), 1);
        Told x = couple().with("dead 8000 1", "dead 8000 0", "born 8000 male of 0 and 1");
        Told.due("on the last day of both", x.x.person(2, 5), 1);
        x.x.strike(2);
        Told.due("with the wed struck out", x.x.person(2, 5), 0);
        Told y = couple().with("part 7000 0 1", "dead 7200 0", "born 7000 male of 0 and 1");
        Told.due("parted ahead of the father's dead", y.x.person(2, 5), 0);
    }

    private static void partners() {
        Told t = couple().with(MAN, WOMAN, "dead 9000 0", "wed 9001 2 1");
        Told.due("ahead", t.x.partner(0, 4999), -1);
        Told.due("first day", t.x.partner(0, 5000), 1);
        Told.due("first day", t.x.partner(1, 5000), 0);
        Told.due("last day", t.x.partner(1, 9000), 0);
        Told.due("last day of a dead", t.x.partner(0, 9000), 1);
        Told.due("behind", t.x.partner(0, 9001), -1);
        Told.due("next", t.x.partner(1, 9001), 2);
        Told.due("never", t.x.partner(3, 9001), -1);
        Told.due("till the last day", t.x.partner(2, 99999), 1);
        Told.due("day 0", t.x.partner(2, 0), -1);
        Told.due("status", t.x.status(), 0);
        t.refused("partner(4, 0)", t.x.partner(4, 0), 1);
        t.refused("partner(-1, 0)", t.x.partner(-1, 0), 1);
        t.refused("partner(4, -1)", t.x.partner(4, -1), 1);
        t.refused("partner(0, -1)", t.x.partner(0, -1), 3);
        t.refused("partner(0, 100000)", t.x.partner(0, 100000), 3);
    }

    private static void kin() {
        Told t = couple().with("born 5000 male of 0 and 1", "born 4000 female of 0 and none", WOMAN,
                "born 9000 male of 2 and 4", "born 9000 male of 2 and 3", "born 13000 female of 5 and none",
                "born 13000 female of 6 and none", MAN, "born 13000 male of 6 and none");
        // 0 1 couple; 2 their son; 3 a daughter of 0; 4 a woman; 5 of 2 and 4; 6 of 2 and 3; 7 of 5; 8 of 6; 9 a man
        Told.due("itself", t.x.kin(2, 2), 0);
        Told.due("father", t.x.kin(2, 0), 1);
        Told.due("son", t.x.kin(0, 2), 1);
        Told.due("mother, not wed", t.x.kin(6, 3), 1);
        Told.due("husband and wife", t.x.kin(0, 1), -1);
        Told.due("half siblings", t.x.kin(2, 3), 2);
        Told.due("half brothers of one father", t.x.kin(5, 6), 2);
        Told.due("grandfather", t.x.kin(6, 0), 2);
        Told.due("grandmother by one side", t.x.kin(1, 6), 2);
        Told.due("aunt", t.x.kin(5, 3), 3);
        Told.due("cousins", t.x.kin(7, 8), 4);
        Told.due("by the nearer side", t.x.kin(8, 3), 2);
        Told.due("no kin", t.x.kin(4, 9), -1);
        Told.due("no kin by a common child", t.x.kin(2, 4), -1);
        Told.due("brother", t.x.kin(8, 10), 2);
        Told.due("status", t.x.status(), 0);
        t.refused("kin(11, 0)", t.x.kin(11, 0), 1);
        t.refused("kin(0, 11)", t.x.kin(0, 11), 1);
        t.refused("kin(-1, 0)", t.x.kin(-1, 0), 1);
        t.refused("kin(0, MIN)", t.x.kin(0, Integer.MIN_VALUE), 1);
        t.refused("kin(64, 64)", t.x.kin(64, 64), 1);
    }

    private static void orderOfTelling() {
        Told t = new Told().with(MAN, WOMAN, "born 8200 male of 0 and 1", "born 6000 female of 0 and 1");
        Told.due("no union is told yet", t.x.person(2, 5), 0);
        t.taken("dead 8000 0");
        t.taken("wed 5000 0 1");
        Told.due("legit by a later told wed", t.x.person(2, 5), 1);
        Told.due("legit by a later told wed", t.x.person(3, 5), 1);
        t.taken("part 7000 0 1");
        Told.due("no longer by a later told part", t.x.person(2, 5), 0);
        Told.due("still ahead of the part", t.x.person(3, 5), 1);
        t.x.strike(6);
        Told.due("again, the part struck out", t.x.person(2, 5), 1);
    }
}

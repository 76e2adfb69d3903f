/** Promise 21 and the status of every refusal, first things first. */
public final class StatusTest {
    public static void main(String[] args) {
        latestCall();
        orderOfRefusals();
        Told.finish("StatusTest");
    }

    private static Told small() {
        return new Told().with("born 0 male of none and none", "born 0 female of none and none", "title 100 0 writ");
    }

    private static void latestCall() {
        Told t = small();
        t.refused("count(9)", t.x.count(9), 3);
        t.x.place();
        t.x.bond();
        t.x.status();
        Told.due("status stays behind place, bond and status", t.x.status(), 3);
        t.x.feed(0, 0, 0, 0, 0);
        Told.due("status of feed", t.x.status(), 0);
        t.refused("end", t.x.end(21), 3);
        t.x.end(0);
        Told.due("status of end", t.x.status(), 0);
        t.refused("record", t.x.record(), 2);
        t.x.kin(0, 1);
        Told.due("status of kin", t.x.status(), 0);
        t.refused("tenures", t.x.tenures(1), 1);
        t.x.tenures(0);
        Told.due("status of tenures", t.x.status(), 0);
        t.refused("holds", t.x.holds(1, 100, 0), 1);
        Told.due("holds", t.x.holds(0, 100, 0), 0);
        Told.due("status of holds", t.x.status(), 0);
    }

    private static void orderOfRefusals() {
        Told t = small();
        HeirRoll x = t.x;
        int[] days = {-1, 100000, Integer.MIN_VALUE, Integer.MAX_VALUE};
        for (int day : days) {
            t.refused("partner", x.partner(0, day), 3);
            t.refused("partner", x.partner(2, day), 1);
            t.refused("holder", x.holder(0, day), 3);
            t.refused("holder", x.holder(1, day), 1);
            t.refused("holder", x.holder(-1, day), 1);
            t.refused("since", x.since(0, day), 3);
            t.refused("since", x.since(8, day), 1);
            t.refused("line", x.line(0, day, 0), 3);
            t.refused("line", x.line(0, day, 99), 3);
            t.refused("line", x.line(1, day, 0), 1);
            t.refused("rank", x.rank(0, 0, day), 3);
            t.refused("rank", x.rank(1, 0, day), 1);
            t.refused("rank", x.rank(0, 2, day), 1);
            t.refused("coheir", x.coheir(0, day, 0), 3);
            t.refused("coheir", x.coheir(1, day, 0), 1);
            t.refused("holds", x.holds(0, day, 0), 3);
            t.refused("holds", x.holds(0, day, -1), 3);
            t.refused("holds", x.holds(2, day, 0), 1);
        }
        t.refused("tenure of no title", x.tenure(1, 0, 9), 1);
        t.refused("no such tenure", x.tenure(0, 1, 9), 1);
        t.refused("no such tenure", x.tenure(0, -1, 9), 1);
        t.refused("no such what", x.tenure(0, 0, 2), 3);
        t.refused("no such what", x.tenure(0, 0, -1), 3);
        t.refused("no such place", x.line(0, 100, Integer.MAX_VALUE), 1);
        t.refused("no such place", x.line(0, 100, Integer.MIN_VALUE), 1);
        t.refused("not in abeyance", x.coheir(0, 100, 0), 1);
        t.refused("ahead of its own", x.coheir(0, 99, 0), 1);
        t.refused("holds no more", x.holds(0, 100, 1), 1);
        t.refused("holds", x.holds(0, 100, -1), 1);
        t.refused("holds", x.holds(0, 100, Integer.MIN_VALUE), 1);
        t.refused("holds ahead", x.holds(0, 99, 0), 1);
    }
}

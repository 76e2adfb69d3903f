import java.util.ArrayList;
import java.util.List;
import java.util.function.ToIntFunction;

/** Terms 5 and promise 21, sentence by sentence: what a refused call tells, and that it changes nothing else. */
public final class CallEdges {
    private static final int[] ENDS = {Integer.MIN_VALUE, -100000, -1, 0, 1, 63, 64, 99999, 100000, Integer.MAX_VALUE};

    /** A call that must be refused, and why. */
    private record Refusal(String what, int why, ToIntFunction<HeirRoll> call) {
    }

    public static void main(String[] args) {
        eachStatus();
        changesNothingElse();
        fullTapeIsKept();
        firstAsTold();
        ofThoseWithANumber();
        allEnds();
        mostCalls();
        Told.finish("CallEdges");
    }

    /**
     * Persons 0 to 5, of whom 5 is struck out; titles 0 (in abeyance from 7000 to the call of 3 on 7500; 2 holds it from
     * 8000 on), 1 (struck out), 2 (of 4, whose yield is struck out); records 0 to 17, of which 8, 10 and 17 are struck out.
     */
    private static Told rich() {
        Told t = new Told().with(Told.MAN, Told.WOMAN, "wed 4000 0 1", "born 5000 female of 0 and 1",
                "born 5100 female of 0 and 1", "part 5200 0 1", "wed 5200 0 1", Told.MAN, Told.MAN, "title 6000 0 writ",
                "title 6000 0 male", "title 6100 4 mixed", "dead 7000 0", "call 7500 3 0", "dead 8000 3", "lost 9000 2",
                "back 9100 2", "yield 9200 4 2");
        t.x.strike(8);
        t.x.strike(10);
        t.x.strike(17);
        return t;
    }

    private static int told(HeirRoll x, String text) {
        for (int from = 0; from < text.length(); from += 20) {
            int[] five = new int[5];
            for (int i = 0; i < 20; i++) {
                int b = from + i < text.length() ? text.charAt(from + i) : ' ';
                five[i / 4] = five[i / 4] << 8 | b;
            }
            x.feed(five[0], five[1], five[2], five[3], five[4]);
        }
        return x.record();
    }

    private static List<Refusal> refusals() {
        List<Refusal> all = new ArrayList<>();
        all.add(new Refusal("end(1)", 3, x -> x.end(1)));
        all.add(new Refusal("end(-1)", 3, x -> x.end(-1)));
        addRecords(all);
        all.add(new Refusal("strike(18)", 1, x -> x.strike(18)));
        all.add(new Refusal("strike(-1)", 1, x -> x.strike(-1)));
        all.add(new Refusal("strike(17)", 8, x -> x.strike(17)));
        all.add(new Refusal("strike(8)", 8, x -> x.strike(8)));
        all.add(new Refusal("strike(0)", 6, x -> x.strike(0)));
        all.add(new Refusal("strike(9)", 6, x -> x.strike(9)));
        all.add(new Refusal("strike(5)", 5, x -> x.strike(5)));
        all.add(new Refusal("strike(15)", 5, x -> x.strike(15)));
        all.add(new Refusal("count(5)", 3, x -> x.count(5)));
        all.add(new Refusal("fact(18, 0)", 1, x -> x.fact(18, 0)));
        all.add(new Refusal("fact(17, 5)", 3, x -> x.fact(17, 5)));
        all.add(new Refusal("person(5, 0)", 1, x -> x.person(5, 0)));
        all.add(new Refusal("person(0, 6)", 3, x -> x.person(0, 6)));
        all.add(new Refusal("partner(5, 0)", 1, x -> x.partner(5, 0)));
        all.add(new Refusal("partner(0, -1)", 3, x -> x.partner(0, -1)));
        all.add(new Refusal("kin(0, 5)", 1, x -> x.kin(0, 5)));
        addTitles(all);
        return all;
    }

    private static void addRecords(List<Refusal> all) {
        String[] texts = {"", "title 6000 0", "dead 9000 5", "lost 9300 1", "born 3999 male of 0 and 1", "dead 9000 0",
            "wed 9000 1 0", "part 5200 0 1", "wed 5100 4 1", "call 5999 1 0", "lost 9000 2"};
        int[] why = {2, 2, 1, 1, 5, 5, 5, 5, 5, 5, 5};
        for (int i = 0; i < texts.length; i++) {
            String text = texts[i];
            all.add(new Refusal("record '" + text + "'", why[i], x -> told(x, text)));
        }
    }

    private static void addTitles(List<Refusal> all) {
        all.add(new Refusal("holder(1, 0)", 1, x -> x.holder(1, 0)));
        all.add(new Refusal("holder(0, 100000)", 3, x -> x.holder(0, 100000)));
        all.add(new Refusal("since(1, 0)", 1, x -> x.since(1, 0)));
        all.add(new Refusal("since(0, -1)", 3, x -> x.since(0, -1)));
        all.add(new Refusal("line(1, 0, 0)", 1, x -> x.line(1, 0, 0)));
        all.add(new Refusal("line(0, -1, 9)", 3, x -> x.line(0, -1, 9)));
        all.add(new Refusal("line(0, 6000, 3)", 1, x -> x.line(0, 6000, 3)));
        all.add(new Refusal("rank(3, 0, 0)", 1, x -> x.rank(3, 0, 0)));
        all.add(new Refusal("rank(0, 5, 0)", 1, x -> x.rank(0, 5, 0)));
        all.add(new Refusal("rank(0, 0, -1)", 3, x -> x.rank(0, 0, -1)));
        all.add(new Refusal("coheir(1, 0, 0)", 1, x -> x.coheir(1, 0, 0)));
        all.add(new Refusal("coheir(0, -1, 9)", 3, x -> x.coheir(0, -1, 9)));
        all.add(new Refusal("coheir(0, 7000, 2)", 1, x -> x.coheir(0, 7000, 2)));
        all.add(new Refusal("coheir(0, 6000, 0)", 1, x -> x.coheir(0, 6000, 0)));
        all.add(new Refusal("tenures(1)", 1, x -> x.tenures(1)));
        all.add(new Refusal("tenure(1, 0, 0)", 1, x -> x.tenure(1, 0, 0)));
        all.add(new Refusal("tenure(0, 9, 9)", 1, x -> x.tenure(0, 9, 9)));
        all.add(new Refusal("tenure(0, 0, 2)", 3, x -> x.tenure(0, 0, 2)));
        all.add(new Refusal("holds(5, 0, 0)", 1, x -> x.holds(5, 0, 0)));
        all.add(new Refusal("holds(0, -1, 9)", 3, x -> x.holds(0, -1, 9)));
        all.add(new Refusal("holds(0, 6000, 1)", 1, x -> x.holds(0, 6000, 1)));
    }

    private static void eachStatus() {
        Told.sentence("STATUS: 0; of a refused call, which answers BAD");
        for (Refusal r : refusals()) {
            Told t = rich();
            Told.due("status of what was told", t.x.status(), 0);
            t.refused(r.what(), r.call().applyAsInt(t.x), r.why());
            Told.due("status, asked again", t.x.status(), r.why());
            t.x.count(0);
            Told.due("status of a call that is not refused", t.x.status(), 0);
        }
        Told t = new Told();
        for (int i = 0; i < 4; i++) t.x.feed(0, 0, 0, 0, 0);
        t.refused("feed", t.x.feed(0, 0, 0, 0, 0), 9);
    }

    private static void changesNothingElse() {
        Told.sentence("a refused call answers BAD and changes nothing else");
        List<Integer> due = answers(rich().x);
        for (Refusal r : refusals()) {
            HeirRoll x = rich().x;
            r.call().applyAsInt(x);
            List<Integer> got = answers(x);
            for (int i = 0; i < due.size(); i++) {
                Told.due("answer " + i + " behind " + r.what(), got.get(i), due.get(i));
            }
        }
    }

    /** What a roll tells of all that rich() told it. */
    private static List<Integer> answers(HeirRoll x) {
        List<Integer> all = new ArrayList<>();
        for (int what = 0; what < 5; what++) all.add(x.count(what));
        for (int record = 0; record < 19; record++) {
            for (int what = 0; what < 5; what++) all.add(x.fact(record, what));
        }
        for (int p = 0; p < 7; p++) {
            for (int what = 0; what < 6; what++) all.add(x.person(p, what));
            all.add(x.partner(p, 5199));
            all.add(x.partner(p, 5200));
            all.add(x.kin(p, 3));
            all.add(x.holds(p, 9200, 0));
        }
        for (int title = 0; title < 4; title++) {
            int tenures = x.tenures(title);
            all.add(tenures);
            for (int i = 0; i < 6; i++) all.add(x.tenure(title, i, 0));
            for (int i = 0; i < 6; i++) all.add(x.tenure(title, i, 1));
            for (int day : new int[] {6000, 7000, 7500, 8000, 9050, 9150, 9200}) {
                all.add(x.holder(title, day));
                all.add(x.since(title, day));
                all.add(x.line(title, day, 0));
                all.add(x.line(title, day, 1));
                all.add(x.coheir(title, day, 1));
            }
        }
        all.add(told(x, Told.MAN));
        all.add(x.count(2));
        all.add(told(x, "title 9000 6 male"));
        all.add(x.count(3));
        return all;
    }

    private static void fullTapeIsKept() {
        Told.sentence("a refused call changes nothing else: the TAPE, by a feed or an end");
        Told t = new Told();
        t.type(Told.MAN + " ".repeat(52));
        t.refused("feed", t.x.feed(0, 0, 0, 0, 0), 9);
        t.refused("end", t.x.end(81), 3);
        t.refused("end", t.x.end(-1), 3);
        t.refused("strike", t.x.strike(0), 1);
        Told.due("bytes", t.x.count(4), 80);
        Told.due("record", t.x.record(), 0);
        Told.sentence("a refused record or strike changes nothing else: where a text was WRONG stays as it was");
        t.tell("dead 0 x");
        Told.due("place", t.x.place(), 7);
        t.refused("strike", t.x.strike(7), 1);
        t.refused("fact", t.x.fact(7, 0), 1);
        Told.due("place", t.x.place(), 7);
    }

    private static void firstAsTold() {
        Told.sentence("Of several the first as told with the call: DAYS 3 behind 1 of RECORDS, PERSONS, TITLES, ahead of 1 of a place");
        Told t = rich();
        HeirRoll x = t.x;
        for (int no : new int[] {-1, 5, 6, 64}) {
            t.refused("partner", x.partner(no, -1), 1);
            t.refused("rank", x.rank(0, no, -1), 1);
            t.refused("holds", x.holds(no, -1, -1), 1);
            t.refused("person", x.person(no, -1), 1);
        }
        for (int no : new int[] {-1, 1, 3, 8}) {
            t.refused("holder", x.holder(no, -1), 1);
            t.refused("since", x.since(no, -1), 1);
            t.refused("line", x.line(no, -1, -1), 1);
            t.refused("rank", x.rank(no, 0, -1), 1);
            t.refused("coheir", x.coheir(no, -1, -1), 1);
            t.refused("tenure", x.tenure(no, -1, -1), 1);
        }
        for (int day : new int[] {-1, 100000}) {
            t.refused("line", x.line(0, day, -1), 3);
            t.refused("coheir", x.coheir(0, day, -1), 3);
            t.refused("holds", x.holds(0, day, -1), 3);
        }
        t.refused("tenure: 1 (no i-th one) ahead of 3", x.tenure(0, -1, -1), 1);
        t.refused("fact: 1 ahead of 3", x.fact(18, -1), 1);
        Told.sentence("DAYS that are handed in: 0 to 99999, else 3");
        for (int day : new int[] {0, 99999}) {
            Told.due("partner", x.partner(4, day), -1);
            Told.due("status", x.status(), 0);
            Told.due("holder", x.holder(0, day), day == 0 ? -4 : 2);
            Told.due("status", x.status(), 0);
            Told.due("line", x.line(2, day, 0), 4);
            Told.due("status", x.status(), 0);
        }
    }

    private static void ofThoseWithANumber() {
        Told.sentence("STATUS is of the latest call of those of which a number behind 0 is told below");
        Told t = rich();
        t.refused("strike", t.x.strike(5), 5);
        t.x.place();
        t.x.bond();
        t.x.status();
        Told.due("status behind place, bond and status", t.x.status(), 5);
        HeirRoll x = t.x;
        List<ToIntFunction<HeirRoll>> calls = List.of(r -> r.kin(0, 0), r -> r.partner(0, 0), r -> r.holder(0, 0),
                r -> r.since(0, 0), r -> r.line(0, 6000, 0), r -> r.rank(0, 0, 0), r -> r.coheir(0, 7000, 0), r -> r.tenures(0),
                r -> r.tenure(0, 0, 0), r -> r.tenure(0, 0, 1), r -> r.holds(0, 6000, 0), r -> r.strike(16), r -> r.strike(15));
        for (int i = 0; i < calls.size(); i++) acceptedBehindARefusal(t, "call " + i, calls.get(i));
        for (int i = 0; i < 6; i++) {
            int what = i;
            if (i < 5) acceptedBehindARefusal(t, "count " + i, r -> r.count(what));
            if (i < 5) acceptedBehindARefusal(t, "fact " + i, r -> r.fact(0, what));
            acceptedBehindARefusal(t, "person " + i, r -> r.person(2, what));
        }
        acceptedBehindARefusal(t, "feed", r -> r.feed(0x64656164, 0x39333030, 0x20312020, 0x20202020, 0x20202020));
        acceptedBehindARefusal(t, "end", r -> r.end(12));
        acceptedBehindARefusal(t, "record", r -> r.record());
        Told.due("dead", x.person(1, 4), 9300);
    }

    private static void acceptedBehindARefusal(Told t, String what, ToIntFunction<HeirRoll> call) {
        t.refused("count(-1)", t.x.count(-1), 3);
        Told.due("refused, " + what, call.applyAsInt(t.x) == HeirRoll.BAD ? 1 : 0, 0);
        Told.due("status of " + what, t.x.status(), 0);
    }

    /** Every number at the ends of what an int can be, for every argument, on an empty roll and a rich one. */
    private static void allEnds() {
        Told.sentence("no call fails, whatever is handed in");
        for (int a : ENDS) {
            for (int b : ENDS) {
                HeirRoll empty = new HeirRoll();
                HeirRoll x = rich().x;
                for (int c : ENDS) {
                    Told.due("three of an empty roll", threes(empty, a, b, c), 5 * HeirRoll.BAD);
                    threes(x, a, b, c);
                }
                Told.due("two of an empty roll", twos(empty, a, b), 6 * HeirRoll.BAD);
                twos(x, a, b);
                Told.due("feed", x.feed(a, b, a, b, a), 20);
                int cut = x.end(a);
                Told.due("end(" + a + ")", cut, a >= 0 && a <= 20 ? a : HeirRoll.BAD);
                Told.due("record of odd bytes", x.record(), HeirRoll.BAD);
                Told.due("status", x.status(), 2);
            }
        }
    }

    private static int threes(HeirRoll x, int a, int b, int c) {
        return x.line(a, b, c) + x.rank(a, b, c) + x.coheir(a, b, c) + x.tenure(a, b, c) + x.holds(a, b, c);
    }

    private static int twos(HeirRoll x, int a, int b) {
        return x.fact(a, b) + x.person(a, b) + x.partner(a, b) + x.kin(a, b) + x.holder(a, b) + x.since(a, b);
    }

    private static void mostCalls() {
        Told.sentence("An object is used for at most 512 calls after it has been made");
        HeirRoll x = new HeirRoll();
        told(x, "born0male of none and none");
        told(x, "title0 0writ");
        int calls = 5;
        while (calls < 508) {
            Told.due("lost", told(x, "lost9 0"), 2 + (calls - 5) / 4);
            Told.due("strike of it", x.strike(x.count(0) - 1), 2);
            calls += 4;
        }
        Told.due("holder", x.holder(0, 99999), 0);
        Told.due("taken", x.count(0), 2 + (calls - 5) / 4);
        Told.due("standing", x.count(1), 2);
        Told.due("calls", calls + 3, 512);
    }
}

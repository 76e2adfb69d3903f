import java.util.ArrayList;
import java.util.List;
import java.util.Random;

/** Random runs of calls, each answer and status held against PlainRoll. */
public final class ModelRuns {
    private static final String[] RULES = {"male", "mixed", "equal", "last", "near", "writ", "writ", "writ"};

    private final Random random;
    private final HeirRoll x = new HeirRoll();
    private final PlainRoll plain = new PlainRoll();
    private final List<String> log = new ArrayList<>();
    private final int seed;
    private int calls = 0;
    private boolean stopped = false;
    /** In hundredths: how many of those born are female; some runs want many daughters. */
    private final int female;
    private final int grain;

    private ModelRuns(int seed) {
        this.seed = seed;
        random = new Random(seed);
        female = 30 + random.nextInt(65);
        grain = random.nextInt(3) == 0 ? 100 : random.nextInt(2) == 0 ? 10 : 1;
    }

    public static void main(String[] args) {
        int runs = args.length > 0 ? Integer.parseInt(args[0]) : 40;
        int first = args.length > 1 ? Integer.parseInt(args[1]) : 0;
        for (int seed = first; seed < first + runs; seed++) new ModelRuns(seed).run();
        if (args.length > 0) System.out.println(PlainRoll.MET);
        Told.finish("ModelRuns");
    }

    private void due(String call, int got, int want) {
        calls++;
        log.add(call + " " + want);
        if (stopped) return;
        if (got == want && x.status() == plain.status && x.place() == plain.place && x.bond() == plain.bond) return;
        stopped = true;
        Told.wrong++;
        System.out.println("run " + seed + ": " + call + " answered " + got + ", due is " + want + "; status " + x.status()
                + ", due is " + plain.status + "; place " + x.place() + ", " + plain.place + "; bond " + x.bond() + ", "
                + plain.bond);
        for (String line : log) if (!line.startsWith("feed") && !line.startsWith("end")) System.out.println("    " + line);
    }

    private int any(int n) {
        return random.nextInt(Math.max(1, n));
    }

    private int day(int from, int spread) {
        int d = from + any(spread);
        return Math.max(0, Math.min(99999, any(5) == 0 ? d : d / grain * grain));
    }

    private void run() {
        int couples = 1 + any(4);
        for (int i = 0; i < 2 * couples; i++) {
            tell("born " + day(0, 600) + (i % 2 == 0 ? " male" : " female") + " of none and none");
        }
        for (int i = 0; i < couples; i++) tell("wed " + day(4700, 500) + " " + 2 * i + " " + (2 * i + 1));
        for (int i = 0; i < 3; i++) tell("title " + day(5000, 1000) + " 0 " + RULES[any(RULES.length)]);
        for (int i = any(6); i > 0; i--) bear();
        while (calls < 505 && !stopped) {
            step();
            for (int i = any(4); i > 0 && calls < 505; i--) ask();
        }
    }

    private void step() {
        int which = any(100);
        if (which < 26) bear();
        else if (which < 44) wed();
        else if (which < 47) part();
        else if (which < 66) die();
        else if (which < 69) grant();
        else if (which < 74) giveUp();
        else if (which < 83) call();
        else if (which < 88) loseOrGiveBack();
        else if (which < 95) strike();
        else spoil();
    }

    /** What already happened makes good days: many things on one day. */
    private int someDay() {
        if (plain.recs.isEmpty()) return day(0, 9000);
        int d = plain.recs.get(any(plain.recs.size())).day;
        return any(2) == 0 ? d : day(d, 1200);
    }

    private int somebody() {
        return any(30) == 0 ? any(70) : any(plain.persons);
    }

    private int born(int p) {
        PlainRoll.Rec b = plain.birth(p);
        return b == null ? 0 : b.day;
    }

    private void bear() {
        String sex = any(100) < female ? " female" : " male";
        List<PlainRoll.Rec> weds = plain.standing(1);
        if (weds.isEmpty() || any(15) == 0) {
            String father = any(2) == 0 ? "none" : "" + somebody();
            String mother = any(2) == 0 ? "none" : "" + somebody();
            tell("born " + day(any(3) * 4000, 3000) + sex + " of " + father + " and " + mother);
            return;
        }
        PlainRoll.Rec wed = weds.get(any(weds.size()));
        int dead = plain.dead(wed.p);
        int d = dead >= 0 && any(4) != 0 ? day(dead, 310) : day(wed.day - (any(9) == 0 ? 50 : 0), 1500);
        tell("born " + d + sex + " of " + wed.p + " and " + (any(20) == 0 ? "none" : "" + wed.q));
    }

    private void wed() {
        int p = somebody();
        int q = somebody();
        for (int i = 0; i < 40 && !couldWed(p, q); i++) {
            p = somebody();
            q = somebody();
        }
        int d = day(Math.max(born(p), born(q)) + 3998, 800);
        tell("wed " + d + " " + p + " " + q);
    }

    private boolean couldWed(int p, int q) {
        PlainRoll.Rec b = plain.birth(p);
        PlainRoll.Rec c = plain.birth(q);
        if (b == null || c == null || !b.male || c.male || Math.abs(b.day - c.day) > 4000) return false;
        int d = Math.max(b.day, c.day) + 4800;
        for (PlainRoll.Rec wed : plain.standing(1)) {
            if ((wed.p == p || wed.q == q) && (plain.open(wed, d) || wed.day > d - 800)) return false;
        }
        return !plain.deadAhead(p, d) && !plain.deadAhead(q, d);
    }

    private void part() {
        List<PlainRoll.Rec> weds = plain.standing(1);
        if (weds.isEmpty()) return;
        PlainRoll.Rec wed = weds.get(any(weds.size()));
        int d = any(3) == 0 ? someDay() : day(wed.day, 1500);
        tell((any(3) == 0 ? "wed " : "part ") + d + " " + wed.p + " " + wed.q);
    }

    private void die() {
        int p = somebody();
        List<PlainRoll.Rec> weds = plain.standing(1);
        int t = title();
        if (any(3) == 0 && plain.grant(t) != null) {
            for (PlainRoll.State s : plain.course(t).values()) if (s.who >= 0 && any(2) == 0) p = s.who;
        } else if (!weds.isEmpty() && any(3) == 0) {
            PlainRoll.Rec wed = weds.get(any(weds.size()));
            tell("dead " + day(wed.day, 1500) + " " + (any(2) == 0 ? wed.p : wed.q));
            return;
        }
        int d = any(3) == 0 ? someDay() : born(p) + 3000 + any(9000);
        tell("dead " + Math.min(99999, d) + " " + p);
    }

    private void grant() {
        int p = any(3) == 0 ? somebody() : any(6);
        List<PlainRoll.Rec> weds = plain.standing(1);
        if (!weds.isEmpty() && any(2) == 0) p = weds.get(any(weds.size())).p;
        tell("title " + day(born(p), any(2) == 0 ? 6000 : 1) + " " + p + " " + RULES[any(RULES.length)]);
    }

    private int title() {
        return any(20) == 0 ? any(9) : any(plain.titles);
    }

    private void giveUp() {
        tell("yield " + someDay() + " " + somebody() + " " + title());
    }

    private void call() {
        int t = title();
        for (int i = 0; i < 8 && !isWrit(t); i++) t = title();
        if (plain.grant(t) == null) return;
        int d = someDay();
        int p = somebody();
        for (PlainRoll.State s : plain.course(t).values()) {
            if (s.who != -2 || any(2) == 0) continue;
            d = any(3) == 0 ? s.since : day(s.since, 800);
            p = any(4) == 0 || s.coheirs.isEmpty() ? somebody() : s.coheirs.get(any(s.coheirs.size()));
        }
        tell("call " + d + " " + p + " " + t);
    }

    private boolean isWrit(int t) {
        return plain.grant(t) != null && plain.grant(t).rule.equals("writ");
    }

    private void loseOrGiveBack() {
        int t = any(2) == 0 ? 0 : title();
        PlainRoll.Rec grant = plain.grant(t);
        int d = any(2) == 0 || grant == null ? someDay() : day(grant.day, 9000);
        tell((any(2) == 0 ? "lost " : "back ") + d + " " + t);
    }

    private void strike() {
        int n = any(20) == 0 ? any(200) - 5 : any(plain.recs.size());
        due("strike(" + n + ")", x.strike(n), plain.strike(n));
    }

    /** A text with a byte changed, gone, or cut off. */
    private void spoil() {
        StringBuilder text = new StringBuilder("born 12 male of " + somebody() + " and none");
        if (any(2) == 0) text = new StringBuilder(" title 7000 " + somebody() + "writ ");
        if (any(3) == 0) text = new StringBuilder("wed 7000 0 1");
        for (int i = any(3); i >= 0; i--) {
            int at = any(text.length());
            if (any(4) == 0) text.setLength(at);
            else if (any(3) == 0 && text.length() > 0) text.deleteCharAt(at);
            else text.insert(at, "a0 9z".charAt(any(5)));
            if (any(6) == 0) text.append((char) any(256));
        }
        tell(text.toString());
    }

    private void tell(String text) {
        for (int from = 0; from < text.length(); from += 20) {
            int[] five = new int[5];
            for (int i = 0; i < 20; i++) {
                int b = from + i < text.length() ? text.charAt(from + i) & 255 : ' ';
                five[i / 4] = five[i / 4] << 8 | b;
            }
            due("feed", x.feed(five[0], five[1], five[2], five[3], five[4]), plain.feed(five));
        }
        if (any(4) == 0) due("end", x.end(text.length()), plain.end(text.length()));
        due("record '" + text + "'", x.record(), plain.record());
    }

    private int askedDay() {
        if (any(60) == 0) return any(2) == 0 ? -1 - any(9) : 100000 + any(9);
        int d = any(20) == 0 ? any(100000) : someDay();
        return Math.max(0, d + any(3) - 1);
    }

    private void ask() {
        int t = any(25) == 0 ? any(11) - 2 : any(plain.titles);
        int p = any(25) == 0 ? any(70) - 3 : any(plain.persons);
        int q = any(25) == 0 ? any(70) - 3 : any(plain.persons);
        int d = askedDay();
        int k = any(5) - (any(10) == 0 ? 2 : 0);
        String at = "(" + t + ", " + p + ", " + q + ", " + d + ", " + k + ")";
        switch (any(16)) {
            case 0: due("person" + at, x.person(p, k + 1), plain.person(p, k + 1)); break;
            case 1: due("partner" + at, x.partner(p, d), plain.partner(p, d)); break;
            case 2: due("kin" + at, x.kin(p, q), plain.kin(p, q)); break;
            case 3: case 4: due("holder" + at, x.holder(t, d), plain.holder(t, d)); break;
            case 5: due("since" + at, x.since(t, d), plain.since(t, d)); break;
            case 6: case 7: due("line" + at, x.line(t, d, k), plain.line3(t, d, k)); break;
            case 8: due("rank" + at, x.rank(t, p, d), plain.rank(t, p, d)); break;
            case 9: case 10: askCoheirs(t, d, k); break;
            case 11: due("tenures" + at, x.tenures(t), plain.tenures(t)); break;
            case 12: askTenures(t); break;
            case 13: due("holds" + at, x.holds(p, d, k), plain.holds(p, d, k)); break;
            case 14: due("count" + at, x.count(k), plain.count(k)); break;
            default: due("fact" + at, x.fact(p, k), plain.fact(p, k)); break;
        }
    }

    private void askCoheirs(int t, int d, int k) {
        int day = d;
        if (plain.grant(t) != null) {
            for (var s : plain.course(t).entrySet()) if (s.getValue().who == -2 && any(2) == 0) day = s.getKey();
        }
        due("coheir(" + t + ", " + day + ", " + k + ")", x.coheir(t, day, k), plain.coheir(t, day, k));
    }

    private void askTenures(int t) {
        int i = any(8) - any(2);
        int what = any(9) == 0 ? any(5) - 2 : any(2);
        due("tenure(" + t + ", " + i + ", " + what + ")", x.tenure(t, i, what), plain.tenure(t, i, what));
    }
}

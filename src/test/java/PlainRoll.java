import java.util.ArrayList;
import java.util.Arrays;
import java.util.Collections;
import java.util.Comparator;
import java.util.LinkedHashSet;
import java.util.List;
import java.util.Set;
import java.util.TreeMap;
import java.util.TreeSet;
import java.util.regex.Matcher;
import java.util.regex.Pattern;

/**
 * The document told a second time, as plainly as can be and with no thought of speed: every answer is
 * worked out from the list of records alone. ModelRuns holds HeirRoll against it.
 */
final class PlainRoll {
    static final int BAD = -9;
    private static final List<String> KINDS = List.of("born", "wed", "part", "dead", "title", "yield", "call", "lost", "back");
    private static final String[] GRAMMAR = {"born DAY SEX of PARENT and PARENT", "wed DAY P Q", "part DAY P Q", "dead DAY P",
        "title DAY P RULE", "yield DAY P T", "call DAY P T", "lost DAY T", "back DAY T"};
    private static final List<String> RULES = List.of("male", "mixed", "equal", "last", "near", "writ");

    static final class Rec {
        int number, kind, day, p = -1, q = -1, f = -1, m = -1, t = -1;
        boolean male, stands = true;
        String rule = "";
        List<Integer> namedPersons = new ArrayList<>();
        List<Integer> namedTitles = new ArrayList<>();
    }

    /** Of a day: who or what, since when, the root, the coheirs. */
    static final class State {
        int who, since, root;
        List<Integer> coheirs = List.of();
    }

    final List<Rec> recs = new ArrayList<>();
    final StringBuilder tape = new StringBuilder();
    int persons = 0;
    int titles = 0;
    int status = 0;
    int place = BAD;
    int bond = 0;
    /** How often each turn of the document was met, so that a run shows what it went through. */
    static final TreeMap<String, Integer> MET = new TreeMap<>();

    static void met(String what) {
        MET.merge(what, 1, Integer::sum);
    }

    int no(int why) {
        status = why;
        return BAD;
    }

    int yes(int answer) {
        status = 0;
        return answer;
    }

    int feed(int... five) {
        if (tape.length() > 60) return no(9);
        for (int n : five) {
            tape.append((char) (n >>> 24)).append((char) (n >>> 16 & 255)).append((char) (n >>> 8 & 255)).append((char) (n & 255));
        }
        return yes(tape.length());
    }

    int end(int n) {
        if (n < 0 || n > tape.length()) return no(3);
        tape.setLength(n);
        return yes(n);
    }

    /** The record of a text, or null, with the place in place. */
    private Rec read(String text) {
        place = BAD;
        List<String> tokens = new ArrayList<>();
        List<Integer> at = new ArrayList<>();
        Matcher match = Pattern.compile("[a-z]+|[0-9]+|[^ ]", Pattern.DOTALL).matcher(text);
        while (match.find()) {
            tokens.add(match.group());
            at.add(match.start());
        }
        tokens.add("");
        at.add(text.length());
        Rec rec = new Rec();
        rec.kind = KINDS.indexOf(tokens.get(0));
        if (rec.kind < 0) {
            place = at.get(0);
            return null;
        }
        String[] want = GRAMMAR[rec.kind].split(" ");
        for (int i = 0; i < want.length; i++) {
            if (!fits(tokens.get(i), want[i], rec)) {
                place = at.get(i);
                return null;
            }
        }
        if (!tokens.get(want.length).isEmpty()) {
            place = at.get(want.length);
            return null;
        }
        return rec;
    }

    private static boolean fits(String token, String want, Rec rec) {
        boolean isNumber = token.matches("[0-9]{1,5}");
        int n = isNumber ? Integer.parseInt(token) : -1;
        switch (want) {
            case "DAY":
                rec.day = n;
                return isNumber;
            case "P":
                rec.p = n;
                rec.namedPersons.add(n);
                return isNumber;
            case "Q":
                rec.q = n;
                rec.namedPersons.add(n);
                return isNumber;
            case "T":
                rec.t = n;
                rec.namedTitles.add(n);
                return isNumber;
            case "SEX":
                rec.male = token.equals("male");
                return rec.male || token.equals("female");
            case "RULE":
                rec.rule = token;
                return RULES.contains(token);
            case "PARENT":
                if (token.equals("none")) {
                    if (!rec.namedPersons.isEmpty() || rec.f == -2) rec.m = -1;
                    else rec.f = -2;
                    return true;
                }
                if (!isNumber) return false;
                if (rec.namedPersons.isEmpty() && rec.f != -2) rec.f = n;
                else rec.m = n;
                rec.namedPersons.add(n);
                return true;
            default:
                return token.equals(want);
        }
    }

    int record() {
        String text = tape.toString();
        tape.setLength(0);
        bond = 0;
        Rec rec = read(text);
        if (rec == null) return no(2);
        if (rec.f == -2) rec.f = -1;
        for (int p : rec.namedPersons) if (birth(p) == null) return no(1);
        for (int t : rec.namedTitles) if (grant(t) == null) return no(1);
        if (recs.size() == 200 || (rec.kind == 0 && persons == 64) || (rec.kind == 4 && titles == 8)) return no(9);
        if (rec.kind == 0) rec.p = persons;
        if (rec.kind == 4) rec.t = titles;
        rec.number = recs.size();
        recs.add(rec);
        bond = brokenBond();
        if (bond != 0) {
            met("bond " + bond);
            recs.remove(rec);
            return no(5);
        }
        if (rec.kind == 0) persons++;
        if (rec.kind == 4) titles++;
        met("taken " + KINDS.get(rec.kind));
        return yes(rec.number);
    }

    int strike(int number) {
        bond = 0;
        if (number < 0 || number >= recs.size()) return no(1);
        Rec rec = recs.get(number);
        if (!rec.stands) return no(8);
        for (Rec e : standing()) {
            if (rec.kind == 0 && e != rec && e.namedPersons.contains(rec.p)) return no(6);
            if (rec.kind == 4 && e != rec && e.namedTitles.contains(rec.t)) return no(6);
        }
        rec.stands = false;
        bond = brokenBond();
        if (bond != 0) {
            met("strike against bond " + bond);
            rec.stands = true;
            return no(5);
        }
        met("struck " + KINDS.get(rec.kind));
        return yes(standing().size());
    }

    List<Rec> standing(int... kinds) {
        List<Rec> some = new ArrayList<>();
        for (Rec e : recs) {
            if (!e.stands) continue;
            if (kinds.length == 0) some.add(e);
            for (int kind : kinds) if (e.kind == kind) some.add(e);
        }
        return some;
    }

    Rec birth(int p) {
        for (Rec e : standing(0)) if (e.p == p) return e;
        return null;
    }

    Rec grant(int t) {
        for (Rec e : standing(4)) if (e.t == t) return e;
        return null;
    }

    int dead(int p) {
        for (Rec e : standing(3)) if (e.p == p) return e.day;
        return -1;
    }

    boolean deadAhead(int p, int x) {
        return dead(p) != -1 && dead(p) < x;
    }

    boolean alive(int p, int x) {
        return birth(p).day <= x && (dead(p) == -1 || dead(p) > x);
    }

    boolean open(Rec wed, int x) {
        if (wed.day > x || deadAhead(wed.p, x) || deadAhead(wed.q, x)) return false;
        int next = 1_000_000;
        for (Rec e : standing(2)) if (e.p == wed.p && e.q == wed.q && e.day > wed.day) next = Math.min(next, e.day);
        return next > x;
    }

    boolean united(int p, int q, int x) {
        for (Rec wed : standing(1)) if (wed.p == p && wed.q == q && open(wed, x)) return true;
        return false;
    }

    private int brokenBond() {
        for (int b = 1; b <= 9; b++) {
            if (b == 7 && twoUnionsOnADay()) return 7;
            for (Rec e : standing()) if (broken(b, e)) return b;
        }
        return 0;
    }

    private boolean twoUnionsOnADay() {
        for (Rec at : standing(1)) {
            for (int p : new int[] {at.p, at.q}) {
                int n = 0;
                for (Rec wed : standing(1)) if ((wed.p == p || wed.q == p) && open(wed, at.day)) n++;
                if (n > 1) return true;
            }
        }
        return false;
    }

    private boolean broken(int b, Rec e) {
        boolean pair = e.kind == 1 || e.kind == 2;
        switch (b) {
            case 1:
                if (e.kind == 0) return e.f >= 0 && !birth(e.f).male || e.m >= 0 && birth(e.m).male;
                return pair && (!birth(e.p).male || birth(e.q).male);
            case 2:
                if (e.kind != 3) return false;
                for (Rec o : standing(3)) if (o != e && o.p == e.p) return true;
                return e.day < birth(e.p).day;
            case 3:
                return e.kind == 0 && e.m >= 0 && (birth(e.m).day + 4000 > e.day || deadAhead(e.m, e.day));
            case 4:
                return e.kind == 0 && e.f >= 0 && (birth(e.f).day + 4000 > e.day || deadAhead(e.f, e.day - 300));
            case 5:
                return pair && (birth(e.p).day + 4000 > e.day || birth(e.q).day + 4000 > e.day || deadAhead(e.p, e.day)
                        || deadAhead(e.q, e.day));
            case 6:
                return pair && !taking(e, new int[] {1, 2});
            case 8:
                if ((e.kind == 4 || e.kind == 5 || e.kind == 6) && (birth(e.p).day > e.day || deadAhead(e.p, e.day))) return true;
                if (e.kind < 5) return false;
                if (e.day < grant(e.t).day || e.kind == 6 && !grant(e.t).rule.equals("writ")) return true;
                for (Rec o : standing(5)) if (e.kind == 5 && o != e && o.p == e.p && o.t == e.t) return true;
                return false;
            case 9:
                return e.kind >= 7 && !taking(e, new int[] {7, 8});
            default:
                return false;
        }
    }

    /** Whether all of a record's pair or title take turns. */
    private boolean taking(Rec one, int[] kinds) {
        List<Rec> all = new ArrayList<>();
        for (Rec e : standing(kinds)) if (e.p == one.p && e.q == one.q && e.t == one.t) all.add(e);
        Comparator<Rec> byDay = Comparator.comparingInt(e -> e.day);
        all.sort(byDay.thenComparing(e -> e.kind == 1 ? 1 : 0));
        for (int i = 0; i < all.size(); i++) {
            if (all.get(i).kind != kinds[i % 2]) return false;
            if (i == 0 || all.get(i).day != all.get(i - 1).day) continue;
            if (all.get(i).kind != 1) return false;
        }
        return true;
    }

    boolean legit(int p) {
        Rec b = birth(p);
        if (b.f < 0 || b.m < 0) return false;
        if (united(b.f, b.m, b.day)) return true;
        for (int y = b.day - 300; y <= b.day; y++) if (y >= 0 && dead(b.f) == y && united(b.f, b.m, y)) return true;
        return false;
    }

    /** The legit children by age, the older first; of the rule male the sons of males alone. */
    List<Integer> children(int p, String rule) {
        List<Rec> some = new ArrayList<>();
        for (Rec e : standing(0)) {
            if ((e.f != p && e.m != p) || !legit(e.p)) continue;
            if (rule.equals("male") && !(e.male && birth(p).male)) continue;
            some.add(e);
        }
        Comparator<Rec> byDay = Comparator.comparingInt(e -> e.day);
        some.sort(byDay.thenComparingInt(e -> e.p));
        List<Integer> numbers = new ArrayList<>();
        for (Rec e : some) numbers.add(e.p);
        return numbers;
    }

    Set<Integer> body(int p, String rule) {
        Set<Integer> all = new TreeSet<>(List.of(p));
        for (int child : children(p, rule)) all.addAll(body(child, rule));
        return all;
    }

    private void walk(int p, String rule, Set<Integer> into) {
        if (!into.add(p)) return;
        List<Integer> children = children(p, rule);
        if (rule.equals("last")) Collections.reverse(children);
        if (rule.equals("last") || rule.equals("equal")) {
            for (int child : children) walk(child, rule, into);
            return;
        }
        for (int child : children) if (birth(child).male) walk(child, rule, into);
        for (int child : children) if (!birth(child).male) walk(child, rule, into);
    }

    private void births(int p, int away, TreeMap<Integer, Integer> into) {
        if (into.containsKey(p) && into.get(p) <= away) return;
        into.put(p, away);
        for (int child : children(p, "near")) births(child, away + 1, into);
    }

    boolean yielded(int p, int t, int x) {
        for (Rec e : standing(5)) if (e.p == p && e.t == t && e.day <= x) return true;
        return false;
    }

    List<Integer> line(int t, int x, int root) {
        String rule = grant(t).rule;
        Set<Integer> order = new LinkedHashSet<>();
        if (rule.equals("near")) {
            TreeMap<Integer, Integer> away = new TreeMap<>();
            births(root, 0, away);
            List<Integer> all = new ArrayList<>(away.keySet());
            all.sort(Comparator.<Integer>comparingInt(away::get).thenComparingInt(p -> birth(p).day).thenComparingInt(p -> p));
            order.addAll(all);
        } else {
            walk(root, rule, order);
        }
        List<Integer> line = new ArrayList<>();
        for (int p : order) {
            if (alive(p, x) && !yielded(p, t, x) && (birth(p).male || !rule.equals("male"))) line.add(p);
        }
        return line;
    }

    /** All states of a title by the days on which something could move it. */
    TreeMap<Integer, State> course(int t) {
        Rec grant = grant(t);
        TreeSet<Integer> days = new TreeSet<>(List.of(grant.day));
        for (Rec e : standing()) {
            boolean moves = e.kind == 0 || e.kind == 3 || (e.kind >= 5 && e.t == t);
            if (moves && e.day > grant.day) days.add(e.day);
        }
        TreeMap<Integer, State> course = new TreeMap<>();
        State now = new State();
        now.who = grant.p;
        now.root = grant.p;
        now.since = grant.day;
        for (int x : days) {
            State next = new State();
            next.who = now.who;
            next.root = now.root;
            next.since = now.since;
            next.coheirs = now.coheirs;
            goThrough(t, x, next);
            if (next.who != now.who) next.since = x;
            course.put(x, next);
            now = next;
        }
        return course;
    }

    private void goThrough(int t, int x, State s) {
        Rec latest = null;
        for (Rec e : standing(7, 8)) if (e.t == t && e.day <= x && (latest == null || e.day > latest.day)) latest = e;
        if (latest != null && latest.kind == 7) {
            s.who = -3;
            return;
        }
        int since = s.since;
        if (latest != null && latest.day == x) {
            pass(t, x, s);
            since = x;
            met("back");
        }
        if (s.who == -1 || s.who == -2 || !alive(s.who, x) || yielded(s.who, t, x)) {
            pass(t, x, s);
        } else {
            bornLate(t, x, s, since);
        }
        if (s.who != -2) return;
        for (Rec e : standing(6)) {
            if (e.t != t || e.day != x || !line(t, x, s.root).contains(e.p)) continue;
            s.who = e.p;
            s.root = e.p;
            met("called out of abeyance");
            return;
        }
    }

    private void bornLate(int t, int x, State s, int since) {
        List<Integer> line = line(t, x, s.root);
        if (!line.contains(s.who)) return;
        for (int p : line.subList(0, line.indexOf(s.who))) {
            Rec b = birth(p);
            if (b.day != x || !legit(p) || !deadAhead(b.f, x)) continue;
            if (since < dead(b.f)) {
                met("born behind the father, but held before");
                continue;
            }
            s.who = p;
            met("born behind the father, and takes it");
            return;
        }
    }

    private void pass(int t, int x, State s) {
        Rec grant = grant(t);
        if (line(t, x, s.root).isEmpty() && s.root != grant.p) {
            s.root = grant.p;
            met("root goes back");
        }
        List<Integer> line = line(t, x, s.root);
        s.coheirs = List.of();
        if (line.isEmpty()) s.who = -1;
        else if (!grant.rule.equals("writ")) s.who = line.get(0);
        else look(s.root, line, s);
        met(grant.rule + " passes to " + (s.who >= 0 ? "one" : s.who == -1 ? "none" : "abeyance of " + s.coheirs.size()));
    }

    private boolean meets(Set<Integer> some, List<Integer> line) {
        return !Collections.disjoint(some, line);
    }

    private void look(int at, List<Integer> line, State s) {
        if (line.contains(at)) {
            s.who = at;
            return;
        }
        for (int child : children(at, "writ")) {
            if (!birth(child).male || !meets(body(child, "writ"), line)) continue;
            look(child, line, s);
            return;
        }
        List<Integer> count = new ArrayList<>();
        List<Integer> coheirs = new ArrayList<>();
        for (int child : children(at, "writ")) {
            if (birth(child).male) continue;
            List<Integer> own = new ArrayList<>(line);
            own.retainAll(body(child, "writ"));
            if (own.isEmpty()) continue;
            for (int older : count) own.removeAll(body(older, "writ"));
            if (own.isEmpty()) {
                met("a daughter that does not count");
                continue;
            }
            count.add(child);
            coheirs.add(own.get(0));
        }
        if (count.size() == 1) {
            look(count.get(0), line, s);
            return;
        }
        s.who = -2;
        s.coheirs = coheirs;
    }

    State stateOn(int t, int day) {
        var entry = course(t).floorEntry(day);
        return entry == null ? null : entry.getValue();
    }

    boolean badDay(int day) {
        return day < 0 || day > 99999;
    }

    int count(int what) {
        int[] all = {recs.size(), standing().size(), persons, titles, tape.length()};
        return what < 0 || what > 4 ? no(3) : yes(all[what]);
    }

    int fact(int number, int what) {
        if (number < 0 || number >= recs.size()) return no(1);
        Rec e = recs.get(number);
        int[] all = {e.kind, e.day, e.stands ? 1 : 0, e.p, e.kind == 1 || e.kind == 2 ? e.q : e.kind >= 4 ? e.t : -1};
        return what < 0 || what > 4 ? no(3) : yes(all[what]);
    }

    int person(int p, int what) {
        Rec b = birth(p);
        if (b == null) return no(1);
        int[] all = {b.male ? 1 : 0, b.day, b.f, b.m, dead(p), legit(p) ? 1 : 0};
        return what < 0 || what > 5 ? no(3) : yes(all[what]);
    }

    int partner(int p, int day) {
        if (birth(p) == null) return no(1);
        if (badDay(day)) return no(3);
        for (Rec wed : standing(1)) if ((wed.p == p || wed.q == p) && open(wed, day)) return yes(wed.p + wed.q - p);
        return yes(-1);
    }

    private TreeMap<Integer, Integer> up(int p) {
        TreeMap<Integer, Integer> all = new TreeMap<>();
        up(p, 0, all);
        return all;
    }

    private void up(int p, int births, TreeMap<Integer, Integer> into) {
        if (p < 0 || into.getOrDefault(p, 1000) <= births) return;
        into.put(p, births);
        up(birth(p).f, births + 1, into);
        up(birth(p).m, births + 1, into);
    }

    int kin(int p, int q) {
        if (birth(p) == null || birth(q) == null) return no(1);
        TreeMap<Integer, Integer> ofQ = up(q);
        int best = 1000;
        for (var e : up(p).entrySet()) if (ofQ.containsKey(e.getKey())) best = Math.min(best, e.getValue() + ofQ.get(e.getKey()));
        return yes(best == 1000 ? -1 : best);
    }

    int holder(int t, int day) {
        if (grant(t) == null) return no(1);
        if (badDay(day)) return no(3);
        State s = stateOn(t, day);
        return yes(s == null ? -4 : s.who);
    }

    int since(int t, int day) {
        if (grant(t) == null) return no(1);
        if (badDay(day)) return no(3);
        State s = stateOn(t, day);
        return yes(s == null ? -1 : s.since);
    }

    private List<Integer> lineOn(int t, int day) {
        State s = stateOn(t, day);
        return line(t, day, s == null ? grant(t).p : s.root);
    }

    int line3(int t, int day, int k) {
        if (grant(t) == null) return no(1);
        if (badDay(day)) return no(3);
        List<Integer> line = lineOn(t, day);
        return k < 0 || k >= line.size() ? no(1) : yes(line.get(k));
    }

    int rank(int t, int p, int day) {
        if (grant(t) == null || birth(p) == null) return no(1);
        if (badDay(day)) return no(3);
        return yes(lineOn(t, day).indexOf(p));
    }

    int coheir(int t, int day, int k) {
        if (grant(t) == null) return no(1);
        if (badDay(day)) return no(3);
        State s = stateOn(t, day);
        if (s == null || s.who != -2 || k < 0 || k >= s.coheirs.size()) return no(1);
        return yes(s.coheirs.get(k));
    }

    private List<State> tenuresOf(int t) {
        List<State> all = new ArrayList<>();
        for (State s : course(t).values()) {
            if (all.isEmpty() || all.get(all.size() - 1).who != s.who) all.add(s);
        }
        return all;
    }

    int tenures(int t) {
        if (grant(t) == null) return no(1);
        return yes(tenuresOf(t).size());
    }

    int tenure(int t, int i, int what) {
        if (grant(t) == null) return no(1);
        List<State> all = tenuresOf(t);
        if (i < 0 || i >= all.size()) return no(1);
        if (what != 0 && what != 1) return no(3);
        return yes(what == 0 ? all.get(i).who : all.get(i).since);
    }

    int holds(int p, int day, int k) {
        if (birth(p) == null) return no(1);
        if (badDay(day)) return no(3);
        List<Integer> held = new ArrayList<>();
        for (int t = 0; t < titles; t++) {
            if (grant(t) == null) continue;
            State s = stateOn(t, day);
            if (s != null && s.who == p) held.add(t);
        }
        return k < 0 || k >= held.size() ? no(1) : yes(held.get(k));
    }

    @Override
    public String toString() {
        return Arrays.toString(recs.stream().map(e -> e.number + " " + KINDS.get(e.kind) + " " + e.day).toArray());
    }
}

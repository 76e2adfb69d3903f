/** A roll to which records are told as texts, with answers held against those that are due. */
final class Told {
    static final String MAN = "born 0 male of none and none";
    static final String WOMAN = "born 0 female of none and none";
    static int wrong = 0;
    private static String sentence = "";
    final HeirRoll x = new HeirRoll();

    /** Tells a text in as few feeds as it takes; ends the tape only where blanks behind are not wanted. */
    int tell(String text) {
        type(text);
        return x.record();
    }

    /** As tell, without a call of end: for long runs that must stay within 512 calls. */
    int tellPadded(String text) {
        feed(text);
        return x.record();
    }

    void type(String text) {
        feed(text);
        x.end(text.length());
    }

    private void feed(String text) {
        for (int from = 0; from < text.length(); from += 20) {
            x.feed(four(text, from), four(text, from + 4), four(text, from + 8), four(text, from + 12),
                    four(text, from + 16));
        }
    }

    private static int four(String text, int from) {
        int value = 0;
        for (int i = from; i < from + 4; i++) {
            value = value << 8 | (i < text.length() ? text.charAt(i) & 255 : ' ');
        }
        return value;
    }

    /** Tells texts that must all be taken. */
    Told with(String... texts) {
        for (String text : texts) {
            if (tell(text) == HeirRoll.BAD) {
                wrong++;
                System.out.println("not taken: '" + text + "', status " + x.status() + ", bond " + x.bond() + sentence);
            }
        }
        return this;
    }

    /** The sentence of the document that the answers behind it are asked for. */
    static void sentence(String words) {
        sentence = " (" + words + ")";
    }

    static void due(String what, int got, int want) {
        if (got == want) return;
        wrong++;
        System.out.println(what + " answered " + got + ", due is " + want + sentence);
    }

    /** A call that must be refused for a reason. */
    void refused(String what, int got, int why) {
        due(what, got, HeirRoll.BAD);
        due(what + ": status", x.status(), why);
    }

    void breaks(String text, int bond) {
        int standing = x.count(1);
        refused("'" + text + "'", tell(text), 5);
        due("'" + text + "': bond", x.bond(), bond);
        due("'" + text + "': standing", x.count(1), standing);
    }

    void taken(String text) {
        int number = x.count(0);
        due("'" + text + "'", tell(text), number);
        due("'" + text + "': status", x.status(), 0);
        due("'" + text + "': bond", x.bond(), 0);
    }

    void strikeBreaks(int record, int bond) {
        refused("strike(" + record + ")", x.strike(record), 5);
        due("strike(" + record + "): bond", x.bond(), bond);
        due("strike(" + record + "): still stands", x.fact(record, 2), 1);
    }

    void person(int p, int sex, int born, int father, int mother, int dead, int legit) {
        int[] want = {sex, born, father, mother, dead, legit};
        for (int what = 0; what < 6; what++) {
            due("person(" + p + ", " + what + ")", x.person(p, what), want[what]);
        }
    }

    void facts(int record, int kind, int day, int stands, int p, int other) {
        int[] want = {kind, day, stands, p, other};
        for (int what = 0; what < 5; what++) {
            due("fact(" + record + ", " + what + ")", x.fact(record, what), want[what]);
        }
    }

    void line(int title, int day, int... persons) {
        for (int k = 0; k < persons.length; k++) {
            due("line(" + title + ", " + day + ", " + k + ")", x.line(title, day, k), persons[k]);
            due("rank(" + title + ", " + persons[k] + ", " + day + ")", x.rank(title, persons[k], day), k);
        }
        refused("line(" + title + ", " + day + ", " + persons.length + ")", x.line(title, day, persons.length), 1);
        refused("line(" + title + ", " + day + ", -1)", x.line(title, day, -1), 1);
    }

    void holder(int title, int day, int want) {
        due("holder(" + title + ", " + day + ")", x.holder(title, day), want);
        due("status of holder", x.status(), 0);
    }

    void coheirs(int title, int day, int... persons) {
        for (int k = 0; k < persons.length; k++) {
            due("coheir(" + title + ", " + day + ", " + k + ")", x.coheir(title, day, k), persons[k]);
        }
        refused("coheir(" + title + ", " + day + ", " + persons.length + ")",
                x.coheir(title, day, persons.length), 1);
        refused("coheir(" + title + ", " + day + ", -1)", x.coheir(title, day, -1), 1);
    }

    /** All tenures of a title: who, from when, who, from when, .. */
    void tenures(int title, int... want) {
        int n = want.length / 2;
        due("tenures(" + title + ")", x.tenures(title), n);
        for (int i = 0; i < n; i++) {
            due("tenure(" + title + ", " + i + ", 0)", x.tenure(title, i, 0), want[2 * i]);
            due("tenure(" + title + ", " + i + ", 1)", x.tenure(title, i, 1), want[2 * i + 1]);
            int last = i + 1 < n ? want[2 * i + 3] - 1 : 99999;
            due("holder at the first day of tenure " + i, x.holder(title, want[2 * i + 1]), want[2 * i]);
            due("holder at the last day of tenure " + i, x.holder(title, last), want[2 * i]);
            due("since at the first day of tenure " + i, x.since(title, want[2 * i + 1]), want[2 * i + 1]);
            due("since at the last day of tenure " + i, x.since(title, last), want[2 * i + 1]);
        }
        if (n > 0 && want[1] > 0) {
            due("holder ahead of all tenures", x.holder(title, want[1] - 1), -4);
            due("since ahead of all tenures", x.since(title, want[1] - 1), -1);
        }
        refused("tenure behind the last", x.tenure(title, n, 0), 1);
        refused("tenure ahead of the first", x.tenure(title, -1, 0), 1);
    }

    /** The end of a test: how it went, and the exit code 1 if something was wrong. */
    static void finish(String test) {
        System.out.println(test + ": " + (wrong == 0 ? "all answers are as due" : wrong + " answers are not as due"));
        if (wrong != 0) System.exit(1);
    }
}

/** Terms 1 and promises 1 to 5, sentence by sentence: what each names as too small, too large, empty or full. */
public final class TextEdges {
    private static final String[] TEXTS = {"born 5000 male of 0 and 1", "born 5000 female of none and none",
        "wed 5000 0 1", "part 5000 0 1", "dead 5000 0", "title 5000 0 male", "title 5000 0 mixed", "title 5000 0 equal",
        "title 5000 0 last", "title 5000 0 near", "title 5000 0 writ", "yield 5000 0 0", "call 5000 0 0", "lost 5000 0",
        "back 5000 0"};

    public static void main(String[] args) {
        fullTape();
        textOfAllBytes();
        highestByteFirst();
        bytesOfAllValues();
        digits();
        days();
        longestWords();
        blanks();
        lacking();
        cannotStand();
        nothingBehind();
        firstFault();
        newObject();
        ends();
        emptyBehindRecord();
        places();
        Told.finish("TextEdges");
    }

    private static void wrongAt(String text, int place) {
        Told t = new Told();
        t.refused("'" + text + "'", t.tell(text), 2);
        Told.due("'" + text + "': place", t.x.place(), place);
        Told.due("'" + text + "': bytes", t.x.count(4), 0);
        Told.due("'" + text + "': records", t.x.count(0), 0);
    }

    private static Told couple() {
        return new Told().with(Told.MAN, Told.WOMAN);
    }

    private static void fullTape() {
        Told.sentence("The TAPE has up to 80 bytes; feed: 9: these would be more than 80");
        for (int n = 0; n <= 80; n++) {
            Told t = new Told();
            for (int i = 1; i <= 4; i++) Told.due("feed " + i, t.x.feed(0, 0, 0, 0, 0), 20 * i);
            Told.due("end(" + n + ")", t.x.end(n), n);
            if (n <= 60) {
                Told.due("feed on " + n, t.x.feed(-1, -1, -1, -1, -1), n + 20);
                Told.due("status of feed on " + n, t.x.status(), 0);
                Told.due("bytes behind feed on " + n, t.x.count(4), n + 20);
            } else {
                t.refused("feed on " + n, t.x.feed(-1, -1, -1, -1, -1), 9);
                Told.due("bytes behind feed on " + n, t.x.count(4), n);
            }
        }
    }

    private static void textOfAllBytes() {
        Told.sentence("The TAPE has up to 80 bytes; a refused call changes nothing else");
        int blanks = 0x20202020;
        int letters = 0x78787878;
        Told t = couple();
        t.type("wed 5000" + " ".repeat(71) + "0");
        t.refused("feed on a full tape", t.x.feed(blanks, blanks, blanks, blanks, blanks), 9);
        t.refused("a text that lacks a person", t.x.record(), 2);
        Told.due("place", t.x.place(), 80);
        t.type("wed 5000 0" + " ".repeat(69) + "1");
        t.refused("feed on a full tape", t.x.feed(letters, letters, letters, letters, letters), 9);
        Told.due("bytes", t.x.count(4), 80);
        Told.due("a record of 80 bytes", t.x.record(), 2);
        t.facts(2, 1, 5000, 1, 0, 1);
    }

    private static void highestByteFirst() {
        Told.sentence("The twenty bytes of five ints, the highest of each first, come to the TAPE");
        for (int i = 0; i < 80; i++) {
            wrongAt(" ".repeat(i) + ".", i);
            wrongAt(" ".repeat(i) + (char) 255 + "x".repeat(79 - i), i);
        }
        wrongAt(" ".repeat(80), 80);
    }

    private static void bytesOfAllValues() {
        Told.sentence("BLANKS are 32; WORDS: rows of a .. z; NUMBERS: rows of digits; WRONG at a byte that begins none");
        for (int b = 0; b < 256; b++) {
            boolean isBlank = b == 32;
            boolean isDigit = b >= '0' && b <= '9';
            boolean isLetter = b >= 'a' && b <= 'z';
            String what = "byte " + b;
            Told t = couple();
            Told.due(what, t.tell("dead 0" + (char) b + "0"), isBlank ? 2 : HeirRoll.BAD);
            Told.due(what + ": place", t.x.place(), isBlank ? HeirRoll.BAD : isDigit ? 8 : 6);
            wrongAt("born" + (char) b, isBlank || isDigit ? 5 : isLetter ? 0 : 4);
        }
    }

    private static void digits() {
        Told.sentence("NUMBERS: rows of digits, 5 at most; a NUMBER of more digits can't stand");
        String[] fit = {"0", "1", "00", "01", "000", "001", "0000", "0001", "00000", "00001"};
        for (int i = 0; i < fit.length; i++) {
            Told t = couple();
            t.taken("dead 9000 " + fit[i]);
            Told.due("person " + fit[i], t.x.fact(2, 3), i % 2);
            t.taken("born " + fit[i] + " male of none and none");
            Told.due("day " + fit[i], t.x.fact(3, 1), i % 2);
            t.taken(i % 2 == 0 ? "born 5000 male of " + fit[i] + " and none" : "born 5000 male of none and " + fit[i]);
            Told.due("parent " + fit[i], t.x.person(3, 2 + i % 2), i % 2);
        }
        String[] over = {"000000", "000001", "100000", "999999", "00000000000000000000", "4294967296", "2147483648",
            "9999999999999999999999999"};
        for (String number : over) {
            wrongAt("dead " + number + " 0", 5);
            wrongAt("dead 9000 " + number, 10);
            wrongAt("wed 9000 0 " + number, 11);
            wrongAt("lost 9000 " + number, 10);
            wrongAt("born 9000 male of " + number + " and none", 18);
            wrongAt("born 9000 male of none and " + number, 27);
        }
    }

    private static void days() {
        Told.sentence("DAYS are 0 .. 99999");
        Told t = new Told().with(Told.MAN, "born 99999 male of none and none", "title 0 0 writ", "yield 0 0 0", "call 0 0 0",
                "lost 0 0", "back 99999 0", Told.WOMAN, "wed 99998 0 2", "part 99999 0 2", "dead 99999 0", "dead 99999 1");
        int[] due = {0, 99999, 0, 0, 0, 0, 99999, 0, 99998, 99999, 99999, 99999};
        for (int i = 0; i < due.length; i++) Told.due("day of record " + i, t.x.fact(i, 1), due[i]);
        Told u = new Told().with(Told.MAN, "dead 0 0");
        Told.due("dead on day 0", u.x.person(0, 4), 0);
        wrongAt("dead 100000 0", 5);
        wrongAt("dead -1 0", 5);
    }

    private static void longestWords() {
        Told.sentence("WORDS and NUMBERS: each as long as it can be");
        wrongAt("bornmale", 0);
        wrongAt("bornborn 0 male of none and none", 0);
        wrongAt("born 0 maleof none and none", 7);
        wrongAt("born 0 male ofnone and none", 12);
        wrongAt("born 0 male of noneand none", 15);
        wrongAt("born 0 male of none andnone", 20);
        wrongAt("born 0 male of none and nonenone", 24);
        wrongAt("title 0 0 writwrit", 10);
        wrongAt("wed 5000 01", 11);
        wrongAt("wed 50000 1", 11);
        wrongAt("wed500001", 3);
        wrongAt("dead 9000000", 5);
    }

    private static void blanks() {
        Told.sentence("with any BLANKS ahead and behind (none are wanted between a WORD and a NUMBER)");
        Told t = new Told();
        t.taken("born0male of none and none");
        t.taken("born0female of none and none" + " ".repeat(52));
        t.taken(" ".repeat(69) + "wed5000 0 1");
        t.taken("born" + " ".repeat(28) + "5000" + " ".repeat(27) + "male of0and1 ");
        t.taken("title5000 0" + " ".repeat(65) + "writ");
        t.taken("title5000 0writ");
        t.taken("yield5000 0 0");
        t.taken("call5000 0 0");
        t.taken("lost5000 0");
        t.taken("back6000 0");
        t.taken("part6000 0 1");
        t.taken("dead6000 0");
        t.person(2, 1, 5000, 0, 1, -1, 1);
    }

    /** The texts cut off behind each of their parts, with blanks and without. */
    private static void lacking() {
        Told.sentence("WRONG, where something lacks, at the TAPE's length");
        for (String text : TEXTS) {
            String[] parts = text.split(" ");
            StringBuilder cut = new StringBuilder();
            for (String part : parts) {
                String begun = cut.toString();
                for (int blanks : new int[] {0, 1, 3, 80}) {
                    String padded = begun + " ".repeat(Math.min(blanks, 80 - begun.length()));
                    wrongAt(padded, padded.length());
                }
                cut.append(cut.length() == 0 ? "" : " ").append(part);
            }
        }
    }

    /** Each part of each text changed into one that can't stand there. */
    private static void cannotStand() {
        Told.sentence("WRONG at the first byte of the first WORD or NUMBER that can't stand there, at a byte that begins none");
        for (String text : TEXTS) {
            String[] parts = text.split(" ");
            String begun = "";
            for (int i = 0; i < parts.length; i++) {
                StringBuilder rest = new StringBuilder();
                for (int j = i + 1; j < parts.length; j++) rest.append(' ').append(parts[j]);
                for (String misfit : misfits(parts[i], i > 3)) wrongAt(begun + misfit + rest, begun.length());
                begun = begun + parts[i] + " ";
            }
        }
    }

    private static String[] misfits(String part, boolean isParent) {
        if (part.matches("[0-9]+") || part.equals("none")) {
            return new String[] {"x", "123456", "and", isParent ? "nones" : "none", isParent ? "non" : "male", ".", "-1", "N"};
        }
        return new String[] {"7", "zzz", part + "s", "s" + part, part.substring(0, part.length() - 1), part.substring(1), ".",
            part.toUpperCase()};
    }

    private static void nothingBehind() {
        Told.sentence("A text is one RECORD, with nothing behind");
        for (String text : TEXTS) {
            for (String more : new String[] {"7", "x", ".", "none", text}) {
                wrongAt(text + " " + more, text.length() + 1);
                wrongAt(text + "   " + more, text.length() + 3);
            }
            wrongAt(text + ".", text.length());
            boolean endsInDigit = Character.isDigit(text.charAt(text.length() - 1));
            wrongAt(text + (endsInDigit ? "x" : "7"), text.length());
            String padded = text + " ".repeat(79 - text.length());
            wrongAt(padded + "7", 79);
        }
    }

    private static void firstFault() {
        Told.sentence("WRONG at the first");
        wrongAt("bern . male", 0);
        wrongAt(". bern", 0);
        wrongAt("born . 123456", 5);
        wrongAt("born 123456 .", 5);
        wrongAt("born 5 mole . none", 7);
        wrongAt("wed 5000 x", 9);
        wrongAt("wed 5000 123456", 9);
        wrongAt("title 5000 0 writ 123456 .", 18);
        wrongAt("dead 5000 0 . x", 12);
    }

    private static void newObject() {
        Told.sentence("Nothing is told; an empty TAPE");
        HeirRoll x = new HeirRoll();
        for (int what = 0; what < 5; what++) Told.due("count(" + what + ")", x.count(what), 0);
        Told.sentence("place: BAD ahead of one");
        Told.due("place", new HeirRoll().place(), -9);
        Told.sentence("bond: 0 ahead of any");
        Told.due("bond", new HeirRoll().bond(), 0);
        Told.sentence("status: 0 ahead of any call");
        Told.due("status", new HeirRoll().status(), 0);
        Told.sentence("Nothing is told; an empty TAPE");
        Told t = new Told();
        t.refused("end(1)", t.x.end(1), 3);
        Told.due("end(0)", t.x.end(0), 0);
        t.refused("record", t.x.record(), 2);
        Told.due("place of an empty tape", t.x.place(), 0);
        Told.due("feed", t.x.feed(0, 0, 0, 0, 0), 20);
    }

    private static void ends() {
        Told.sentence("The TAPE keeps its first n bytes: n. 3: n is below 0 or above what it has");
        for (int has = 0; has <= 80; has += 20) {
            for (int n = 0; n <= has; n++) {
                Told t = new Told();
                for (int i = 0; i < has; i += 20) t.x.feed(0, 0, 0, 0, 0);
                int[] off = {-1, Integer.MIN_VALUE, has + 1, 81, Integer.MAX_VALUE, -has - 1};
                for (int m : off) t.refused("end(" + m + ") of " + has, t.x.end(m), 3);
                Told.due("bytes", t.x.count(4), has);
                Told.due("end(" + n + ") of " + has, t.x.end(n), n);
                Told.due("status", t.x.status(), 0);
                Told.due("bytes", t.x.count(4), n);
                t.refused("end(" + (n + 1) + ") of " + n, t.x.end(n + 1), 3);
            }
        }
        Told t = new Told();
        t.type("dead 5000 00000000000000000000000000000");
        t.x.end(8);
        t.x.feed(0x37202020, 0x20202020, 0x20202020, 0x20202020, 0x302e2020);
        t.refused("what is fed comes behind the bytes kept", t.x.record(), 2);
        Told.due("place", t.x.place(), 25);
    }

    private static void emptyBehindRecord() {
        Told.sentence("record: the TAPE is empty behind the call, taken or refused");
        Told t = new Told();
        Told.due("taken", t.tellPadded(Told.MAN), 0);
        Told.due("bytes", t.x.count(4), 0);
        t.refused("2", t.tellPadded("dead 5000 0 0"), 2);
        Told.due("bytes", t.x.count(4), 0);
        t.refused("1", t.tellPadded("dead 5000 1"), 1);
        Told.due("bytes", t.x.count(4), 0);
        t.refused("5", t.tellPadded("born 3999 male of 0 and none"), 5);
        Told.due("bytes", t.x.count(4), 0);
        for (int i = 0; i < 8; i++) t.tellPadded("title 0 0 male");
        t.refused("9", t.tellPadded("title 0 0 male"), 9);
        Told.due("bytes", t.x.count(4), 0);
        t.refused("again", t.x.record(), 2);
        Told.due("place", t.x.place(), 0);
    }

    private static void places() {
        Told.sentence("place: where the latest text that was read was WRONG; BAD if it was not");
        Told t = new Told();
        t.x.feed(0, 0, 0, 0, 0);
        Told.due("ahead of any text that was read", t.x.place(), -9);
        t.refused("wrong", t.x.record(), 2);
        Told.due("place 0 is not BAD", t.x.place(), 0);
        t.taken(Told.MAN);
        Told.due("of a record that was taken", t.x.place(), -9);
        t.tell("dead 0 0 .");
        Told.due("of a wrong text", t.x.place(), 9);
        t.type("dead 5000 0");
        t.x.strike(0);
        t.x.strike(0);
        t.x.count(0);
        Told.due("while no other text was read", t.x.place(), 9);
        t.refused("nobody", t.x.record(), 1);
        Told.due("of a right text that names nobody", t.x.place(), -9);
        t.taken("born 0 male of none and none");
        t.tell(".");
        t.breaks("born 3999 male of 1 and none", 4);
        Told.due("of a right text that breaks a bond", t.x.place(), -9);
        for (int i = 0; i < 8; i++) t.tell("title 0 1 male");
        t.tell(".");
        t.refused("no room", t.tell("title 0 1 male"), 9);
        Told.due("of a right text without room", t.x.place(), -9);
    }
}

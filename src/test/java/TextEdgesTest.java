/** Promises 1 to 6 at their edges: each method holds the document to one sentence that names a boundary case. */
public final class TextEdgesTest {
    private static final int NONE = Checks.NONE;
    private static final int VOID = Checks.VOID;
    private static final int LEAST = Integer.MIN_VALUE;
    private static final int GREATEST = Integer.MAX_VALUE;
    private static final Checks checks = new Checks();

    public static void main(String[] args) {
        newObjectHasNothing();
        objectsShareNothing();
        atMost120Bytes();
        feedBeyond120IsRefused();
        fedBytesAreTheHighestFirst();
        endOfSoManyBytes();
        endIsRefused();
        bytesAtEachPlace();
        numbersAreAsLongAsCanBe();
        anyBlanksBetween();
        noneOrOneMinus();
        anyNumberOfParts();
        lettersAreNew();
        sameLetterAgain();
        numbersTo9999();
        twoToFourForms();
        faultIsTheFirstOne();
        textsThatEndTooEarly();
        constants();
        atMostSixRules();
        ruleWithAFaultIsRefused();
        toldOfOthers();
        checks.close();
    }

    private static void fault(String text, int want) {
        checks.due("fault of '" + text + "'", Checks.faultOf(text), want);
    }

    /** "No RULES; NOW is 0." */
    private static void newObjectHasNothing() {
        ThreadCharts x = new ThreadCharts();
        seenAsNew(x);
        checks.due("told", x.told(0, 0), VOID);
        checks.due("range", x.range(0, 0, 0, 1, 2), NONE);
        checks.due("mark", x.mark(0, 0, 0), VOID);
        checks.due("chart", x.chart(0, 12, 100, 101, 0, 0), NONE);
        checks.due("reading", x.reading(0, 0), false);
        checks.due("read", x.read(0, 0), VOID);
        checks.due("lead", x.lead(0, 0), VOID);
        checks.due("span", x.span(0, true), VOID);
        checks.due("page", x.page(0, 0, 0), NONE);
        checks.due("sharpest", x.sharpest(0, 0, 0), NONE);
        checks.due("finest", x.finest(0, 10, 0), NONE);
        checks.due("paper", x.paper(0, 0, 0, 0), false);
        checks.due("swelled", x.swelled(0, 0, false), VOID);
        checks.due("move", x.move(0, 1, 0, 0), NONE);
        checks.due("report", x.report(0, 0), NONE);
        checks.due("due", x.due(0, 0, 0), VOID);
        checks.due("habit without any", x.habit(0), 0);
        checks.due("suspects", x.suspects(0, 0, 0), NONE);
        checks.due("clear", x.clear(), 0);
        checks.due("rule", x.rule(), NONE);
        checks.due("fault", x.fault(), 0);
        checks.due("end(1)", x.end(1), false);
        checks.due("end(0)", x.end(0), true);
        checks.due("go(0)", x.go(0), 0);
        seenAsNew(x);
    }

    private static void seenAsNew(ThreadCharts x) {
        for (int what = 0; what < 7; what++) {
            checks.due("count(" + what + ")", x.count(what), 0);
        }
        checks.due("count(7)", x.count(7), NONE);
    }

    /** A new object is new, whatever came to others. */
    private static void objectsShareNothing() {
        ThreadCharts full = Houses.brimful();
        seenAsNew(new ThreadCharts());
        checks.due("the full one stays", full.count(1), 6);
    }

    /** "A TEXT has at most 120 bytes." "how many there are; NONE if there would be more than 120." */
    private static void atMost120Bytes() {
        for (int n = 0; n <= 120; n++) {
            ThreadCharts x = new ThreadCharts();
            for (int i = 0; i < 6; i++) {
                x.feed(0, 0, 0, 0, 0);
            }
            x.end(n);
            checks.due("feed behind " + n, x.feed(0, 0, 0, 0, 0), n <= 100 ? n + 20 : NONE);
            checks.due("bytes behind " + n, x.count(6), n <= 100 ? n + 20 : n);
        }
    }

    private static void feedBeyond120IsRefused() {
        Refusals at120 = new Refusals(checks, Houses::brimful);
        at120.none("feed at 120", x -> x.feed(0x20202020, 0x20202020, 0x20202020, 0x20202020, 0x20202020));
        at120.none("feed at 120", x -> x.feed(-1, LEAST, GREATEST, 0, -1));
        Refusals at101 = new Refusals(checks, () -> {
            ThreadCharts x = Houses.open();
            Checks.tell(x, Houses.fullText());
            x.end(101);
            return x;
        });
        at101.none("feed at 101", x -> x.feed(-1, -1, -1, -1, -1));
        ThreadCharts x = new ThreadCharts();
        Checks.tell(x, Houses.fullText());
        checks.due("feed", x.feed(-1, -1, -1, -1, -1), NONE);
        checks.due("fault of 120 bytes", x.fault(), NONE);
        checks.due("rule of 120 bytes", x.rule(), 0);
        checks.due("its CONSTANT", x.told(0, 1), 57);
        checks.due("the TEXT is empty", x.feed(0, 0, 0, 0, 0), 20);
    }

    /** "of each number the highest first": also of numbers below 0, whose bytes are 128 and more. */
    private static void fedBytesAreTheHighestFirst() {
        for (int place = 0; place < 20; place++) {
            for (int wrong : new int[] {255, 128, 0xA0, 0xE3, 127, 0}) {
                int[] words = {0x20202020, 0x20202020, 0x20202020, 0x20202020, 0x20202020};
                int shift = 24 - place % 4 * 8;
                words[place / 4] = words[place / 4] & ~(255 << shift) | wrong << shift;
                ThreadCharts x = new ThreadCharts();
                x.feed(words[0], words[1], words[2], words[3], words[4]);
                checks.due("byte " + wrong + " at " + place, x.fault(), place);
            }
        }
    }

    /** "The TEXT has its first n bytes alone: true" */
    private static void endOfSoManyBytes() {
        for (int n = 0; n <= 120; n++) {
            ThreadCharts x = new ThreadCharts();
            Checks.tell(x, Houses.fullText());
            checks.due("end(" + n + ")", x.end(n), true);
            checks.due("bytes", x.count(6), n);
            checks.due("fault of " + n, x.fault(), n == 120 ? NONE : n);
            checks.due("one more than there are", x.end(n + 1), false);
            checks.due("as many as there are", x.end(n), true);
        }
        ThreadCharts x = new ThreadCharts();
        Checks.tell(x, "c=a+b;zz");
        x.end(5);
        x.feed(0x2D393B20, 0x20202020, 0x20202020, 0x20202020, 0x20202020);
        checks.due("new bytes come behind the first 5", x.fault(), NONE);
        x.rule();
        checks.due("c=a+b-9;", x.told(0, 1), -9);
    }

    /** "false if it has not so many, or n is below 0." */
    private static void endIsRefused() {
        Refusals open = new Refusals(checks, Houses::open);
        int bytes = Houses.open().count(6);
        for (int n : new int[] {-1, LEAST, bytes + 1, 120, 121, GREATEST}) {
            open.no("end(" + n + ")", x -> x.end(n));
        }
        Refusals full = new Refusals(checks, Houses::brimful);
        full.no("end(121)", x -> x.end(121));
        full.no("end(-1)", x -> x.end(-1));
    }

    /** "TOKENS are letters a to z .., numbers of digits .., and = + - * / ;": each of 256 bytes where each may stand. */
    private static void bytesAtEachPlace() {
        for (char b = 0; b < 256; b++) {
            boolean letter = b >= 'a' && b <= 'z';
            boolean digit = b >= '0' && b <= '9';
            boolean fresh = letter && b > 'c';
            int first = b == 'c' || fresh ? NONE : b == 'a' ? 2 : b == 'b' ? 4 : b == '/' || b == ' ' ? 1 : 0;
            fault(b + "=a+b;", first);
            fault("c=a" + b + "b;", b == '+' || b == '-' ? NONE : b == '*' || b == ' ' ? 4 : 3);
            fault("c=a+b" + b, b == ';' ? NONE : b == '+' || b == '-' || b == '*' || b == ' ' ? 6 : 5);
            fault("c=a+b+" + b + ";", digit || fresh ? NONE : b == '/' || b == ' ' ? 7 : 6);
            fault("c=a+b;" + b, b == ' ' ? NONE : 6);
            fault("c=" + b + "a+b;", b == '-' || b == '/' || b == ' ' ? NONE : letter && b != 'c' ? 3 : 2);
            fault("c=a+d*" + b + ";", b == 'd' ? NONE : b == ' ' ? 7 : 6);
            fault("c=a+/" + b + ";", fresh || b == 'b' ? NONE : b == ' ' ? 6 : 5);
        }
    }

    /** "numbers of digits (as long as can be)" */
    private static void numbersAreAsLongAsCanBe() {
        fault("c=a+b+1 2;", 8);
        fault("c=a+b+12;", NONE);
        fault("c=a+b+" + "0".repeat(113) + ";", NONE);
        fault("c=a+b+" + "0".repeat(109) + "9999;", NONE);
        fault("c=a+b+" + "0".repeat(108) + "10000;", 6);
        fault("c=a+b+" + "9".repeat(114), 6);
        fault("c=a+b+" + "0".repeat(114), 120);
        ThreadCharts x = Checks.withRule("c=a+b+" + "0".repeat(109) + "9999;");
        checks.due("one number of 113 digits", x.told(0, 1), 9999);
    }

    /** "with any blanks (32) between" */
    private static void anyBlanksBetween() {
        String[] tokens = {"c", "*", "c", "=", "-", "/", "a", "-", "b", "*", "b", "+", "9999", ";"};
        String all = String.join("", tokens);
        String one = String.join(" ", tokens);
        String many = String.join("       ", tokens);
        fault(all, NONE);
        fault(one, NONE);
        fault(many, NONE);
        for (int i = 1; i < tokens.length; i++) {
            StringBuilder b = new StringBuilder();
            for (int t = 0; t < tokens.length; t++) {
                b.append(t == i ? "  " : "").append(tokens[t]);
            }
            fault(b.toString(), NONE);
            fault(b.toString().replace("  ", " \t"), b.indexOf("  ") + 1);
            fault(b.toString().replace("  ", (char) 31 + " "), b.indexOf("  "));
            fault(b.toString().replace("  ", (char) 33 + " "), b.indexOf("  "));
        }
        fault(" ".repeat(114) + "c=a+b;", NONE);
        fault("c=a+b;" + " ".repeat(114), NONE);
        fault(" ".repeat(120), 120);
    }

    /** "{ } is none or one": a - behind =, and nowhere else two signs. */
    private static void noneOrOneMinus() {
        fault("c=a+b;", NONE);
        fault("c=-a+b;", NONE);
        fault("c=--a+b;", 3);
        fault("c=+a+b;", 2);
        fault("c=-+a+b;", 3);
        fault("-c=a+b;", 0);
        fault("c=a--b;", 4);
        fault("c=-7+a+b;", 3);
    }

    /** "then any number of + FORM, - FORM, + N, - N": from none to as many as 120 bytes hold. */
    private static void anyNumberOfParts() {
        for (int many = 0; many <= 57; many++) {
            ThreadCharts x = Checks.withRule("c=a-b" + "-1".repeat(many) + ";");
            checks.due("- 1, " + many + " times", x.told(0, 1), -many);
        }
        fault("c=a" + "+1".repeat(57) + "+b;", NONE);
        fault("c=a" + "+1".repeat(58) + ";", 119);
    }

    /** "W is a letter that is new in the TEXT" */
    private static void lettersAreNew() {
        fault("c=c+b;", 2);
        fault("c=-c+b;", 3);
        fault("c=/c+b;", 3);
        fault("c=a+c;", 4);
        fault("c=a+a;", 4);
        fault("c=a+a*a;", 4);
        fault("c=a*a+/a;", 7);
        fault("/c=a+b+d+c;", 9);
        fault("c=a+b+d+e-e;", 10);
        fault("z=y+a;", NONE);
        fault("a=z+m;", NONE);
    }

    /** "W * W (the same letter again)" */
    private static void sameLetterAgain() {
        fault("c*c=a+b;", NONE);
        fault("c*d=a+b;", 2);
        fault("c=a*c+b;", 4);
        fault("c=a*b+b;", 4);
        fault("c=a+b*b;", NONE);
        fault("c=a+b*a;", 6);
        fault("c=a+b*b*b;", 7);
        fault("c=a+/b*b;", 6);
    }

    /** "N is 0 .. 9999"; "a number too great", also where a number of 32 or 64 bits would begin again. */
    private static void numbersTo9999() {
        String[] fine = {"0", "1", "9998", "9999", "00000", "000000009999"};
        String[] tooGreat = {"10000", "10001", "0010000", "65536", "65537", "2147483647", "2147483648", "4294967295",
            "4294967296", "4294967301", "9223372036854775807", "9223372036854775808", "18446744073709551616",
            "18446744073709551623"};
        for (String n : fine) {
            fault("c=a+b+" + n + ";", NONE);
            ThreadCharts x = Checks.withRule("c=a-" + n + "-b;");
            checks.due("less " + n, x.told(0, 1), -Integer.parseInt(n));
        }
        for (String n : tooGreat) {
            fault("c=a+b+" + n + ";", 6);
            fault("c=a- " + n + "-b;", 5);
        }
    }

    /** "Behind = there are 2 to 4 FORMS": "; ahead of the second FORM", "what begins a fifth FORM behind =". */
    private static void twoToFourForms() {
        String[] forms = {"d", "e*e", "/f"};
        for (String form : forms) {
            fault("c=" + form + ";", 2 + form.length());
            fault("c=" + form + "+5;", 4 + form.length());
            fault("c=a+" + form + ";", NONE);
            fault("c=a+b+" + form + ";", NONE);
            fault("c=a+b+z-" + form + ";", NONE);
            fault("c=a+b+z-y+" + form + ";", 10);
            fault("c=a+5+b+z-y- " + form + ";", 13);
        }
        fault("c=;", 2);
        fault("c=-;", 3);
        fault("c=a+b+z-y+5-6+7;", NONE);
    }

    /** "of the first TOKEN that can't stand there .., or of a byte that begins no TOKEN, if that is ahead" */
    private static void faultIsTheFirstOne() {
        fault("#c==", 0);
        fault("c==#", 2);
        fault("c=#=", 2);
        fault("c=a+b+10000#", 6);
        fault("c=a+b+9999#;", 10);
        fault("c=a+b+10000;;", 6);
        fault("c=a+b;;#", 6);
        fault("c=a+b;#;", 6);
        fault(Houses.fullText().substring(0, 119) + "#", 119);
        fault("#" + Houses.fullText().substring(1), 0);
        fault("C", 0);
        fault("c=a+b+1#;", 7);
    }

    /** "the length, if the TEXT ends too early; NONE without" */
    private static void textsThatEndTooEarly() {
        String[] texts = {"c*c = - /a + b*b - 9999 + d - e + 0 ;", "/c=a-b;", Houses.fullText()};
        for (String text : texts) {
            for (int n = 0; n < text.length(); n++) {
                fault(text.substring(0, n), n);
            }
            fault(text, NONE);
        }
        fault("c=a+b" + " ".repeat(115), 120);
    }

    /** "its CONSTANT is the sum of all N, each with its sign": from the greatest to the least that 120 bytes hold. */
    private static void constants() {
        constant("c=a+b;", 0);
        constant("c=a+b-0;", 0);
        constant("c=a+b+9999-9999;", 0);
        constant("c=a+b" + "+9999".repeat(22) + ";", 219978);
        constant("c=a+b" + "-9999".repeat(22) + ";", -219978);
        constant("c=-a+5-b;", 5);
        constant("c=a+5-6+b-7;", -8);
    }

    private static void constant(String text, int want) {
        checks.due("CONSTANT of " + text, Checks.withRule(text).told(0, 1), want);
    }

    /** "A TEXT without a FAULT becomes a RULE (6 at most)"; "NONE .. if 6 came." */
    private static void atMostSixRules() {
        for (int n = 0; n <= 7; n++) {
            ThreadCharts x = new ThreadCharts();
            for (int i = 0; i < n; i++) {
                Checks.tell(x, "c=a+b+" + i + ";");
                checks.due("rule " + i, x.rule(), i < 6 ? i : NONE);
            }
            checks.due("RULES", x.count(1), Math.min(n, 6));
            checks.due("the last one", x.told(n - 1, 1), n >= 1 && n <= 6 ? n - 1 : VOID);
            checks.due("bytes of a seventh", x.count(6), n == 7 ? 8 : 0);
        }
        Refusals full = new Refusals(checks, Houses::brimful);
        full.none("a seventh RULE", ThreadCharts::rule);
    }

    /** "NONE with a FAULT (it stays)" */
    private static void ruleWithAFaultIsRefused() {
        Refusals open = new Refusals(checks, Houses::open);
        open.none("rule of a TEXT that ends too early", ThreadCharts::rule);
        Refusals empty = new Refusals(checks, () -> {
            ThreadCharts x = Houses.open();
            x.end(0);
            return x;
        });
        empty.none("rule of an empty TEXT", ThreadCharts::rule);
        ThreadCharts x = new ThreadCharts();
        Checks.tell(x, "c=a+b+7+");
        checks.due("rule", x.rule(), NONE);
        checks.due("its bytes stay", x.count(6), 8);
        x.end(7);
        x.feed(0x3B202020, 0x20202020, 0x20202020, 0x20202020, 0x20202020);
        checks.due("mended, it becomes one", x.rule(), 0);
        checks.due("of the bytes that stayed", x.told(0, 1), 7);
        checks.due("the TEXT is empty then", x.count(6), 0);
        checks.due("and has a FAULT", x.fault(), 0);
    }

    /** "10 and a TERM: its KIND; 20 and a TERM: its SIGN. VOID for others, or if there is none such." */
    private static void toldOfOthers() {
        String[] texts = {"c*c=-a-/b;", "c*c=-a-/b+d*d;", "c*c=-a-/b+d*d+e;"};
        int[] kinds = {1, 0, 2, 1, 0};
        int[] signs = {1, -1, -1, 1, 1};
        for (int i = 0; i < texts.length; i++) {
            ThreadCharts x = Checks.withRule(texts[i]);
            int terms = 3 + i;
            for (int what = -5; what < 40; what++) {
                int want = what == 0 ? terms : what == 1 ? 0 : VOID;
                want = what >= 10 && what < 10 + terms ? kinds[what - 10] : want;
                want = what >= 20 && what < 20 + terms ? signs[what - 20] : want;
                checks.due(texts[i] + " told " + what, x.told(0, what), want);
            }
        }
        Refusals open = new Refusals(checks, Houses::open);
        for (int n : new int[] {LEAST, -1, 2, 6, GREATEST}) {
            open.isVoid("told of RULE " + n, x -> x.told(n, 0));
        }
        for (int what : new int[] {LEAST, -10, -1, 2, 9, 13, 19, 23, 30, GREATEST}) {
            open.isVoid("told " + what, x -> x.told(0, what));
        }
    }
}

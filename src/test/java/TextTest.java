/** Promises 1 to 6: a new object, feed, end, fault, rule, told. */
public final class TextTest {
    private static final int NONE = Checks.NONE;
    private static final int VOID = Checks.VOID;
    private static final Checks checks = new Checks();

    public static void main(String[] args) {
        newObject();
        feedAndEnd();
        byteOrder();
        faultsOfTokens();
        faultsOfForms();
        faultsOfNumbers();
        faultsOfEnds();
        rules();
        sixRules();
        told();
        checks.close();
    }

    private static void newObject() {
        ThreadCharts x = new ThreadCharts();
        for (int what = 0; what <= 6; what++) {
            checks.due("new count(" + what + ")", x.count(what), 0);
        }
        checks.due("new count(7)", x.count(7), NONE);
        checks.due("new told", x.told(0, 0), VOID);
        checks.due("new fault", x.fault(), 0);
        checks.due("new rule", x.rule(), NONE);
        checks.due("new read", x.read(0, 0), VOID);
        checks.due("new habit", x.habit(0), 0);
        checks.due("new clear", x.clear(), 0);
        checks.due("new go", x.go(0), 0);
    }

    private static void feedAndEnd() {
        ThreadCharts x = new ThreadCharts();
        for (int i = 1; i <= 6; i++) {
            checks.due("feed " + i, x.feed(0, 0, 0, 0, 0), 20L * i);
        }
        checks.due("feed 7", x.feed(0, 0, 0, 0, 0), NONE);
        checks.due("bytes stay", x.count(6), 120);
        checks.due("end(121)", x.end(121), false);
        checks.due("end(120)", x.end(120), true);
        checks.due("end(101)", x.end(101), true);
        checks.due("feed at 101", x.feed(0, 0, 0, 0, 0), NONE);
        checks.due("bytes stay 101", x.count(6), 101);
        checks.due("end(100)", x.end(100), true);
        checks.due("feed at 100", x.feed(0, 0, 0, 0, 0), 120);
        checks.due("end(7)", x.end(7), true);
        checks.due("end(8)", x.end(8), false);
        checks.due("end(-1)", x.end(-1), false);
        checks.due("end(least)", x.end(VOID), false);
        checks.due("bytes are 7", x.count(6), 7);
        checks.due("end(0)", x.end(0), true);
        checks.due("bytes are 0", x.count(6), 0);
    }

    private static void byteOrder() {
        ThreadCharts x = new ThreadCharts();
        x.feed(0x633D612B, 0x623B2020, 0x20202020, 0x20202020, 0x20202020);
        checks.due("c=a+b;", x.fault(), NONE);
        x.end(0);
        x.feed(0x2B613D63, 0x20203B62, 0x20202020, 0x20202020, 0x20202020);
        checks.due("turned round", x.fault(), 0);
        x.end(0);
        // The fifth number comes last, and the next feed behind it.
        x.feed(0x63202020, 0x3D202020, 0x61202020, 0x2B202020, 0x62202020);
        x.feed(0x2B202020, 0x39393939, 0x20202020, 0x20202020, 0x2020203B);
        checks.due("two feeds", x.fault(), NONE);
        x.end(39);
        checks.due("two feeds without ;", x.fault(), 39);
        x.end(26);
        x.feed(0x393B2020, 0x20202020, 0x20202020, 0x20202020, 0x20202020);
        checks.due("a number over two feeds", x.fault(), NONE);
        x.rule();
        checks.due("its constant", x.told(0, 1), 999);
    }

    private static void fault(String text, int want) {
        checks.due("fault of '" + text + "'", Checks.faultOf(text), want);
    }

    private static void faultsOfTokens() {
        fault("C=a+b;", 0);
        fault("c=a+b,", 5);
        fault("c\t=a+b;", 1);
        fault("c=a+b" + (char) 0 + ";", 5);
        fault("c=a+b" + (char) 225 + ";", 5);
        fault("c=a+b" + (char) 187 + ";", 5);
        fault("c=a+" + (char) 160 + "b;", 4);
        fault("`=a+b;", 0);
        fault("{=a+b;", 0);
        fault("z=y+a;", NONE);
        fault("c=a+a+#;", 4);
        fault("c=a+#+a;", 4);
        fault("   c  =  a  +  b  ;   ", NONE);
        fault("  ", 2);
        fault("c=a+b+:;", 6);
    }

    private static void faultsOfForms() {
        fault("", 0);
        fault("-c=a+b;", 0);
        fault("5=a+b;", 0);
        fault("=a+b;", 0);
        fault("cc=a+b;", 1);
        fault("c+a=b;", 1);
        fault("c;", 1);
        fault("c*c*c=a+b;", 3);
        fault("c*d=a+b;", 2);
        fault("c*=a+b;", 2);
        fault("c*/c=a+b;", 2);
        fault("/c*c=a+b;", 2);
        fault("//c=a+b;", 1);
        fault("/5=a+b;", 1);
        fault("/c=/a-/b;", NONE);
        fault("c*c=-a*a-b*b;", NONE);
        fault("c=+a+b;", 2);
        fault("c=--a+b;", 3);
        fault("c=-5+a+b;", 3);
        fault("c=5+a+b;", 2);
        fault("c=;", 2);
        fault("c==a+b;", 2);
        fault("c=a=b;", 3);
        fault("c=a+-b;", 4);
        fault("c=a++b;", 4);
        fault("c=a b;", 4);
        fault("c=a5+b;", 3);
        fault("c=a+5b;", 5);
        fault("c=a+b*5;", 6);
        fault("c=a*5+b;", 4);
        fault("c=a+5*5+b;", 5);
        fault("c=c+b;", 2);
        fault("c=a+/c;", 5);
        fault("c=a*a+a;", 6);
        fault("c=a+b+d+e;", NONE);
        fault("c=a+b+d+e+f;", 10);
        fault("c=a+b+d+e-/f;", 10);
        fault("c=a+b+d+e+a;", 10);
        fault("c=a+b+d+e+5-6;", NONE);
        fault("c=a+b+d+e*e+5-f;", 14);
    }

    private static void faultsOfNumbers() {
        fault("c=a+b+9999;", NONE);
        fault("c=a+b+10000;", 6);
        fault("c=a+b+10000", 6);
        fault("c=a+b+99999999999999999999999999999999;", 6);
        fault("c=a+b+4294967297;", 6);
        fault("c=a+b+00009999;", NONE);
        fault("c=a+b-0;", NONE);
        fault("c=a+b+1 2;", 8);
        fault("c=a+b+12a;", 8);
        fault("c=a+b+12/d;", 8);
        fault("c=a+1+2+b;", NONE);
        fault("c=a+b+1=2;", 7);
    }

    private static void faultsOfEnds() {
        fault("c", 1);
        fault("c ", 2);
        fault("c=", 2);
        fault("c=a", 3);
        fault("c=a+b", 5);
        fault("c=a+b+", 6);
        fault("c=a+b+7", 7);
        fault("c=a;", 3);
        fault("c=a+5;", 5);
        fault("c=a+5-7;", 7);
        fault("c=a+5-b;", NONE);
        fault("c=a+b;;", 6);
        fault("c=a+b; d", 7);
        fault("c=a+b;5", 6);
        fault("c=a+b;+", 6);
    }

    private static void rules() {
        ThreadCharts x = new ThreadCharts();
        Checks.tell(x, "c=a+b");
        checks.due("rule with a fault", x.rule(), NONE);
        checks.due("the text stays", x.count(6), 5);
        checks.due("its fault stays", x.fault(), 5);
        checks.due("no rule came", x.count(1), 0);
        Checks.tell(x, "c=a+b;");
        checks.due("rule", x.rule(), 0);
        checks.due("the text is empty", x.count(6), 0);
        checks.due("fault of none", x.fault(), 0);
        checks.due("no text, no rule", x.rule(), NONE);
        checks.due("one rule", x.count(1), 1);
    }

    private static void sixRules() {
        ThreadCharts x = new ThreadCharts();
        for (int i = 0; i < 6; i++) {
            Checks.tell(x, "c=a+b+" + i + ";");
            checks.due("rule " + i, x.rule(), i);
        }
        Checks.tell(x, "c=a+b+6;");
        checks.due("a seventh rule", x.rule(), NONE);
        checks.due("its text stays", x.count(6), 8);
        checks.due("six rules", x.count(1), 6);
        for (int i = 0; i < 6; i++) {
            checks.due("constant " + i, x.told(i, 1), i);
        }
        checks.due("no rule 6", x.told(6, 1), VOID);
    }

    private static void told() {
        ThreadCharts x = Checks.withRule("z*z = -x*x + 12 - /y + w - 9999 - 13 - v*v;");
        int[] kinds = {1, 1, 2, 0, 1};
        int[] signs = {1, -1, -1, 1, -1};
        checks.due("terms", x.told(0, 0), 5);
        checks.due("constant", x.told(0, 1), -10000);
        for (int t = 0; t < 5; t++) {
            checks.due("kind " + t, x.told(0, 10 + t), kinds[t]);
            checks.due("sign " + t, x.told(0, 20 + t), signs[t]);
        }
        int[] others = {-1, 2, 3, 9, 15, 16, 19, 25, 30, 31, 100, Integer.MAX_VALUE, VOID};
        for (int what : others) {
            checks.due("told(0, " + what + ")", x.told(0, what), VOID);
        }
        checks.due("told(-1, 0)", x.told(-1, 0), VOID);
        checks.due("told(1, 0)", x.told(1, 0), VOID);
        checks.due("told(least, 0)", x.told(VOID, 0), VOID);
        Checks.tell(x, "/c = a + b;");
        x.rule();
        checks.due("three terms", x.told(1, 0), 3);
        checks.due("no constant", x.told(1, 1), 0);
        checks.due("turned", x.told(1, 10), 2);
        checks.due("no TERM 3", x.told(1, 13), VOID);
        checks.due("no TERM 3's sign", x.told(1, 23), VOID);
    }
}

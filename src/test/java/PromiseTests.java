/** The examples of the document, and each promise: ordinary inputs, edges and wrong inputs. */
public final class PromiseTests {
    private static final int BAD = -1, STATE = -2, FULL = -3, UNKNOWN = -7, NONE = -9;
    private static final int LEAST = Integer.MIN_VALUE, GREATEST = Integer.MAX_VALUE;

    private static SignalWaves x;
    private static String where = "";

    private PromiseTests() {
    }

    public static void main(String[] args) {
        constants();
        examples();
        newObject();
        type();
        clear();
        tells();
        tellsAnew();
        scopesInTexts();
        signalsInTexts();
        pathsInTexts();
        expressionsInTexts();
        numbersInTexts();
        node();
        about();
        currentValues();
        scope();
        listed();
        path();
        sets();
        passes();
        dumps();
        sizes();
        undo();
        at();
        derivedValues();
        edges();
        nextAndPrevious();
        first();
        holds();
        ticks();
        fullRecord();
        delay();
        jump();
        block();
        room();
        frame();
        change();
        packed();
        best();
        sees();
        forget();
        which();
        look();
        keepAndBack();
        count();
        Check.close();
    }

    // ---- Helpers

    private static void due(String call, int got, int want) {
        Check.due(where + ": " + call, got, want);
    }

    private static void start(String promise) {
        where = promise;
        x = new SignalWaves();
    }

    private static void send(String text) {
        for (int i = 0; i < text.length(); i++) {
            x.type(text.charAt(i));
        }
    }

    private static int told(String text) {
        x.clear();
        send(text);
        return x.tells();
    }

    private static void fine(String text, int items) {
        x = new SignalWaves();
        due("tells() of " + text, told(text), items);
    }

    private static void wrong(String text, int position) {
        x = new SignalWaves();
        due("tells() of " + text, told(text), -10 - position);
        due("count(0) behind " + text, x.count(0), 0);
        due("count(11) behind " + text, x.count(11), text.length());
    }

    private static int found(String path) {
        x.clear();
        send(path);
        return x.node();
    }

    /** An expression over the wires a, b and c of 8 bits, which have these values. */
    private static void computes(String expression, int a, int b, int c, int want) {
        x = new SignalWaves();
        due("tells() of " + expression, told("a:8;b:8;c:8;d=" + expression + ";"), 4);
        if (a > 0) {
            x.sets(0, a);
        }
        if (b > 0) {
            x.sets(1, b);
        }
        if (c > 0) {
            x.sets(2, c);
        }
        due(expression + " now", x.about(3, 5), want);
        due(expression + " recorded", x.at(3, 0), want);
    }

    /** Wire a: 1 from 2 on, 3 from 5 on, 0 from 9 on; time 12. The derived signal 1 is !a. */
    private static void steps() {
        told("a:2;b=!a;");
        x.passes(2);
        x.sets(0, 1);
        x.passes(3);
        x.sets(0, 3);
        x.passes(4);
        x.sets(0, 0);
        x.passes(3);
    }

    // ---- Examples

    private static void constants() {
        where = "constants";
        due("BAD", SignalWaves.BAD, BAD);
        due("STATE", SignalWaves.STATE, STATE);
        due("FULL", SignalWaves.FULL, FULL);
        due("UNKNOWN", SignalWaves.UNKNOWN, UNKNOWN);
        due("NONE", SignalWaves.NONE, NONE);
    }

    private static void examples() {
        start("example 1");
        int bytes = 0;
        for (char letter : "a:2;b=!a;".toCharArray()) {
            bytes++;
            due("type", x.type(letter), bytes);
        }
        due("tells()", x.tells(), 2);
        due("sets(0, 3)", x.sets(0, 3), 1);
        due("passes(2)", x.passes(2), 2);
        due("dumps(0)", x.dumps(0), 1);
        due("passes(1)", x.passes(1), 3);
        due("at(1, 2)", x.at(1, 2), 0);
        due("at(0, 3)", x.at(0, 3), UNKNOWN);

        start("example 2");
        due("tells()", told("[s;a:1;];b:9;"), -21);
        due("clear()", x.clear(), 13);
        due("node()", x.node(), -10);

        start("example 3");
        due("tells()", told("c=5&1;"), 1);
        due("at(0, 0)", x.at(0, 0), 1);
        due("packed(4)", x.packed(4), 2);
        due("block(0, 4)", x.block(0, 4), 2);
        due("sees(1, 1)", x.sees(1, 1), 1);
        due("which()", x.which(), 0);
        due("sees(0, 0)", x.sees(0, 0), 2);
        due("jump(0)", x.jump(0), 0);
        due("holds(0, 1, 0)", x.holds(0, 1, 0), 0);
        due("undo()", x.undo(), STATE);
    }

    // ---- Promises 1 to 4

    private static void newObject() {
        start("promise 1");
        int[] counts = {0, 0, 0, 0, 1, 4, 1, 0, 0, 2, 0, 0, 0};
        for (int what = 0; what < counts.length; what++) {
            due("count(" + what + ")", x.count(what), counts[what]);
        }
        due("undo()", x.undo(), STATE);
        due("back(0)", x.back(0), STATE);
        due("back(1)", x.back(1), STATE);
        due("about(0, 0)", x.about(0, 0), BAD);
        due("scope(0, 0)", x.scope(0, 0), BAD);
        due("listed(-1, 0)", x.listed(-1, 0), NONE);
        due("ticks(0, -1)", x.ticks(0, -1), 0);
        due("which()", x.which(), 0);
        due("look()", x.look(), NONE);
        due("block(0, 0)", x.block(0, 0), 0);
        due("block(0, 1)", x.block(0, 1), NONE);
    }

    private static void type() {
        start("promise 2");
        due("type(0)", x.type(0), 1);
        due("type(255)", x.type(255), 2);
        due("type(-1)", x.type(-1), BAD);
        due("type(256)", x.type(256), BAD);
        due("type(LEAST)", x.type(LEAST), BAD);
        due("type(GREATEST)", x.type(GREATEST), BAD);
        due("count(11)", x.count(11), 2);
        for (int i = 3; i <= 160; i++) {
            due("type(32)", x.type(32), i);
        }
        due("type(32) of 161", x.type(32), FULL);
        due("type(256) of 161", x.type(256), BAD);
        due("count(11) when full", x.count(11), 160);
        due("clear()", x.clear(), 160);
        due("type(97)", x.type(97), 1);
    }

    private static void clear() {
        start("promise 3");
        due("clear() of nothing", x.clear(), 0);
        send("a:2;");
        due("clear()", x.clear(), 4);
        due("count(11)", x.count(11), 0);
        due("tells() of nothing", x.tells(), 0);
    }

    private static void tells() {
        start("promise 4");
        due("tells()", told("a:2;b@a;"), 2);
        due("count(11)", x.count(11), 0);
        x.sets(0, 1);
        x.passes(3);
        x.sizes(7);
        x.dumps(0);
        x.sees(0, 1);
        x.keep(0);
        x.keep(1);
        send("[a;q:1;r:1;s:1;]");
        due("tells() without an end", x.tells(), -26);
        due("count(0) stays", x.count(0), 2);
        due("count(3) stays", x.count(3), 3);
        due("count(10) stays", x.count(10), 1);
        due("count(11) stays", x.count(11), 16);
        due("count(12) stays", x.count(12), 4);
        due("about(1, 2) stays", x.about(1, 2), 0);
        due("back(1) stays", x.back(1), 3);
        send(";");
        due("tells() with an end", x.tells(), 5);
        int[] counts = {3, 3, 1, 0, 1, 4, 1, 0, 0, 5, 0, 0, 0};
        for (int what = 0; what < counts.length; what++) {
            due("count(" + what + ")", x.count(what), counts[what]);
        }
        due("about(0, 5)", x.about(0, 5), 0);
        due("back(0)", x.back(0), STATE);
        due("back(1)", x.back(1), STATE);
        due("undo()", x.undo(), STATE);
        for (int i = 0; i < 7; i++) {
            x.dumps(0);
            x.dumps(1);
        }
        due("count(7)", x.count(7), 2);
        due("tells() of spaces", told("   "), 0);
        due("count(0) of spaces", x.count(0), 0);
        due("count(2) of spaces", x.count(2), 0);
        due("count(7) of spaces", x.count(7), 0);
    }

    /** What a text describes counts for the limits of this text alone. */
    private static void tellsAnew() {
        start("promise 4, again and again");
        for (int i = 0; i < 4; i++) {
            due("tells() of wires", told("a:1;b:2;c:3;d:4;e:5;f:6;"), 6);
            x.passes(1);
            due("tells() of scopes", told("[a;];[b;];[c;];[d;];[e;];[f;];"), 12);
            due("undo()", x.undo(), STATE);
            due("tells() of five derived signals", told("a=1;b=2;c=3;d=4;e=5;"), -27);
            due("tells() of four", told("a=!1&2;b=a+250+10;c=!!b;d=b;"), 4);
            due("at(0, 0)", x.at(0, 0), 0);
            due("at(1, 0)", x.at(1, 0), 4);
            due("at(2, 0)", x.at(2, 0), 1);
            due("at(3, 0)", x.at(3, 0), 4);
        }
    }

    private static void scopesInTexts() {
        where = "promise 4, scopes";
        fine("[a;[b;[c;[d;x:1;", 5);
        wrong("[a;[b;[c;[d;[e;", 12);
        fine("[a;[b;[c;[d;];];];];[e;];", 10);
        wrong("];", 0);
        wrong("[a;];];", 5);
        fine("[a;];[a;x:1;];[a;y:1;", 7);
        due("count(2)", x.count(2), 1);
        due("about(1, 3)", x.about(1, 3), 0);
        wrong("a:1;[a;", 5);
        fine("a:1;[b;[a;", 3);
        fine("[a;];[b;];[c;];[d;];[e;];[f;];", 12);
        fine("[a;];[b;];[c;];[d;];[e;];[f;];[a;[", -10 - 34);
        wrong("[a;];[b;];[c;];[d;];[e;];[f;];[g;];", 31);
        fine("[a;];[b;];[c;];[d;];[e;];[f;];[c;", 13);
        wrong("[;", 1);
        wrong("[", 1);
        wrong("[ ", 2);
        wrong("[1;", 1);
        wrong("[A;", 1);
        wrong("[ab;", 2);
        wrong("[a", 2);
        wrong("[a]", 2);
        wrong("[a;]", 4);
        wrong("[a;]]", 4);
        wrong("[a;]a:1;", 4);
    }

    private static void signalsInTexts() {
        where = "promise 4, signals";
        fine("a:1;b:2;c:3;d:4;e:5;f:6;", 6);
        wrong("a:1;b:2;c:3;d:4;e:5;f:6;g:1;", 25);
        wrong("a:1;b:2;c:3;d:4;e:5;f:6;g :9;", 26);
        fine("a=1;b=2;c=3;d=4;", 4);
        wrong("a=1;b=2;c=3;d=4;e=1;", 17);
        String twelve = "a:1;b@a;c@a;d@a;e@a;f@a;g@a;h@a;i@a;j@a;k@a;l@a;";
        fine(twelve, 12);
        fine(twelve + "[m;", 13);
        wrong(twelve + "m@a;", 48);
        wrong(twelve + " m", 49);
        wrong("a:1;a:1;", 4);
        wrong("a:1;a", 4);
        wrong("[a;];a:1;", 5);
        fine("[a;a:1;];b:1;[b", -10 - 14);
        fine("[s;a:1;];a:1;[t;a:1;", 6);
        wrong("a", 1);
        wrong("a;", 1);
        wrong("a!1;", 1);
        wrong("ab:1;", 1);
        wrong("1:1;", 0);
        wrong(";", 0);
        wrong("a:1;;", 4);
        wrong("A:1;", 0);
        wrong("{:1;", 0);
        wrong("`:1;", 0);
        wrong("a:1\t;", 3);
        wrong("a:1;\u00ff", 4);
        wrong("a:1;\u0000", 4);
        fine(" a : 1 ;  b  @  a ; ", 2);
    }

    private static void pathsInTexts() {
        where = "promise 4, paths";
        fine("[s;[t;a:1;];];b@s.t.a;c@b;", 7);
        due("about(1, 2)", x.about(1, 2), 0);
        due("about(2, 2)", x.about(2, 2), 1);
        fine("[s;a:1;b@s . a;", 3);
        fine("[p;[q;[r;[s;t:1;];];];];b@p.q.r.s.t;c=p.q.r.s.t+b;", 11);
        wrong("[p;[q;[r;[s;t:1;];];];];b@p.q.r.s.u;", 34);
        wrong("[p;[q;[r;[s;t:1;];];];];b@p.q.r.s.t.u;", 35);
        wrong("[s;a:1;b@a;", 9);
        wrong("b@b;", 2);
        wrong("b=b;", 2);
        wrong("a:1;b@c;c:1;", 6);
        wrong("[s;a:1;];b@s;", 12);
        wrong("[s;a:1;];b@s", 12);
        wrong("[s;a:1;];b@s.;", 13);
        wrong("[s;a:1;];b@s.", 13);
        wrong("[s;a:1;];b@s.b;", 13);
        wrong("[s;a:1;];b@sa;", 12);
        wrong("[s;a:1;];b@s.a.c;", 14);
        wrong("[s;a:1;];b=s.a.c;", 14);
        wrong("a:1;b@", 6);
        wrong("a:1;b@1;", 6);
        wrong("a:1;b@(a);", 6);
        wrong("a:1;b@a+a;", 7);
        wrong("a:1;b@.a;", 6);
    }

    private static void expressionsInTexts() {
        where = "promise 4, expressions";
        fine("a=1+2+3+4+5+6;", 1);
        wrong("a=1+2+3+4+5+6+7;", 14);
        wrong("w:1;a=1+2+3+4+5+6+w;", 18);
        wrong("w:1;a=w+w+w+w+w+w+w;", 18);
        wrong("a=1+2+3+4+5+6+", 14);
        wrong("a=1+2+3+4+5+6+;", 14);
        fine("a=1+2+3+4+5+6;b=1+2+3+4+5+6;", 2);
        fine("a=!!!!!!1;", 1);
        wrong("a=!!!!!!!1;", 8);
        fine("a=((((((1))))));", 1);
        wrong("a=(((((((1)))))));", 8);
        fine("a=(!(!(!1)));b=!!!!!!1;", 2);
        wrong("a=(!(!(!(1))));", 8);
        fine("a=!1+!2+!3+!4+!5+!6;", 1);
        wrong("a=!1+!2+!3+!4+!5+!6+!7;", 20);
        wrong("a=;", 2);
        wrong("a=", 2);
        wrong("a=);", 2);
        wrong("a=();", 3);
        wrong("a=(1;", 4);
        wrong("a=(1", 4);
        wrong("a=1);", 3);
        wrong("a=1!;", 3);
        wrong("a=1(2);", 3);
        wrong("a=1 2;", 4);
        wrong("a=1*2;", 3);
        wrong("a=1+;", 4);
        wrong("a=1+-2;", 4);
        wrong("a=-2;", 2);
        wrong("a=1,2;", 3);
        fine("a = ! ( 1 + 2 ) ^ 3 | 4 - 5 & 6 ;", 1);
    }

    private static void numbersInTexts() {
        where = "promise 4, numbers";
        fine("a:1;b:8;", 2);
        wrong("a:0;", 2);
        wrong("a:9;", 2);
        wrong("a:10;", 2);
        wrong("a:01;", 2);
        wrong("a: 1 1;", 5);
        wrong("a:b;", 2);
        wrong("a:", 2);
        wrong("a:1", 3);
        fine("a=0;b=255;c=9;d=199;", 4);
        due("at(2, 0)", x.at(2, 0), 9);
        due("at(3, 0)", x.at(3, 0), 199);
        wrong("a=99999;", 2);
        wrong("a=0;b:99", 6);
        wrong("a=256;", 2);
        wrong("a=1000;", 2);
        wrong("a=00;", 2);
        wrong("a=007;", 2);
        wrong("a=1+ 01;", 5);
        wrong("a=4294967296;", 2);
        wrong("a=18446744073709551617;", 2);
        wrong("a=1/2;", 3);
    }

    // ---- Promises 5 to 9

    private static void node() {
        start("promise 5");
        told("[s;[t;a:1;];];b@s.t.a;");
        due("node() of s.t.a", found("s.t.a"), 0);
        due("count(11)", x.count(11), 0);
        due("node() of spaces", found("  s .t .  a "), 0);
        due("node() of b", found("b"), 1);
        due("node() of a scope", found("s.t"), NONE);
        due("count(11) behind a scope", x.count(11), 0);
        due("node() of s", found("s"), NONE);
        due("node() of a", found("a"), NONE);
        due("node() of t.a", found("t.a"), NONE);
        due("node() behind a signal", found("b.a"), NONE);
        due("node() behind nothing", found("q.b"), NONE);
        due("node() of a long path", found("s.t.a.b.c.d.e.f"), NONE);
        due("node() of two signals", found("s.t.a.b"), NONE);
        due("node() of nothing", found(""), -10);
        due("node() of two spaces", found("  "), -12);
        due("count(11) behind two spaces", x.count(11), 2);
        due("node() of s.", found("s."), -12);
        due("node() of s. and a space", found("s. "), -13);
        due("node() of s..", found("s..a"), -12);
        due("node() of .s", found(".s"), -10);
        due("node() of two names", found("s t"), -12);
        due("node() of b;", found("b;"), -11);
        due("node() of b and a number", found("b12"), -11);
        due("count(11) behind a number", x.count(11), 3);
        due("node() of a capital", found("B"), -10);
        due("node() of an unknown scope, spoilt", found("q.1"), -12);
        String longest = "q.".repeat(79) + "q";
        due("node() of 159 bytes", found(longest), NONE);
        due("node() of 160 bytes", found(longest + "."), -170);
    }

    private static void about() {
        start("promise 6");
        told("[s;a:3;];b@s.a;[t;c=!b;");
        int[][] answers = {{0, 3, NONE, 0, 0, 0}, {1, NONE, 0, NONE, 1, 0}, {2, NONE, NONE, 1, 2, 1}};
        for (int n = 0; n < 3; n++) {
            for (int what = 0; what < 6; what++) {
                due("about(" + n + ", " + what + ")", x.about(n, what), answers[n][what]);
            }
        }
        due("about(3, 0)", x.about(3, 0), BAD);
        due("about(-1, 0)", x.about(-1, 0), BAD);
        due("about(LEAST, 0)", x.about(LEAST, 0), BAD);
        due("about(GREATEST, 5)", x.about(GREATEST, 5), BAD);
        due("about(0, -1)", x.about(0, -1), BAD);
        due("about(0, 6)", x.about(0, 6), BAD);
        told("z:8;");
        due("about(0, 4)", x.about(0, 4), 25);
        due("about(0, 1)", x.about(0, 1), 8);
    }

    private static void currentValues() {
        start("promise 6, current values");
        told("a:8;b@a;c=a+1;");
        x.sets(0, 255);
        due("about(0, 5)", x.about(0, 5), 255);
        due("about(1, 5)", x.about(1, 5), 255);
        due("about(2, 5)", x.about(2, 5), 0);
        x.dumps(0);
        x.passes(1);
        x.sets(0, 7);
        due("about(0, 5) off the record", x.about(0, 5), 7);
        due("about(1, 5) off the record", x.about(1, 5), 7);
        due("about(2, 5) off the record", x.about(2, 5), 8);
        due("at(2, 1) off the record", x.at(2, 1), UNKNOWN);
    }

    private static void scope() {
        start("promise 7");
        told("[s;[z;];];[a;");
        due("scope(0, 0)", x.scope(0, 0), NONE);
        due("scope(0, 1)", x.scope(0, 1), 18);
        due("scope(1, 0)", x.scope(1, 0), 0);
        due("scope(1, 1)", x.scope(1, 1), 25);
        due("scope(2, 0)", x.scope(2, 0), NONE);
        due("scope(2, 1)", x.scope(2, 1), 0);
        due("scope(3, 0)", x.scope(3, 0), BAD);
        due("scope(-1, 0)", x.scope(-1, 0), BAD);
        due("scope(LEAST, 1)", x.scope(LEAST, 1), BAD);
        due("scope(0, -1)", x.scope(0, -1), BAD);
        due("scope(0, 2)", x.scope(0, 2), BAD);
    }

    private static void listed() {
        start("promise 8");
        told("z:1;[m;y:1;[b;];a@z;];k@z;[a;");
        int[] top = {101 + 1, 3, 100, 0, NONE};
        for (int k = 0; k < top.length; k++) {
            due("listed(-1, " + k + ")", x.listed(-1, k), top[k]);
        }
        int[] inner = {2, 101, 1, NONE, NONE};
        for (int k = 0; k < inner.length; k++) {
            due("listed(0, " + k + ")", x.listed(0, k), inner[k]);
        }
        due("listed(1, 0)", x.listed(1, 0), NONE);
        due("listed(2, 0)", x.listed(2, 0), NONE);
        due("listed(-1, GREATEST)", x.listed(-1, GREATEST), NONE);
        due("listed(3, 0)", x.listed(3, 0), BAD);
        due("listed(-2, 0)", x.listed(-2, 0), BAD);
        due("listed(0, -1)", x.listed(0, -1), BAD);
        due("listed(LEAST, LEAST)", x.listed(LEAST, LEAST), BAD);
    }

    private static void path() {
        start("promise 9");
        told("[p;[q;[r;[s;t:1;];u:1;];];];v:1;");
        int[][] names = {{15, 16, 17, 18, 19, NONE}, {15, 16, 17, 20, NONE, NONE}, {21, NONE, NONE}};
        for (int n = 0; n < names.length; n++) {
            for (int k = 0; k < names[n].length; k++) {
                due("path(" + n + ", " + k + ")", x.path(n, k), names[n][k]);
            }
        }
        due("path(0, GREATEST)", x.path(0, GREATEST), NONE);
        due("path(0, -1)", x.path(0, -1), BAD);
        due("path(3, 0)", x.path(3, 0), BAD);
        due("path(-1, 0)", x.path(-1, 0), BAD);
        due("path(LEAST, LEAST)", x.path(LEAST, LEAST), BAD);
    }

    // ---- Promises 10 to 14

    private static void sets() {
        start("promise 10");
        told("a:1;b:3;c@b;d=b;e:8;");
        due("sets(0, 0)", x.sets(0, 0), STATE);
        due("sets(0, 1)", x.sets(0, 1), 1);
        due("sets(0, 1) again", x.sets(0, 1), STATE);
        due("sets(0, 2)", x.sets(0, 2), BAD);
        due("sets(0, -1)", x.sets(0, -1), BAD);
        due("sets(1, 7)", x.sets(1, 7), 1);
        due("sets(1, 8)", x.sets(1, 8), BAD);
        due("sets(4, 255)", x.sets(4, 255), 1);
        due("sets(4, 256)", x.sets(4, 256), BAD);
        due("sets(4, UNKNOWN)", x.sets(4, UNKNOWN), BAD);
        due("sets(2, 1)", x.sets(2, 1), BAD);
        due("sets(3, 1)", x.sets(3, 1), BAD);
        due("sets(5, 1)", x.sets(5, 1), BAD);
        due("sets(-1, 1)", x.sets(-1, 1), BAD);
        due("sets(LEAST, GREATEST)", x.sets(LEAST, GREATEST), BAD);
        due("count(8)", x.count(8), 3);
        x.dumps(0);
        due("sets(1, 6) off the record", x.sets(1, 6), 0);
        due("sets(1, 6) again", x.sets(1, 6), STATE);
        due("count(8) off the record", x.count(8), 3);
        due("about(3, 5)", x.about(3, 5), 6);

        start("promise 10, blocks");
        told("a:1;b:8;");
        for (int i = 0; i < 4; i++) {
            x.sets(0, 1 - i % 2);
        }
        due("count(6) of four", x.count(6), 1);
        x.passes(3);
        x.sets(1, 9);
        due("count(6) of five", x.count(6), 2);
        due("block(0, 1)", x.block(0, 1), NONE);
        due("block(1, 0)", x.block(1, 0), 3);
        due("block(1, 2)", x.block(1, 2), 1);
        due("frame(1, 1), before the change", x.frame(1, 1), 0);
        for (int i = 0; i < 20; i++) {
            x.sets(1, i);
        }
        due("count(6) of 25", x.count(6), 6);
        due("count(7) of 25", x.count(7), 1);
        due("block(0, 0), the first is lost", x.block(0, 0), 3);
        due("at(1, 0), lost", x.at(1, 0), UNKNOWN);
        due("at(1, 3)", x.at(1, 3), 19);
    }

    private static void passes() {
        start("promise 11");
        due("passes(1)", x.passes(1), 1);
        due("passes(99)", x.passes(99), 100);
        due("passes(0)", x.passes(0), BAD);
        due("passes(100)", x.passes(100), BAD);
        due("passes(-1)", x.passes(-1), BAD);
        due("passes(LEAST)", x.passes(LEAST), BAD);
        due("passes(GREATEST)", x.passes(GREATEST), BAD);
        for (int t = 199; t <= 991; t += 99) {
            due("passes(99)", x.passes(99), t);
        }
        due("passes(9)", x.passes(9), STATE);
        due("passes(100) late", x.passes(100), BAD);
        due("count(3)", x.count(3), 991);
        due("passes(8)", x.passes(8), 999);
        due("passes(1) late", x.passes(1), STATE);
        due("count(3) late", x.count(3), 999);
    }

    private static void dumps() {
        start("promise 12");
        told("a:4;");
        due("dumps(1)", x.dumps(1), STATE);
        due("dumps(2)", x.dumps(2), BAD);
        due("dumps(-1)", x.dumps(-1), BAD);
        x.sets(0, 5);
        x.passes(4);
        due("dumps(0)", x.dumps(0), 1);
        due("dumps(0) again", x.dumps(0), STATE);
        due("block(0, 1)", x.block(0, 1), 4);
        due("count(4)", x.count(4), 0);
        x.passes(2);
        x.sets(0, 9);
        due("dumps(1)", x.dumps(1), 2);
        due("count(4) again", x.count(4), 1);
        due("block(1, 0)", x.block(1, 0), 6);
        due("block(1, 1)", x.block(1, 1), NONE);
        due("block(1, 2)", x.block(1, 2), 0);
        due("frame(1, 0)", x.frame(1, 0), 9);
        for (int blocks = 3; blocks <= 9; blocks++) {
            x.passes(1);
            due("dumps(0)", x.dumps(0), Math.min(6, blocks - 1));
            due("dumps(1)", x.dumps(1), Math.min(6, blocks));
        }
        due("count(7)", x.count(7), 3);
        due("block(0, 0)", x.block(0, 0), 8);

        start("promise 12, off and on at the same time");
        told("a:4;b=!a;");
        x.passes(5);
        x.dumps(0);
        x.sets(0, 2);
        x.dumps(1);
        due("jump(5)", x.jump(5), 1);
        due("at(0, 5)", x.at(0, 5), 2);
        due("at(0, 4)", x.at(0, 4), 0);
        due("edges(0, 1, 5, 5)", x.edges(0, 1, 5, 5), 1);
        x.passes(1);
        due("next(1, 2, 0)", x.next(1, 2, 0), 5);
        due("previous(1, 2, 6)", x.previous(1, 2, 6), 5);
        due("at(0, 6)", x.at(0, 6), 2);
        x.dumps(0);
        x.passes(1);
        due("edges(0, 0, 0, 7)", x.edges(0, 0, 0, 7), 1);
        due("first(0, 2, 0)", x.first(0, 2, 0), 5);
        due("first(0, UNKNOWN, 0)", x.first(0, UNKNOWN, 0), 7);
        due("holds(0, 2, 0)", x.holds(0, 2, 0), 5);
        due("holds(0, 3, 0)", x.holds(0, 3, 0), NONE);
    }

    private static void sizes() {
        start("promise 13");
        told("a:1;");
        due("sizes(4)", x.sizes(4), STATE);
        due("sizes(8)", x.sizes(8), 4);
        due("sizes(1)", x.sizes(1), 8);
        due("sizes(1) again", x.sizes(1), STATE);
        due("sizes(0)", x.sizes(0), BAD);
        due("sizes(9)", x.sizes(9), BAD);
        due("sizes(LEAST)", x.sizes(LEAST), BAD);
        due("count(5)", x.count(5), 1);
        x.sizes(8);
        for (int i = 0; i < 8; i++) {
            x.sets(0, 1 - i % 2);
        }
        due("count(6) of eight", x.count(6), 1);
        x.sizes(2);
        due("count(6) when smaller", x.count(6), 1);
        x.sets(0, 1);
        x.sets(0, 0);
        due("count(6) of ten", x.count(6), 2);
        x.sets(0, 1);
        due("count(6) of eleven", x.count(6), 3);
        due("block(1, 2)", x.block(1, 2), 2);
        x.sizes(3);
        x.sets(0, 0);
        x.sets(0, 1);
        due("count(6) when greater", x.count(6), 3);
        due("block(2, 2)", x.block(2, 2), 3);
    }

    private static void undo() {
        start("promise 14");
        told("a:2;");
        due("undo() of nothing", x.undo(), STATE);
        x.sets(0, 3);
        x.passes(5);
        x.sizes(1);
        x.dumps(0);
        x.sets(0, 3);
        x.passes(0);
        x.sizes(1);
        x.dumps(0);
        x.sees(0, 1);
        due("count(12)", x.count(12), 4);
        due("undo() of dumps", x.undo(), 3);
        due("count(4)", x.count(4), 1);
        due("block(0, 1)", x.block(0, 1), NONE);
        due("undo() of sizes", x.undo(), 2);
        due("count(5)", x.count(5), 4);
        due("undo() of passes", x.undo(), 1);
        due("count(3)", x.count(3), 0);
        due("undo() of sets", x.undo(), 0);
        due("about(0, 5)", x.about(0, 5), 0);
        due("count(8)", x.count(8), 0);
        due("undo() of nothing more", x.undo(), STATE);
        due("count(10)", x.count(10), 1);

        for (int i = 1; i <= 7; i++) {
            x.passes(i);
        }
        due("count(12) of seven", x.count(12), 6);
        for (int more = 5; more >= 0; more--) {
            due("undo()", x.undo(), more);
        }
        due("count(3) of seven", x.count(3), 1);
        due("undo() of seven", x.undo(), STATE);

        start("promise 14, lost blocks");
        told("a:2;");
        x.sizes(1);
        for (int i = 1; i <= 6; i++) {
            x.sets(0, i % 4);
            x.passes(1);
        }
        due("block(0, 0)", x.block(0, 0), 0);
        x.sets(0, 3);
        due("count(7)", x.count(7), 1);
        due("block(0, 0), one is lost", x.block(0, 0), 1);
        due("undo()", x.undo(), 5);
        due("count(7) then", x.count(7), 0);
        due("count(6) then", x.count(6), 6);
        due("block(0, 0) then", x.block(0, 0), 0);
        due("change(0, 0, 2) then", x.change(0, 0, 2), 1);
        due("at(0, 0) then", x.at(0, 0), 1);
        due("sets(0, 1)", x.sets(0, 1), 1);
        due("undo() again", x.undo(), 5);
        due("undo() of passes", x.undo(), 4);
        due("count(3)", x.count(3), 5);
    }

    // ---- Promises 15 to 22

    private static void at() {
        start("promise 15");
        steps();
        int[] values = {0, 0, 1, 1, 1, 3, 3, 3, 3, 0, 0, 0, 0};
        for (int t = 0; t < values.length; t++) {
            due("at(0, " + t + ")", x.at(0, t), values[t]);
            due("at(1, " + t + ")", x.at(1, t), values[t] == 0 ? 1 : 0);
        }
        due("at(0, 13)", x.at(0, 13), BAD);
        due("at(0, -1)", x.at(0, -1), BAD);
        due("at(2, 0)", x.at(2, 0), BAD);
        due("at(-1, 0)", x.at(-1, 0), BAD);
        due("at(GREATEST, GREATEST)", x.at(GREATEST, GREATEST), BAD);
        x.sets(0, 1);
        x.sets(0, 2);
        due("at(0, 12), the last change", x.at(0, 12), 2);

        start("promise 15, what is not recorded");
        told("a:2;b@a;c=a|1;d=0&a;e=a&0;f=5;");
        x.passes(2);
        x.dumps(0);
        x.passes(2);
        x.sets(0, 2);
        x.dumps(1);
        int[][] due = {{0, 0, UNKNOWN, 2}, {0, 0, UNKNOWN, 2}, {1, 1, UNKNOWN, 3}, {0, 0, 0, 0},
            {0, 0, 0, 0}, {5, 5, 5, 5}};
        int[] times = {0, 2, 3, 4};
        for (int n = 0; n < 6; n++) {
            for (int i = 0; i < 4; i++) {
                due("at(" + n + ", " + times[i] + ")", x.at(n, times[i]), due[n][i]);
            }
        }
    }

    private static void derivedValues() {
        where = "promise 15, expressions";
        computes("a&b", 12, 10, 0, 8);
        computes("a|b", 12, 10, 0, 14);
        computes("a^b", 12, 10, 0, 6);
        computes("a+b", 250, 10, 0, 4);
        computes("a-b", 10, 250, 0, 16);
        computes("a-b", 0, 1, 0, 255);
        computes("a+b", 255, 255, 0, 254);
        computes("!a", 0, 0, 0, 1);
        computes("!a", 255, 0, 0, 0);
        computes("!!a", 7, 0, 0, 1);
        computes("a+b&c", 1, 2, 2, 2);
        computes("a+(b&c)", 1, 2, 2, 3);
        computes("a|b&c", 1, 2, 2, 2);
        computes("a-b-c", 10, 3, 2, 5);
        computes("a-(b-c)", 10, 3, 2, 9);
        computes("!a+b", 0, 3, 0, 4);
        computes("!(a+b)", 1, 255, 0, 1);
        computes("200+100", 0, 0, 0, 44);
        computes("(a+b)^(c-1)", 1, 2, 5, 7);
        computes("a^(b^(c^(1^(2^3))))", 4, 8, 16, 28);
        computes("!(!(a&b)|!c)", 3, 5, 1, 1);

        start("promise 15, expressions of the unknown");
        told("a:8;b=a&0;c=!a;d=b+1;e=!(0&a);f@c;");
        x.dumps(0);
        x.passes(1);
        int[] unknown = {UNKNOWN, 0, UNKNOWN, 1, 1, UNKNOWN};
        for (int n = 0; n < unknown.length; n++) {
            due("at(" + n + ", 1)", x.at(n, 1), unknown[n]);
        }
        start("promise 15, more of the unknown");
        told("a:8;b=a&1;c=a-a;d=a^a;e=1|a;");
        x.dumps(0);
        x.passes(1);
        for (int n = 0; n < 5; n++) {
            due("at(" + n + ", 1)", x.at(n, 1), UNKNOWN);
        }
    }

    private static void edges() {
        start("promise 16");
        steps();
        due("edges(0, 0, 0, 12)", x.edges(0, 0, 0, 12), 3);
        due("edges(0, 1, 0, 12)", x.edges(0, 1, 0, 12), 2);
        due("edges(0, 2, 0, 12)", x.edges(0, 2, 0, 12), 1);
        due("edges(1, 0, 0, 12)", x.edges(1, 0, 0, 12), 2);
        due("edges(1, 2, 2, 2)", x.edges(1, 2, 2, 2), 1);
        due("edges(1, 1, 9, 12)", x.edges(1, 1, 9, 12), 1);
        due("edges(0, 0, 3, 8)", x.edges(0, 0, 3, 8), 1);
        due("edges(0, 0, 5, 9)", x.edges(0, 0, 5, 9), 2);
        due("edges(0, 0, 6, 8)", x.edges(0, 0, 6, 8), 0);
        due("edges(0, 0, 0, 0)", x.edges(0, 0, 0, 0), 0);
        due("edges(2, 0, 0, 0)", x.edges(2, 0, 0, 0), BAD);
        due("edges(-1, 0, 0, 0)", x.edges(-1, 0, 0, 0), BAD);
        due("edges(0, 3, 0, 0)", x.edges(0, 3, 0, 0), BAD);
        due("edges(0, -1, 0, 0)", x.edges(0, -1, 0, 0), BAD);
        due("edges(0, 0, -1, 0)", x.edges(0, 0, -1, 0), BAD);
        due("edges(0, 0, 13, 13)", x.edges(0, 0, 13, 13), BAD);
        due("edges(0, 0, 0, 13)", x.edges(0, 0, 0, 13), BAD);
        due("edges(0, 0, 5, 4)", x.edges(0, 0, 5, 4), BAD);
        due("edges(0, 0, LEAST, GREATEST)", x.edges(0, 0, LEAST, GREATEST), BAD);

        start("promise 16, no edge");
        told("a:2;b:2;");
        x.sets(0, 3);
        due("edges at time 0", x.edges(0, 0, 0, 0), 0);
        x.passes(1);
        x.sets(0, 1);
        x.sets(0, 3);
        due("edges, the same again", x.edges(0, 0, 0, 1), 0);
        x.dumps(0);
        x.passes(1);
        x.sets(0, 0);
        x.passes(1);
        x.dumps(1);
        x.passes(1);
        due("edges of the unknown", x.edges(0, 0, 0, 4), 0);
        x.sets(0, 2);
        due("edges(0, 1, 4, 4)", x.edges(0, 1, 4, 4), 1);
    }

    private static void nextAndPrevious() {
        start("promise 17");
        steps();
        due("next(0, 0, 0)", x.next(0, 0, 0), 2);
        due("next(0, 0, 2)", x.next(0, 0, 2), 5);
        due("next(0, 0, 4)", x.next(0, 0, 4), 5);
        due("next(0, 2, 0)", x.next(0, 2, 0), 9);
        due("next(0, 1, 5)", x.next(0, 1, 5), NONE);
        due("next(0, 0, 9)", x.next(0, 0, 9), NONE);
        due("next(0, 0, 12)", x.next(0, 0, 12), NONE);
        due("next(1, 1, 0)", x.next(1, 1, 0), 9);
        due("next(0, 0, 13)", x.next(0, 0, 13), BAD);
        due("next(0, 0, -1)", x.next(0, 0, -1), BAD);
        due("next(2, 0, 0)", x.next(2, 0, 0), BAD);
        due("next(-1, 0, 0)", x.next(-1, 0, 0), BAD);
        due("next(0, 3, 0)", x.next(0, 3, 0), BAD);
        due("next(0, -1, 0)", x.next(0, -1, 0), BAD);

        where = "promise 18";
        due("previous(0, 0, 12)", x.previous(0, 0, 12), 9);
        due("previous(0, 0, 9)", x.previous(0, 0, 9), 5);
        due("previous(0, 0, 5)", x.previous(0, 0, 5), 2);
        due("previous(0, 0, 2)", x.previous(0, 0, 2), NONE);
        due("previous(0, 0, 0)", x.previous(0, 0, 0), NONE);
        due("previous(0, 1, 12)", x.previous(0, 1, 12), 5);
        due("previous(0, 2, 9)", x.previous(0, 2, 9), NONE);
        due("previous(1, 2, 12)", x.previous(1, 2, 12), 2);
        due("previous(0, 0, 13)", x.previous(0, 0, 13), BAD);
        due("previous(0, 0, -1)", x.previous(0, 0, -1), BAD);
        due("previous(2, 0, 0)", x.previous(2, 0, 0), BAD);
        due("previous(-1, 0, 0)", x.previous(-1, 0, 0), BAD);
        due("previous(0, 3, 0)", x.previous(0, 3, 0), BAD);
        due("previous(0, -1, 0)", x.previous(0, -1, 0), BAD);
    }

    private static void first() {
        start("promise 19");
        steps();
        due("first(0, 0, 0)", x.first(0, 0, 0), 0);
        due("first(0, 0, 1)", x.first(0, 0, 1), 1);
        due("first(0, 0, 2)", x.first(0, 0, 2), 9);
        due("first(0, 0, 12)", x.first(0, 0, 12), 12);
        due("first(0, 3, 0)", x.first(0, 3, 0), 5);
        due("first(0, 3, 8)", x.first(0, 3, 8), 8);
        due("first(0, 3, 9)", x.first(0, 3, 9), NONE);
        due("first(0, 2, 0)", x.first(0, 2, 0), NONE);
        due("first(0, 255, 0)", x.first(0, 255, 0), NONE);
        due("first(0, UNKNOWN, 0)", x.first(0, UNKNOWN, 0), NONE);
        due("first(1, 1, 3)", x.first(1, 1, 3), 9);
        due("first(0, 256, 0)", x.first(0, 256, 0), BAD);
        due("first(0, -1, 0)", x.first(0, -1, 0), BAD);
        due("first(0, NONE, 0)", x.first(0, NONE, 0), BAD);
        due("first(0, 0, 13)", x.first(0, 0, 13), BAD);
        due("first(0, 0, -1)", x.first(0, 0, -1), BAD);
        due("first(2, 0, 0)", x.first(2, 0, 0), BAD);
        due("first(-1, 0, 0)", x.first(-1, 0, 0), BAD);
        x.dumps(0);
        due("first(0, UNKNOWN, 0), too early", x.first(0, UNKNOWN, 0), NONE);
        x.passes(9);
        due("first(0, UNKNOWN, 0) then", x.first(0, UNKNOWN, 0), 13);
        due("first(1, UNKNOWN, 20)", x.first(1, UNKNOWN, 20), 20);
    }

    private static void holds() {
        start("promise 20");
        steps();
        due("holds(0, 1, 0)", x.holds(0, 1, 0), 2);
        due("holds(0, 7, 0)", x.holds(0, 7, 0), 2);
        due("holds(0, 8, 0)", x.holds(0, 8, 0), NONE);
        due("holds(0, 2, 4)", x.holds(0, 2, 4), 4);
        due("holds(0, 5, 4)", x.holds(0, 5, 4), 4);
        due("holds(0, 6, 4)", x.holds(0, 6, 4), NONE);
        due("holds(1, 2, 1)", x.holds(1, 2, 1), 9);
        due("holds(1, 1, 1)", x.holds(1, 1, 1), 1);
        due("holds(1, 4, 0)", x.holds(1, 4, 0), 9);
        due("holds(1, 5, 0), not yet", x.holds(1, 5, 0), NONE);
        due("holds(1, 1, 12)", x.holds(1, 1, 12), 12);
        due("holds(1, 999, 0)", x.holds(1, 999, 0), NONE);
        due("holds(0, 0, 0)", x.holds(0, 0, 0), BAD);
        due("holds(0, 1000, 0)", x.holds(0, 1000, 0), BAD);
        due("holds(0, 1, 13)", x.holds(0, 1, 13), BAD);
        due("holds(0, 1, -1)", x.holds(0, 1, -1), BAD);
        due("holds(2, 1, 0)", x.holds(2, 1, 0), BAD);
        due("holds(-1, 1, 0)", x.holds(-1, 1, 0), BAD);
        x.dumps(0);
        x.passes(3);
        x.dumps(1);
        x.passes(6);
        due("holds(1, 5, 0), across the unknown", x.holds(1, 5, 0), 15);

        start("promise 20, the longest");
        told("c=1;");
        for (int i = 0; i < 10; i++) {
            x.passes(99);
        }
        x.passes(9);
        due("holds(0, 999, 0)", x.holds(0, 999, 0), 0);
        due("holds(0, 999, 1)", x.holds(0, 999, 1), 1);
        due("holds(0, 999, 2)", x.holds(0, 999, 2), NONE);
    }

    private static void ticks() {
        start("promise 21");
        steps();
        due("ticks(1, -1)", x.ticks(1, -1), 3);
        due("ticks(2, -1)", x.ticks(2, -1), 2);
        due("ticks(3, -1)", x.ticks(3, -1), 3);
        due("ticks(0, -1)", x.ticks(0, -1), 0);
        due("ticks(0, 0)", x.ticks(0, 0), NONE);
        due("ticks(1, 0)", x.ticks(1, 0), 2);
        due("ticks(1, 1)", x.ticks(1, 1), 5);
        due("ticks(1, 2)", x.ticks(1, 2), 9);
        due("ticks(1, 3)", x.ticks(1, 3), NONE);
        due("ticks(2, 1)", x.ticks(2, 1), 9);
        due("ticks(2, 2)", x.ticks(2, 2), NONE);
        due("ticks(1, GREATEST)", x.ticks(1, GREATEST), NONE);
        due("ticks(1, -2)", x.ticks(1, -2), BAD);
        due("ticks(4, 0)", x.ticks(4, 0), BAD);
        due("ticks(-1, 0)", x.ticks(-1, 0), BAD);
        due("ticks(LEAST, LEAST)", x.ticks(LEAST, LEAST), BAD);
        due("ticks(GREATEST, -1)", x.ticks(GREATEST, -1), BAD);
    }

    /** As many different times as a record can have: six ended blocks of eight changes each. */
    private static void fullRecord() {
        start("promises 15 to 22, a full record");
        told("a:8;b=!a;");
        x.sizes(8);
        for (int block = 0; block < 7; block++) {
            for (int i = 1; i <= 8; i++) {
                x.passes(2);
                x.sets(0, 1 + i % 2);
            }
            x.passes(2);
            x.dumps(0);
            x.passes(3);
            x.dumps(1);
        }
        x.dumps(0);
        due("count(7) before", x.count(7), 2);
        x.undo();
        x.undo();
        due("count(7)", x.count(7), 1);
        due("count(3)", x.count(3), 7 * 21);
        due("block(0, 0)", x.block(0, 0), 21);
        due("first(0, UNKNOWN, 0)", x.first(0, UNKNOWN, 0), 0);
        due("first(0, 2, 0)", x.first(0, 2, 0), 23);
        due("first(0, UNKNOWN, 21)", x.first(0, UNKNOWN, 21), 40);
        due("first(0, UNKNOWN, 124)", x.first(0, UNKNOWN, 124), 124);
        due("first(0, UNKNOWN, 126)", x.first(0, UNKNOWN, 126), 145);
        due("holds(0, 19, 0)", x.holds(0, 19, 0), 21);
        due("holds(0, 20, 0)", x.holds(0, 20, 0), NONE);
        due("holds(0, 19, 106)", x.holds(0, 19, 106), 126);
        due("ticks(1, -1)", x.ticks(1, -1), 6 * 8);
        due("delay(0, 0)", x.delay(0, 0), 0);
        due("edges(1, 0, 0, 147)", x.edges(1, 0, 0, 147), 0);
    }

    private static void delay() {
        start("promise 22");
        told("a:1;b:1;c:1;d@a;");
        due("delay(0, 0), no edge", x.delay(0, 0), NONE);
        x.sizes(8);
        x.passes(10);
        x.sets(0, 1);
        x.passes(3);
        x.sets(1, 1);
        x.passes(7);
        x.sets(0, 0);
        due("delay(0, 0)", x.delay(0, 0), 0);
        due("delay(0, 3)", x.delay(0, 3), 0);
        due("delay(3, 1), the last edge is too late to count", x.delay(3, 1), 3);
        x.passes(3);
        due("delay(0, 1), an edge is not followed", x.delay(0, 1), NONE);
        x.sets(1, 0);
        due("delay(0, 1)", x.delay(0, 1), 3);
        due("delay(1, 0)", x.delay(1, 0), 7);
        due("delay(0, 2)", x.delay(0, 2), NONE);
        due("delay(2, 0)", x.delay(2, 0), NONE);
        due("delay(4, 0)", x.delay(4, 0), BAD);
        due("delay(0, 4)", x.delay(0, 4), BAD);
        due("delay(-1, 0)", x.delay(-1, 0), BAD);
        due("delay(0, -1)", x.delay(0, -1), BAD);
        due("delay(LEAST, GREATEST)", x.delay(LEAST, GREATEST), BAD);

        for (int gap = 49; gap <= 51; gap++) {
            start("promise 22, a gap of " + gap);
            told("a:1;b:1;");
            x.passes(1);
            x.sets(0, 1);
            x.passes(gap);
            x.sets(1, 1);
            x.passes(90);
            due("delay(0, 1)", x.delay(0, 1), gap <= 50 ? gap : NONE);
        }
    }

    // ---- Promises 23 to 28

    private static void jump() {
        start("promise 23");
        told("a:1;");
        due("jump(0)", x.jump(0), 0);
        x.passes(3);
        x.dumps(0);
        x.passes(2);
        due("jump(3)", x.jump(3), 0);
        due("jump(4)", x.jump(4), NONE);
        x.dumps(1);
        due("jump(4) then", x.jump(4), NONE);
        due("jump(5)", x.jump(5), 1);
        x.sizes(1);
        x.sets(0, 1);
        x.sets(0, 0);
        x.sets(0, 1);
        due("jump(5) of several", x.jump(5), 3);
        due("jump(6)", x.jump(6), BAD);
        due("jump(-1)", x.jump(-1), BAD);
        due("jump(LEAST)", x.jump(LEAST), BAD);
        x.passes(2);
        due("jump(7)", x.jump(7), 3);
        for (int i = 0; i < 3; i++) {
            x.sets(0, i % 2);
        }
        due("jump(0), lost", x.jump(0), NONE);
        due("jump(3), lost", x.jump(3), NONE);
        due("jump(5) at last", x.jump(5), 2);
    }

    private static void block() {
        start("promise 24");
        told("a:8;b:8;");
        x.passes(7);
        x.dumps(0);
        x.dumps(1);
        x.sets(0, 5);
        x.sets(1, 5);
        x.sets(0, 6);
        int[][] due = {{0, 7, 0, 0, 4}, {7, NONE, 3, 2, 11}};
        for (int b = 0; b < 2; b++) {
            for (int what = 0; what < 5; what++) {
                due("block(" + b + ", " + what + ")", x.block(b, what), due[b][what]);
            }
        }
        due("block(2, 0)", x.block(2, 0), BAD);
        due("block(-1, 0)", x.block(-1, 0), BAD);
        due("block(0, -1)", x.block(0, -1), BAD);
        due("block(0, 5)", x.block(0, 5), BAD);
        due("block(LEAST, GREATEST)", x.block(LEAST, GREATEST), BAD);
    }

    /** The room after one change, which costs 2 + 1 + 2 + 1, and the time before it. */
    private static void room() {
        int[][] costs = {{0, 0}, {1, 1}, {15, 1}, {16, 2}, {99, 2}};
        for (int[] cost : costs) {
            start("promise 24, room behind " + cost[0]);
            told("a:8;");
            x.passes(9);
            x.dumps(0);
            x.dumps(1);
            x.passes(Math.max(1, cost[0]));
            if (cost[0] == 0) {
                x.undo();
            }
            x.sets(0, 1);
            due("block(1, 4)", x.block(1, 4), 6 + cost[1]);
            x.passes(Math.max(1, cost[0]));
            if (cost[0] == 0) {
                x.undo();
            }
            x.sets(0, 2);
            due("block(1, 4) of two", x.block(1, 4), 9 + 2 * cost[1]);
            x.sets(0, 3);
            due("block(1, 4) of three", x.block(1, 4), 13 + 2 * cost[1]);
            x.sets(0, 1);
            due("block(1, 4) of four", x.block(1, 4), 14 + 2 * cost[1]);
        }
    }

    private static void frame() {
        start("promise 25");
        told("a:8;b@a;c=a;d:8;");
        x.sets(0, 3);
        x.sets(3, 200);
        x.dumps(0);
        x.sets(0, 4);
        x.dumps(1);
        x.sets(0, 5);
        due("frame(0, 0)", x.frame(0, 0), 0);
        due("frame(0, 3)", x.frame(0, 3), 0);
        due("frame(1, 0)", x.frame(1, 0), 4);
        due("frame(1, 3)", x.frame(1, 3), 200);
        due("frame(1, 1)", x.frame(1, 1), BAD);
        due("frame(1, 2)", x.frame(1, 2), BAD);
        due("frame(1, 4)", x.frame(1, 4), BAD);
        due("frame(1, -1)", x.frame(1, -1), BAD);
        due("frame(2, 0)", x.frame(2, 0), BAD);
        due("frame(-1, 0)", x.frame(-1, 0), BAD);
    }

    private static void change() {
        start("promise 26");
        told("a:8;b@a;c:8;");
        x.passes(3);
        x.sets(2, 9);
        x.passes(4);
        x.sets(0, 8);
        x.sets(2, 8);
        x.sets(0, 9);
        x.passes(1);
        x.sets(0, 7);
        int[][] due = {{3, 2, 9, 0}, {7, 0, 8, 1}, {7, 2, 8, 1}, {7, 0, 9, 0}};
        for (int i = 0; i < 4; i++) {
            for (int what = 0; what < 4; what++) {
                due("change(0, " + i + ", " + what + ")", x.change(0, i, what), due[i][what]);
            }
        }
        due("change(1, 0, 0)", x.change(1, 0, 0), 8);
        due("change(1, 0, 3)", x.change(1, 0, 3), 0);
        due("change(0, 4, 0)", x.change(0, 4, 0), NONE);
        due("change(1, 1, 0)", x.change(1, 1, 0), NONE);
        due("change(0, GREATEST, 3)", x.change(0, GREATEST, 3), NONE);
        due("change(0, -1, 0)", x.change(0, -1, 0), BAD);
        due("change(0, 0, 4)", x.change(0, 0, 4), BAD);
        due("change(0, 0, -1)", x.change(0, 0, -1), BAD);
        due("change(0, 9, 4)", x.change(0, 9, 4), BAD);
        due("change(2, 0, 0)", x.change(2, 0, 0), BAD);
        due("change(-1, 0, 0)", x.change(-1, 0, 0), BAD);
    }

    private static void packed() {
        start("promise 27");
        told("a:8;b:8;");
        due("packed(1), without changes", x.packed(1), 4);
        due("packed(0)", x.packed(0), BAD);
        due("packed(9)", x.packed(9), BAD);
        due("packed(LEAST)", x.packed(LEAST), BAD);
        x.sizes(2);
        x.passes(5);
        x.sets(0, 1);
        x.passes(20);
        x.sets(0, 2);
        x.sets(1, 1);
        x.passes(3);
        x.sets(1, 3);
        due("count(6)", x.count(6), 2);
        due("count(9)", x.count(9), 4 + 4 + 2 + 3 + 4 + 4 + 1 + 2);
        // The first change is 5 behind the begin; each other block begins with its first change.
        due("packed(1)", x.packed(1), 4 * 4 + 4 * 2 + 2 + 1 + 1 + 1);
        due("packed(2)", x.packed(2), 4 + 4 + 2 + 3 + 4 + 4 + 1 + 2);
        due("packed(3)", x.packed(3), 4 + 4 + 2 + 3 + 1 + 4 + 2 + 1);
        due("packed(4)", x.packed(4), 4 + 6 + 2 + 3 + 1 + 3);
        due("packed(8)", x.packed(8), x.packed(4));

        start("promise 27, groups");
        told("a:8;");
        x.sets(0, 1);
        x.dumps(0);
        x.passes(5);
        x.dumps(1);
        x.passes(2);
        x.dumps(0);
        x.passes(5);
        x.dumps(1);
        x.passes(1);
        x.sets(0, 2);
        x.sets(0, 1);
        due("count(6)", x.count(6), 3);
        due("packed(8)", x.packed(8), 3 + 3 + 3 + 3 + 4 + 3);
        due("packed(1)", x.packed(1), 3 + 3 + 3 + 3 + 2 + 2 + 3 + 2 + 1);
    }

    private static void best() {
        start("promise 28");
        told("a:8;");
        due("best(), all the same", x.best(), 1);
        x.sizes(8);
        for (int i = 1; i <= 8; i++) {
            x.sets(0, i % 2);
        }
        due("best() of one block", x.best(), 8);
        due("packed(8) of one block", x.packed(8), 15);
        due("packed(7)", x.packed(7), 20);

        start("promise 28, the smallest of several");
        told("a:8;");
        x.sizes(8);
        for (int i = 1; i <= 5; i++) {
            x.sets(0, i % 2);
        }
        due("best()", x.best(), 5);
        due("packed(5)", x.packed(5), x.packed(8));

        // A new block costs 3, but saves the 2 for its first change's time and the 1 for a third value.
        start("promise 28, small blocks");
        told("a:8;");
        x.sizes(8);
        for (int i = 1; i <= 4; i++) {
            x.sets(0, i);
            x.passes(20);
        }
        due("packed(1)", x.packed(1), 24);
        due("packed(2)", x.packed(2), 2 * 9 + 4);
        due("packed(3)", x.packed(3), 3 + 6 + 4 + 4 + 6);
        due("packed(4)", x.packed(4), 3 + 8 + 4 + 2 + 6);
        due("best()", x.best(), 2);
    }

    // ---- Promises 29 to 32

    private static void sees() {
        start("promise 29");
        due("sees(0, 0)", x.sees(0, 0), 1);
        due("sees(999, 255)", x.sees(999, 255), 2);
        due("sees(5, UNKNOWN)", x.sees(5, UNKNOWN), 3);
        due("sees(-1, 0)", x.sees(-1, 0), BAD);
        due("sees(1000, 0)", x.sees(1000, 0), BAD);
        due("sees(0, -1)", x.sees(0, -1), BAD);
        due("sees(0, 256)", x.sees(0, 256), BAD);
        due("sees(0, NONE)", x.sees(0, NONE), BAD);
        due("sees(LEAST, GREATEST)", x.sees(LEAST, GREATEST), BAD);
        due("count(10)", x.count(10), 3);
        for (int i = 4; i <= 6; i++) {
            due("sees(0, 0) again", x.sees(0, 0), i);
        }
        due("sees(0, 0) of seven", x.sees(0, 0), FULL);
        due("sees(-1, 0) of seven", x.sees(-1, 0), BAD);
        due("count(10) of seven", x.count(10), 6);
    }

    private static void forget() {
        start("promise 30");
        told("a:1;");
        due("forget() of nothing", x.forget(), 0);
        x.sees(0, 1);
        x.sees(0, 0);
        due("which()", x.which(), 0);
        due("forget()", x.forget(), 2);
        due("forget() again", x.forget(), 0);
        due("which() then", x.which(), 1);
        due("sees(0, 0)", x.sees(0, 0), 1);
    }

    private static void which() {
        start("promise 31");
        told("a:2;b:2;c@a;d=!a;");
        due("which() without observations", x.which(), 15);
        x.sets(0, 1);
        x.passes(2);
        x.sets(1, 1);
        x.sees(0, 1);
        due("which() of one", x.which(), 5);
        x.sees(2, 1);
        due("which() of two", x.which(), 5);
        x.sees(2, 0);
        due("which() of a contradiction", x.which(), 0);
        x.forget();
        x.sees(2, 1);
        due("which() at 2", x.which(), 7);
        x.sees(3, 1);
        due("which() of the time to come", x.which(), 0);
        x.passes(1);
        due("which() when it has come", x.which(), 7);
        x.forget();
        x.sets(0, 0);
        x.sees(3, 1);
        due("which() as it is now", x.which(), 10);
        x.undo();
        due("which() as it is then", x.which(), 7);
        x.forget();
        x.dumps(0);
        x.passes(1);
        x.sees(4, UNKNOWN);
        due("which() of the unknown", x.which(), 15);
        x.sees(3, UNKNOWN);
        due("which() of the known", x.which(), 0);
    }

    private static void look() {
        start("promise 32");
        told("a:2;b:2;c:2;d:2;");
        due("look(), all the same", x.look(), 0);
        x.passes(4);
        x.sets(0, 1);
        due("look() of 3 and 1", x.look(), 4);
        x.passes(2);
        x.sets(1, 1);
        due("look() of 2 and 2", x.look(), 6);
        x.passes(2);
        x.sets(2, 2);
        due("look() of 2, 1 and 1, no better", x.look(), 6);
        x.passes(2);
        x.sets(0, 3);
        due("look() of all apart", x.look(), 10);
        x.passes(2);
        x.sets(0, 0);
        due("look() stays", x.look(), 10);
        x.sees(0, 0);
        x.sees(4, 0);
        due("look() without the first", x.look(), 8);
        due("which()", x.which(), 14);
        x.sees(8, 2);
        due("which() of one", x.which(), 4);
        due("look() of one", x.look(), NONE);

        start("promise 32, the unknown");
        told("a:2;b=1;c=0&a;d@a;");
        x.sets(0, 1);
        x.passes(3);
        due("look() at first", x.look(), 0);
        x.dumps(0);
        x.passes(3);
        due("look() of 2, 1 and 1", x.look(), 4);
        x.sees(4, UNKNOWN);
        due("which()", x.which(), 9);
        due("look() of aliases", x.look(), 0);
    }

    // ---- Promises 33 to 35

    private static void keepAndBack() {
        start("promise 33");
        told("a:8;");
        due("keep(2)", x.keep(2), BAD);
        due("keep(-1)", x.keep(-1), BAD);
        x.sizes(1);
        for (int i = 1; i <= 7; i++) {
            x.sets(0, i);
            x.passes(1);
        }
        due("keep(0)", x.keep(0), 7);
        due("count(12), which stays", x.count(12), 6);
        x.sets(0, 8);
        x.passes(1);
        x.dumps(0);
        x.sizes(5);
        x.sees(0, 0);
        due("keep(1)", x.keep(1), 8);

        where = "promise 34";
        due("back(2)", x.back(2), BAD);
        due("back(-1)", x.back(-1), BAD);
        due("back(LEAST)", x.back(LEAST), BAD);
        for (int round = 0; round < 2; round++) {
            due("back(0)", x.back(0), 7);
            due("count(3)", x.count(3), 7);
            due("count(4)", x.count(4), 1);
            due("count(5)", x.count(5), 1);
            due("count(6)", x.count(6), 6);
            due("count(7)", x.count(7), 1);
            due("about(0, 5)", x.about(0, 5), 7);
            due("change(5, 0, 2)", x.change(5, 0, 2), 7);
            due("count(12)", x.count(12), 0);
            due("undo()", x.undo(), STATE);
            due("count(10), which stays", x.count(10), 1);
            x.sets(0, 9);
            x.passes(9);
            due("back(1)", x.back(1), 8);
            due("count(4)", x.count(4), 0);
            due("count(5)", x.count(5), 5);
            due("count(7)", x.count(7), 2);
            due("about(0, 5)", x.about(0, 5), 8);
            due("block(5, 1)", x.block(5, 1), 8);
        }
        x.passes(1);
        due("keep(0) again", x.keep(0), 9);
        x.back(1);
        due("back(0) again", x.back(0), 9);

        start("promise 34, nothing kept");
        x.keep(0);
        due("back(1)", x.back(1), STATE);
        due("back(0)", x.back(0), 0);
        x.passes(1);
        due("back(1) again", x.back(1), STATE);
        due("count(12)", x.count(12), 1);
    }

    private static void count() {
        start("promise 35");
        told("[s;a:8;b@s.a;];c:8;[t;d=c;e=1;");
        x.sizes(2);
        x.sets(0, 1);
        x.passes(3);
        x.sets(0, 2);
        x.sets(2, 2);
        x.sees(0, 0);
        x.sees(1, 0);
        send("abc");
        int[] counts = {5, 2, 2, 3, 1, 2, 2, 0, 3, 4 + 4 + 3 + 4 + 2 + 1, 2, 3, 5};
        for (int what = 0; what < counts.length; what++) {
            due("count(" + what + ")", x.count(what), counts[what]);
        }
        due("count(-1)", x.count(-1), BAD);
        due("count(13)", x.count(13), BAD);
        due("count(LEAST)", x.count(LEAST), BAD);
        due("count(GREATEST)", x.count(GREATEST), BAD);
        x.dumps(0);
        due("count(4) off the record", x.count(4), 0);
        for (int i = 0; i < 6; i++) {
            x.dumps(1);
            x.dumps(0);
        }
        due("count(6)", x.count(6), 6);
        due("count(7)", x.count(7), 2);
        due("count(8)", x.count(8), 0);
        due("count(9)", x.count(9), 24);
    }
}

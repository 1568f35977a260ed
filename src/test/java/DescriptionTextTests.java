/** Description: the text buffer, items, expressions, tokens and the position of an error. */
public final class DescriptionTextTests extends Bench {
    public static void main(String[] args) throws ReflectiveOperationException {
        run(DescriptionTextTests.class);
    }

    /** The value of an expression that has no UNKNOWN in it. */
    private void computes(String expression, int value) {
        fine("a=" + expression + ";", 1);
        due(x.at(0, 0), value);
    }

    // ---- Items

    @Sentence("The text buffer holds at most 160 bytes.")
    void descriptionTextOf160Bytes() {
        for (int i = 1; i <= 160; i++) {
            due(x.type(i <= 4 ? "a:1;".charAt(i - 1) : ' '), i);
        }
        refused(FULL, () -> x.type(';'), () -> x.type(' '));
        due(x.tells(), 1);
        due(x.type('b'), 1);
        wrong("a:1;" + spaces(155) + "b", 160);
    }

    @Sentence("A text consists of items, perhaps none,")
    void descriptionItems() {
        fine("", 0);
        fine("a:1;", 1);
        fine(spaces(160), 0);
        fine("[a;];".repeat(32), 64);
        due(x.count(2), 1);
        wrong(";", 0);
        wrong("a:1;;", 4);
    }

    @Sentence("each of which ends with a semicolon.")
    void descriptionSemicolons() {
        fine("a:1;", 1);
        wrong("a:1", 3);
        wrong("a:1 ", 4);
        wrong("a:1,", 3);
        wrong("a:1 b:1;", 4);
        wrong("a:1;b@a", 7);
        wrong("a=1", 3);
        wrong("[s", 2);
        wrong("[s[t;", 2);
        wrong("[s;]", 4);
        wrong("[s;]a:1;", 4);
    }

    @Sentence("At the beginning no scope is open; some may be open at the end.")
    void descriptionOpenScopes() {
        fine("[a;[b;[c;[d;", 4);
        send("e:1;];");
        refused(-14, () -> x.tells());
        x.clear();
        send("e:1;");
        due(x.tells(), 1);
        due(x.about(0, 3), NONE);
        wrong("];", 0);
    }

    @Sentence("[ and a name: the scope with this name directly in the open scope, or at the top level if"
        + " none is open, becomes the open one; if there is none, it is made.")
    void descriptionOpening() {
        fine("[a;x:1;];[a;y:1;[a;z:1;];[a;w:1;", 10);
        due(x.count(2), 2);
        due(x.scope(0, 0), NONE);
        due(x.scope(1, 0), 0);
        int[] homes = {0, 0, 1, 1};
        for (int n = 0; n < 4; n++) {
            due(x.about(n, 3), homes[n]);
        }
        wrong("[;", 1);
        wrong("[];", 1);
        wrong("[1;", 1);
        fine("[a;[b;];];[b;[a;", 6);
        int[] around = {NONE, 0, NONE, 2};
        for (int s = 0; s < 4; s++) {
            due(x.scope(s, 0), around[s]);
        }
    }

    @Sentence("]: the scope around the open one becomes the open one, or none is open if the open one is"
        + " at the top level.")
    void descriptionClosing() {
        fine("[a;[b;];x:1;];y:1;[c;z:1;", 8);
        due(x.about(0, 3), 0);
        due(x.about(1, 3), NONE);
        due(x.about(2, 3), 2);
        due(x.scope(2, 0), NONE);
        fine("[a;[b;[c;[d;];];];];", 8);
        wrong("[a;[b;[c;[d;];];];];];", 20);
    }

    @Sentence("a name, a colon and a number from 1 to 8: a wire of this width.")
    void descriptionWires() {
        for (int width = 1; width <= 8; width++) {
            fine("a:" + width + ";", 1);
            due(x.about(0, 0), 0);
            due(x.about(0, 1), width);
        }
        wrong("a:0;", 2);
        wrong("a:9;", 2);
        wrong("a:;", 2);
        wrong("a:b;", 2);
        wrong("a1;", 1);
        wrong(":1;", 0);
    }

    @Sentence("a name, @ and a path: an alias of the signal with this path.")
    void descriptionAliases() {
        fine("[s;a:1;];b@s.a;c@b;d=1;e@d;", 7);
        due(x.about(1, 0), 1);
        due(x.about(1, 2), 0);
        due(x.about(2, 2), 1);
        due(x.about(4, 2), 3);
        wrong("a:1;b@;", 6);
        wrong("a:1;b@1;", 6);
        wrong("a:1;b@(a);", 6);
        wrong("a:1;b@!a;", 6);
        wrong("a:1;b@a+a;", 7);
    }

    @Sentence("a name, = and an expression: a derived signal.")
    void descriptionDerived() {
        fine("a=7;b=a;", 2);
        due(x.about(0, 0), 2);
        due(x.about(1, 0), 2);
        due(x.about(1, 2), NONE);
        wrong("a=;", 2);
        wrong("a=", 2);
        wrong("a==1;", 2);
        wrong("=1;", 0);
    }

    @Sentence("New signals are in the open scope, or at the top level if none is open.")
    void descriptionNewSignals() {
        fine("a:1;[s;b:1;c@a;d=1;];e:1;f@a;g=1;", 9);
        int[] homes = {NONE, 0, 0, 0, NONE, NONE, NONE};
        for (int n = 0; n < homes.length; n++) {
            due(x.about(n, 3), homes[n]);
        }
    }

    @Sentence("A path is written as names with a dot between each two, beginning at the top level;")
    void descriptionWrittenPaths() {
        fine("[p;[q;[r;[s;t:1;u@p.q.r.s.t;", 6);
        due(x.about(1, 2), 0);
        wrong("[p;[q;[r;[s;t:1;u@t;", 18);
        wrong("[p;[q;[r;[s;t:1;u@s.t;", 18);
        wrong("[p;[q;[r;[s;t:1;u@p.q.r.st;", 25);
        wrong("[p;[q;[r;[s;t:1;u@p..q;", 20);
        wrong("[p;[q;[r;[s;t:1;u@.p;", 18);
    }

    @Sentence("its signal must be described before.")
    void descriptionDescribedBefore() {
        fine("a:1;b@a;c=b;", 3);
        wrong("b@a;a:1;", 2);
        wrong("c=a;a:1;", 2);
        wrong("a@a;", 2);
        wrong("a=a;", 2);
        wrong("a=1+a;", 4);
    }

    // ---- Expressions

    @Sentence("An expression is a term, followed by any number of times one of the signs & | ^ + - and a"
        + " term;")
    void descriptionExpressions() {
        computes("9", 9);
        computes("12&10", 8);
        computes("12|10", 14);
        computes("12^10", 6);
        computes("12+10", 22);
        computes("12-10", 2);
        computes("1+2+3+4+5+6", 21);
        wrong("a=1+;", 4);
        wrong("a=1+", 4);
        wrong("a=+1;", 2);
        wrong("a=-1;", 2);
        wrong("a=1++1;", 4);
        wrong("a=1*1;", 3);
        wrong("a=1!1;", 3);
        wrong("a=1(1);", 3);
    }

    @Sentence("it is evaluated from left to right, all signs having the same precedence.")
    void descriptionLeftToRight() {
        computes("1+2&2", 2);
        computes("1|6&4", 4);
        computes("1|2^3", 0);
        computes("1^3|2", 2);
        computes("9-3-2", 4);
        computes("9-3+2", 8);
        computes("1|1+1", 2);
        computes("1+(2&2)", 3);
    }

    @Sentence("A term is a number from 0 to 255, a path, ! and a term, or an expression in ( and ).")
    void descriptionTerms() {
        computes("0", 0);
        computes("255", 255);
        wrong("a=256;", 2);
        computes("!0", 1);
        computes("!!7", 1);
        computes("!1+1", 1);
        computes("(7)", 7);
        computes("!(1+255)", 1);
        computes("((1+2)&(2+4))", 2);
        fine("[s;a:1;b=s.a;", 3);
        wrong("a=!;", 3);
        wrong("a=!", 3);
        wrong("a=();", 3);
        wrong("a=(1;", 4);
        wrong("a=(1", 4);
        wrong("a=1);", 3);
        wrong("a=(1+2;", 6);
        wrong("a=[1];", 2);
    }

    @Sentence("An item has at most 6 numbers and paths together,")
    void descriptionSixOperands() {
        fine("w:8;a=1+2+3+w+w+w;b=w+w+w+w+w+w;c=1+2+3+4+5+6;", 4);
        wrong("w:8;a=1+2+3+w+w+w+w;", 18);
        wrong("w:8;a=1+2+3+w+w+w+1;", 18);
        wrong("a=1+(2+(3+(4+(5+(6+7)))));", 19);
        computes("(1+2)+(3+4)+(5+6)", 21);
    }

    @Sentence("and at most 6 characters ! and ( together.")
    void descriptionSixMarks() {
        fine("a=!!!!!!1;b=((((((1))))));c=!(!(!(1)));", 3);
        wrong("a=!!!!!!!1;", 8);
        wrong("a=(((((((1)))))));", 8);
        wrong("a=!(!(!(!1)));", 8);
        wrong("a=(!(!(!(1))));", 8);
        computes("(1)+(2)+(3)+(4)+(5)+(6)", 21);
        computes("!0+!0+!0+!0+!0+!0", 6);
        wrong("a=!0+!0+!0+!0+!0+!0+!0;", 20);
    }

    // ---- Tokens

    @Sentence("Spaces (32) may stand before, between and after tokens in any number;")
    void descriptionSpaces() {
        fine(" a : 1 ; [ s ; ] ; b @ a ; c = ! ( a + 12 ) - 3 ; ", 5);
        fine(spaces(75) + "a:1;" + spaces(81), 1);
        fine("a" + spaces(156) + ":1;", 1);
        fine("a:1" + spaces(156) + ";", 1);
        char[] others = {0, 9, 10, 13, 31, 33, 95, 127, 160, 255};
        for (char other : others) {
            wrong("a:1" + other + ";", 3);
            wrong(other + "a:1;", 0);
        }
    }

    @Sentence("they are needed only between two numbers.")
    void descriptionSpacesBetweenNumbers() {
        computes("12", 12);
        wrong("a=1 2;", 4);
        wrong("a=1 0;", 4);
        wrong("a:1 1;", 4);
        fine("[s;a:1;];b@s.a;c=!(s.a+12)&3|b;", 5);
    }

    @Sentence("A token is a letter from a to z (each by itself),")
    void descriptionLetters() {
        fine("a:1;z:1;", 2);
        wrong("az:1;", 1);
        wrong("[az;", 2);
        wrong("a:1;b@aa;", 7);
        wrong("a:1;b=aa;", 7);
        wrong("`:1;", 0);
        wrong("{:1;", 0);
    }

    @Sentence("a sequence of digits that is as long as possible,")
    void descriptionDigits() {
        for (int number = 0; number <= 255; number++) {
            computes("" + number, number);
        }
        wrong("a:12;", 2);
        wrong("a:11;", 2);
        wrong("a=2551;", 2);
        wrong("a=" + "1".repeat(158), 2);
        wrong("a:1:1;", 3);
        wrong("a:1/;", 3);
        wrong("a=12a;", 4);
    }

    @Sentence("or any other single byte but a space.")
    void descriptionSingleBytes() {
        for (int letter = 0; letter <= 255; letter++) {
            if (letter != ' ') {
                boolean mayFollow = "&|^+-;".indexOf(letter) >= 0;
                boolean isDigit = letter >= '0' && letter <= '9';
                wrong("a=9 " + (char) letter + "?;", mayFollow ? 5 : 4);
                wrong("a=1+" + (char) letter + "?;", isDigit || "!(".indexOf(letter) >= 0 ? 5 : 4);
            }
        }
    }

    @Sentence("Numbers are at most 255")
    void descriptionGreatestNumber() {
        computes("254", 254);
        computes("255", 255);
        wrong("a=256;", 2);
        wrong("a=260;", 2);
        wrong("a=300;", 2);
        wrong("a=1000;", 2);
        wrong("a=2550;", 2);
        wrong("a=65536;", 2);
        wrong("a=4294967296;", 2);
        wrong("a=18446744073709551616;", 2);
        wrong("a=1+256;", 4);
    }

    @Sentence("and have no 0 in front of another digit.")
    void descriptionLeadingZeros() {
        computes("0", 0);
        computes("100", 100);
        computes("200", 200);
        wrong("a=00;", 2);
        wrong("a=01;", 2);
        wrong("a=007;", 2);
        wrong("a=0255;", 2);
        wrong("a:01;", 2);
        wrong("a:08;", 2);
    }

    // ---- The position of an error

    @Sentence("The error position is the index, from 0 on, of the first byte of the first token that is"
        + " not allowed at its place,")
    void descriptionErrorPosition() {
        wrong("1", 0);
        wrong(" 1", 1);
        wrong(spaces(159) + "1", 159);
        wrong("a:1;b:  256  ;", 8);
        wrong("a:9;a:0;];", 2);
        wrong("a:1;];b:9;", 4);
    }

    @Sentence("or the length of the text if it ends too early.")
    void descriptionEndsTooEarly() {
        String[] begun = {"a", "a:", "a:1", "a@", "[", "[s", "[s;]", "a=", "a=!", "a=(", "a=(1",
            "a=(1)", "a=1+", "[s;a:1;b@s", "[s;a:1;b@s.", "[s;a:1;b@s.a", "[s;a:1;b=s", "[s;a:1;b=s."};
        for (String text : begun) {
            wrong(text, text.length());
            wrong(text + "  ", text.length() + 2);
        }
        wrong("a" + spaces(159), 160);
        wrong("a:1;" + "[s;];".repeat(31) + "b", 160);
    }

    @Sentence("Not allowed are also: [ if four scopes are open one in another;")
    void descriptionFiveOpen() {
        fine("[a;[b;[c;[d;];[e;", 6);
        wrong("[a;[b;[c;[d;[e;", 12);
        wrong("[a;[b;[c;[d; [a;", 13);
        wrong("[a;[b;[c;[d;[", 12);
        wrong("[a;[b;[c;[d;];[e;[f;", 17);
        fine("[a;[b;[c;[d;];];];];[a;[b;[c;[d;", 12);
        wrong("[a;[b;[c;[d;];];];];[a;[b;[c;[d;[", 32);
    }

    @Sentence("] if none is open;")
    void descriptionNoneOpen() {
        fine("[a;];", 2);
        wrong("];", 0);
        wrong("]", 0);
        wrong("[a;];];", 5);
        wrong("[a;[b;];];];", 10);
    }

    @Sentence("after [ a name that a signal there has,")
    void descriptionScopeNamedAsSignal() {
        wrong("a:1;[a;", 5);
        wrong("a=1;[a;", 5);
        wrong("a:1;b@a;[b;", 9);
        wrong("[s;a:1;[a;", 8);
        wrong("[s;a:1;];b:1;[s;[a;", 17);
        fine("a:1;[s;[a;", 3);
        fine("[s;a:1;];[a;", 4);
    }

    @Sentence("or that of a seventh scope;")
    void descriptionSeventhScope() {
        fine(SIX_SCOPES, 12);
        wrong(SIX_SCOPES + "[g;", 31);
        wrong(SIX_SCOPES + "[a;[a;", 34);
        wrong(SIX_SCOPES + "[ g", 32);
        wrong(SIX_SCOPES + "[7", 31);
        fine(SIX_SCOPES + "[f;", 13);
        fine("[a;[a;[a;[a;];[b;];[c;", 8);
        wrong("[a;[a;[a;[a;];[b;];[c;];[d;", 25);
    }

    @Sentence("the name of a thirteenth signal,")
    void descriptionThirteenthSignal() {
        fine(TWELVE, 12);
        wrong(TWELVE + "m@a;", 48);
        wrong(TWELVE + "m=1;", 48);
        wrong(TWELVE + "m:1;", 48);
        wrong(TWELVE + "m", 48);
        wrong(TWELVE + "[s; m", 52);
        fine(TWELVE + "[s;];", 14);
    }

    @Sentence("or of a signal if a signal or scope there has this name;")
    void descriptionNameTwice() {
        wrong("a:1;a:1;", 4);
        wrong("a:1;a@a;", 4);
        wrong("a:1;a=1;", 4);
        wrong("[s;];s:1;", 5);
        wrong("[s;a:1;a:1;", 7);
        wrong("[s;[t;];t:1;", 8);
        wrong("[s;a:1;];[s;a:1;", 12);
        fine("a:1;[s;a:1;s:1;", 4);
        fine("[s;a:1;];a:1;", 4);
        fine("[s;[t;];];t:1;", 5);
    }

    @Sentence("the colon of a seventh wire;")
    void descriptionSeventhWire() {
        fine(SIX_WIRES, 6);
        wrong(SIX_WIRES + "g:1;", 25);
        wrong(SIX_WIRES + "g :", 26);
        wrong(SIX_WIRES + "[s;g:1;", 28);
        fine(SIX_WIRES + "g@a;h=1;", 8);
    }

    @Sentence("the = of a fifth derived signal;")
    void descriptionFifthDerived() {
        fine(FOUR_DERIVED, 4);
        wrong(FOUR_DERIVED + "e=1;", 17);
        wrong(FOUR_DERIVED + "e =", 18);
        wrong(FOUR_DERIVED + "[s;e=1;", 20);
        fine(FOUR_DERIVED + "e@a;f:1;", 6);
    }

    @Sentence("in a path a name that does not exist at its place,")
    void descriptionNameNotThere() {
        fine("[s;[t;a:1;b@s.t.a;", 4);
        wrong("[s;[t;a:1;b@t.a;", 12);
        wrong("[s;[t;a:1;b@a;", 12);
        wrong("[s;[t;a:1;b@s.s;", 14);
        wrong("[s;[t;a:1;b@s.a;", 14);
        wrong("[s;[t;a:1;b@s.t.t;", 16);
        wrong("[s;[t;a:1;b=1+s.t.b;", 18);
        wrong("[s;[t;a:1;b=1+u.", 14);
    }

    @Sentence("another token than a dot after the name of a scope,")
    void descriptionNoDotBehindScope() {
        wrong("[s;a:1;b@s;", 10);
        wrong("[s;a:1;b@sa;", 10);
        wrong("[s;a:1;b@s a;", 11);
        wrong("[s;a:1;b=s+1;", 10);
        wrong("[s;a:1;b=(s);", 11);
        wrong("[s;a:1;b@s,a;", 10);
        wrong("[s;a:1;b@s..a;", 11);
    }

    @Sentence("and a dot after the name of a signal;")
    void descriptionDotBehindSignal() {
        wrong("[s;a:1;b@s.a.a;", 12);
        wrong("[s;a:1;b=s.a.a;", 12);
        wrong("a:1;b@a.;", 7);
        wrong("a:1;b=a .a;", 8);
        wrong("[p;[q;[r;[s;t:1;u@p.q.r.s.t.u;", 27);
    }

    @Sentence("the first token of a seventh number or path of an item,")
    void descriptionSeventhOperand() {
        fine("a=1+2+3+4+5+255;", 1);
        wrong("a=1+2+3+4+5+6+255;", 14);
        wrong("a=1+2+3+4+5+6+ 7;", 15);
        wrong("a=1+2+3+4+5+6+;", 14);
        wrong("a=1+2+3+4+5+(6+);", 15);
        wrong("[s;a:1;b=s.a+s.a+s.a+s.a+s.a+s.a+s.a;", 33);
        fine("[s;a:1;b=s.a+s.a+s.a+s.a+s.a+s.a;c=1+s.a;", 4);
        wrong("a=1+2+3+4+5+6+!7;", 15);
    }

    @Sentence("and its seventh ! or (;")
    void descriptionSeventhMark() {
        fine("a=!!!!!!1;", 1);
        wrong("a=!!!!!!!", 8);
        wrong("a=!!!!!!(", 8);
        wrong("a=((((((!", 8);
        wrong("a=(((((((", 8);
        wrong("a=(1)+(1)+(1)+!1+!1+!1+ (1);", 24);
        fine("a=!!!!!!1;b=!1;", 2);
    }

    @Sentence("a number that is out of its range.")
    void descriptionNumberOutOfRange() {
        fine("a:8;b=255;", 2);
        wrong("a:9;", 2);
        wrong("a:0;", 2);
        wrong("a:255;", 2);
        wrong("a:1;b=256;", 6);
        wrong("a:1;b=a+256;", 8);
    }
}

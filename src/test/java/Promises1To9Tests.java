/** Promises 1 to 9: a new object, the text buffer, signals and scopes. */
public final class Promises1To9Tests extends Bench {
    public static void main(String[] args) throws ReflectiveOperationException {
        run(Promises1To9Tests.class);
    }

    // ---- Promise 1

    @Sentence("Creates an object without signals and scopes, with an empty text buffer, without"
        + " observations and images.")
    void promise1NewObject() {
        int[] counts = {0, 0, 0, 0, 1, 4, 1, 0, 0, 2, 0, 0, 0};
        for (int what = 0; what < counts.length; what++) {
            due(x.count(what), counts[what]);
        }
        refused(BAD, () -> x.about(0, 0), () -> x.scope(0, 0), () -> x.listed(0, 0),
            () -> x.path(0, 0), () -> x.sets(0, 0), () -> x.at(0, 0), () -> x.ticks(1, -1));
        refused(STATE, () -> x.back(0), () -> x.back(1), () -> x.undo());
        due(x.listed(-1, 0), NONE);
        due(x.ticks(0, -1), 0);
        due(x.which(), 0);
        due(x.look(), NONE);
        due(x.forget(), 0);
        due(x.clear(), 0);
    }

    @Sentence("Creates an object without signals and scopes, with an empty text buffer, without"
        + " observations and images.")
    void promise1ObjectOfItsOwn() {
        SignalWaves first = x;
        fine("[s;a:8;", 2);
        SignalWaves second = x;
        send("b");
        x.sets(0, 9);
        x.passes(4);
        x.keep(0);
        x.sees(0, 9);
        x = first;
        promise1NewObject();
        fine("b:1;c=2;", 2);
        due(x.about(1, 5), 2);
        x = second;
        int[] counts = {1, 1, 1, 4, 1, 4, 1, 0, 1, 2 + 1 + 2 + 1, 1, 1, 2};
        for (int what = 0; what < counts.length; what++) {
            due(x.count(what), counts[what]);
        }
        due(x.at(0, 4), 9);
        due(x.which(), 1);
        due(x.back(0), 4);
    }

    // ---- Promise 2

    @Sentence("Appends a byte to the text buffer.")
    void promise2Appends() {
        fine("a:1;b:2;", 2);
        send("b");
        due(x.node(), 1);
        send("a");
        x.type('.');
        due(x.node(), -12);
    }

    @Sentence("`letter`: the byte, 0 to 255")
    void promise2Letter() {
        range(0, 255, letter -> x.type(letter));
        due(x.clear(), 2);
    }

    @Sentence("Returns how many bytes it holds; or BAD, FULL if it holds 160.")
    void promise2Returns() {
        for (int i = 1; i <= 160; i++) {
            due(x.type(i + 95), i);
        }
        refused(FULL, () -> x.type(97), () -> x.type(0), () -> x.type(255));
        due(x.clear(), 160);
        due(x.type(97), 1);
    }

    @Sentence("Returns how many bytes it holds; or BAD, FULL if it holds 160.")
    void promise2BadBeforeFull() {
        send(spaces(159));
        refused(BAD, () -> x.type(-1), () -> x.type(256));
        due(x.type(255), 160);
        refused(BAD, () -> x.type(-1), () -> x.type(256), () -> x.type(LEAST),
            () -> x.type(GREATEST));
        refused(FULL, () -> x.type(0));
    }

    // ---- Promise 3

    @Sentence("Empties the text buffer.")
    void promise3Empties() {
        send("a:1;");
        x.clear();
        due(x.count(11), 0);
        due(x.tells(), 0);
        due(x.count(0), 0);
        due(x.type('a'), 1);
    }

    @Sentence("Returns how many bytes it held.")
    void promise3Returns() {
        due(x.clear(), 0);
        x.type(0);
        due(x.clear(), 1);
        due(x.clear(), 0);
        send(spaces(161));
        due(x.clear(), 160);
        due(x.clear(), 0);
    }

    // ---- Promise 4

    /** A record in which nothing is as at first, with images and observations. */
    private void busy() {
        fine("a:8;b:8;", 2);
        x.sizes(1);
        x.sets(0, 9);
        moreBlocks(6);
        passTo(3);
        x.dumps(0);
        x.keep(0);
        x.keep(1);
        x.sees(0, 9);
        due(x.count(7), 1);
        due(x.count(12), 6);
    }

    @Sentence("Reads the signals and scopes from the text buffer, in place of all before.")
    void promise4InPlaceOfAllBefore() {
        fine("[s;a:1;];" + "b:1;c@b;d=1;", 6);
        send("z:8;");
        due(x.tells(), 1);
        due(x.count(0), 1);
        due(x.count(1), 1);
        due(x.count(2), 0);
        due(x.about(0, 1), 8);
        due(x.listed(-1, 0), 0);
        due(x.listed(-1, 1), NONE);
        refused(BAD, () -> x.about(1, 0), () -> x.scope(0, 0));
        due(x.tells(), 0);
        due(x.count(0), 0);
    }

    @Sentence("Reads the signals and scopes from the text buffer, in place of all before.")
    void promise4NothingLeftOfTextsBefore() {
        for (int i = 0; i < 3; i++) {
            x.clear();
            send("[a;[b;];];[c;d=1+2;e=3+4;f=5;g=6;" + (i == 1 ? "h=7;" : ""));
            due(x.tells(), i == 1 ? -44 : 9);
            x.clear();
            send("[x;[y;[z;a=!8;b=9;c=10;d=11-1;];];u:8;v:1;");
            due(x.tells(), 11);
            due(x.count(0), 6);
            due(x.count(1), 2);
            due(x.count(2), 3);
            int[] values = {0, 9, 10, 10, 0, 0};
            for (int n = 0; n < 6; n++) {
                due(x.at(n, 0), values[n]);
            }
            due(x.listed(-1, 0), 100);
            due(x.listed(-1, 1), NONE);
            due(x.listed(0, 2), 101);
        }
    }

    @Sentence("Reads the signals and scopes from the text buffer, in place of all before.")
    void promise4LimitsOfOneText() {
        for (int i = 0; i < 3; i++) {
            x.clear();
            send(SIX_WIRES + FOUR_DERIVED.replace("a", "w").replace("b", "x").replace("c", "y")
                .replace("d", "z") + "u@a;v@a;");
            due(x.tells(), 12);
            send(SIX_SCOPES);
            due(x.tells(), 12);
        }
    }

    @Sentence("If the text is correct, time, values, recording, block size and blocks are as at first,")
    void promise4RecordAsAtFirst() {
        busy();
        send("a:8;");
        due(x.tells(), 1);
        due(x.count(3), 0);
        due(x.about(0, 5), 0);
        due(x.count(4), 1);
        due(x.count(5), 4);
        due(x.count(6), 1);
        due(x.count(7), 0);
        due(x.count(8), 0);
        due(x.block(0, 0), 0);
        due(x.block(0, 1), NONE);
        due(x.frame(0, 0), 0);
        due(x.at(0, 0), 0);
        refused(BAD, () -> x.at(0, 1), () -> x.block(1, 0));
    }

    @Sentence("there are no observations and no images,")
    void promise4NoObservationsAndImages() {
        busy();
        due(x.tells(), 0);
        due(x.count(10), 0);
        due(x.forget(), 0);
        refused(STATE, () -> x.back(0), () -> x.back(1));
    }

    @Sentence("nothing can be undone, and the text buffer is empty then.")
    void promise4NothingToUndo() {
        busy();
        send("a:8;b:8;");
        due(x.tells(), 2);
        due(x.count(12), 0);
        refused(STATE, () -> x.undo());
        due(x.count(11), 0);
        due(x.clear(), 0);
    }

    @Sentence("If it has an error, everything stays, the text buffer too.")
    void promise4ErrorChangesNothing() {
        busy();
        send("[s;q:1;r@q;s=1;");
        refused(-19, () -> x.tells());
        x.clear();
        send("q:1;[s;t:1;];[u;9");
        refused(-26, () -> x.tells());
        due(x.about(1, 4), 1);
        due(x.about(0, 1), 8);
        due(x.listed(-1, 2), NONE);
        due(x.which(), 1);
        due(x.undo(), 5);
        due(x.back(0), 3);
        due(x.back(1), 3);
        due(x.clear(), 17);
    }

    @Sentence("If it has an error, everything stays, the text buffer too.")
    void promise4TextGoesOnBehindError() {
        send("a:1");
        refused(-13, () -> x.tells());
        refused(-13, () -> x.tells());
        due(x.type(';'), 4);
        due(x.tells(), 1);
    }

    @Sentence("Returns how many items there are; or -10 minus the error position.")
    void promise4Returns() {
        fine("", 0);
        fine("a:1;", 1);
        fine("[a;];", 2);
        fine("[a;];".repeat(32), 64);
        wrong("1", 0);
        wrong("a:1;b", 5);
        wrong(spaces(159) + ";", 159);
        wrong(spaces(159) + "a", 160);
    }

    // ---- Promise 5

    @Sentence("Reads a path from the text buffer: names with a dot between each two, nothing else but"
        + " spaces.")
    void promise5Paths() {
        fine("[a;z:1;];b:1;", 4);
        due(found("a.z"), 0);
        due(found("  a  .  z  "), 0);
        due(found(spaces(159) + "b"), 1);
        due(found("b" + spaces(159)), 1);
    }

    @Sentence("Reads a path from the text buffer: names with a dot between each two, nothing else but"
        + " spaces.")
    void promise5NoPaths() {
        fine("[a;z:1;];b:1;", 4);
        due(found("az"), -11);
        due(found("a z"), -12);
        due(found(".a"), -10);
        due(found("a..z"), -12);
        due(found("b;"), -11);
        due(found("b1"), -11);
        due(found("1"), -10);
        due(found("`"), -10);
        due(found("{"), -10);
        due(found("B"), -10);
        due(found("a.Z"), -12);
        due(found("b\t"), -11);
        due(found("b@b"), -11);
    }

    @Sentence("If it is one, the text buffer is empty then, otherwise it stays.")
    void promise5TextBuffer() {
        fine("[a;z:1;];b:1;", 4);
        due(found("a.z"), 0);
        due(x.count(11), 0);
        due(found("a.y"), NONE);
        due(x.count(11), 0);
        due(found("a"), NONE);
        due(x.count(11), 0);
        send("a.");
        refused(-12, () -> x.node());
        due(x.type('z'), 3);
        due(x.node(), 0);
        send("b;");
        refused(-11, () -> x.node());
        due(x.clear(), 2);
    }

    @Sentence("Returns the signal with this path, or NONE if there is none;")
    void promise5NoSignal() {
        fine("[s;[t;a:1;];];b@s.t.a;", 6);
        due(found("s.t.a"), 0);
        due(found("b"), 1);
        String[] none = {"a", "s", "s.t", "t.a", "s.a", "s.b", "s.t.b", "s.t.a.a", "b.b", "c", "c.a",
            "t", "s.s.t.a", "s.t.a.b.c.d"};
        for (String path : none) {
            due(found(path), NONE);
        }
    }

    @Sentence("Returns the signal with this path, or NONE if there is none;")
    void promise5LongPaths() {
        fine("[p;[q;[r;[s;t:1;", 5);
        due(found("p.q.r.s.t"), 0);
        due(found("p.q.r.s.t.u"), NONE);
        due(found("p." + "q.".repeat(78) + "q"), NONE);
    }

    @Sentence("or -10 minus the error position (of a token that cannot stand in any path, or the length of"
        + " the text if it ends too early).")
    void promise5ErrorPositions() {
        fine("[s;a:1;", 2);
        due(found(""), -10);
        due(found(" "), -11);
        due(found(spaces(160)), -170);
        due(found("s."), -12);
        due(found("s.  "), -14);
        due(found("x.y."), -14);
        due(found("x.y.1"), -14);
    }

    @Sentence("or -10 minus the error position (of a token that cannot stand in any path, or the length of"
        + " the text if it ends too early).")
    void promise5LastErrorPosition() {
        due(found("s.".repeat(79) + "s;"), -169);
        due(found("s.".repeat(80)), -170);
    }

    // ---- Promise 6

    @Sentence("Returns a property of a signal.")
    void promise6Properties() {
        fine("[s;a:3;];b@s.a;[t;c=!b;", 6);
        x.sets(0, 5);
        int[][] due = {{0, 3, NONE, 0, 0, 5}, {1, NONE, 0, NONE, 1, 5}, {2, NONE, NONE, 1, 2, 0}};
        for (int n = 0; n < 3; n++) {
            for (int what = 0; what < 6; what++) {
                due(x.about(n, what), due[n][what]);
            }
        }
    }

    @Sentence("`n`: the signal")
    void promise6Signal() {
        fine(TWELVE, 12);
        range(0, 11, n -> x.about(n, 0));
        fine("a:1;", 1);
        range(0, 0, n -> x.about(n, 5));
        anew();
        refused(BAD, () -> x.about(0, 0), () -> x.about(-1, 0));
    }

    @Sentence("`what`: 0 0 for a wire, 1 for an alias, 2 for a derived signal;")
    void promise6Kinds() {
        fine("a:1;b@a;c=a;", 3);
        range(0, 5, what -> x.about(2, what));
        for (int n = 0; n < 3; n++) {
            due(x.about(n, 0), n);
        }
    }

    @Sentence("1 the width (NONE if it is no wire);")
    void promise6Widths() {
        fine("a:1;b:8;c@b;d=b;", 4);
        int[] widths = {1, 8, NONE, NONE};
        for (int n = 0; n < 4; n++) {
            due(x.about(n, 1), widths[n]);
        }
    }

    @Sentence("2 the signal of which it is an alias (NONE if it is none);")
    void promise6Originals() {
        fine("a:1;b@a;c=a;d@c;e@d;", 5);
        int[] originals = {NONE, 0, NONE, 2, 3};
        for (int n = 0; n < 5; n++) {
            due(x.about(n, 2), originals[n]);
        }
    }

    @Sentence("3 the scope that it is directly in (NONE for the top level);")
    void promise6Homes() {
        fine("g:1;" + SIX_SCOPES + "[f;b:1;];[a;c:1;", 18);
        due(x.about(0, 3), NONE);
        due(x.about(1, 3), 5);
        due(x.about(2, 3), 0);
    }

    @Sentence("4 the name, 0 for a to 25 for z;")
    void promise6Names() {
        fine("a:1;z:1;m:1;", 3);
        due(x.about(0, 4), 0);
        due(x.about(1, 4), 25);
        due(x.about(2, 4), 12);
    }

    @Sentence("5 the current value (of aliases and derived signals computed from the current values)")
    void promise6CurrentValues() {
        fine("a:8;b@a;c=a+1;", 3);
        due(x.about(0, 5), 0);
        due(x.about(2, 5), 1);
        x.dumps(0);
        x.passes(1);
        x.sets(0, 255);
        due(x.at(0, 1), UNKNOWN);
        due(x.about(0, 5), 255);
        due(x.about(1, 5), 255);
        due(x.about(2, 5), 0);
    }

    @Sentence("Returns the property; or BAD.")
    void promise6Bad() {
        fine("a:1;b@a;", 2);
        refused(BAD, () -> x.about(2, 1), () -> x.about(2, 2), () -> x.about(-1, 3),
            () -> x.about(0, -1), () -> x.about(0, 6), () -> x.about(-1, 6));
    }

    // ---- Promise 7

    @Sentence("Returns a property of a scope.")
    void promise7Properties() {
        fine("[s;[z;];];[a;", 5);
        int[][] due = {{NONE, 18}, {0, 25}, {NONE, 0}};
        for (int s = 0; s < 3; s++) {
            for (int what = 0; what < 2; what++) {
                due(x.scope(s, what), due[s][what]);
            }
        }
    }

    @Sentence("`s`: the scope")
    void promise7Scope() {
        fine(SIX_SCOPES, 12);
        range(0, 5, s -> x.scope(s, 0));
        fine("[s;", 1);
        range(0, 0, s -> x.scope(s, 1));
        anew();
        refused(BAD, () -> x.scope(0, 0), () -> x.scope(-1, 0));
    }

    @Sentence("`what`: 0 the scope that it is directly in (NONE for the top level),")
    void promise7Homes() {
        fine("[a;[b;[c;[d;];];];[e;", 8);
        range(0, 1, what -> x.scope(4, what));
        int[] homes = {NONE, 0, 1, 2, 0};
        for (int s = 0; s < 5; s++) {
            due(x.scope(s, 0), homes[s]);
        }
    }

    @Sentence("1 the name, 0 for a to 25 for z")
    void promise7Names() {
        fine("[z;[a;[m;", 3);
        int[] names = {25, 0, 12};
        for (int s = 0; s < 3; s++) {
            due(x.scope(s, 1), names[s]);
        }
    }

    @Sentence("Returns the property; or BAD.")
    void promise7Bad() {
        fine("[a;x:1;", 2);
        refused(BAD, () -> x.scope(1, 0), () -> x.scope(-1, 0), () -> x.scope(0, 2),
            () -> x.scope(0, -1), () -> x.scope(1, 2));
    }

    // ---- Promise 8

    @Sentence("Returns one of the signals and scopes that are directly in a scope, ordered by their names.")
    void promise8Order() {
        fine("z:1;[m;y:1;[b;];a@z;];k@z;[a;", 9);
        int[] top = {102, 3, 100, 0, NONE};
        int[] inner = {2, 101, 1, NONE};
        for (int k = 0; k < top.length; k++) {
            due(x.listed(-1, k), top[k]);
        }
        for (int k = 0; k < inner.length; k++) {
            due(x.listed(0, k), inner[k]);
        }
    }

    @Sentence("`s`: the scope, -1 for the top level")
    void promise8Scope() {
        fine(SIX_SCOPES, 12);
        range(-1, 5, s -> x.listed(s, 0));
        due(x.listed(-1, 0), 100);
        due(x.listed(5, 0), NONE);
        anew();
        range(-1, -1, s -> x.listed(s, 0));
    }

    @Sentence("`k`: which one, from 0 on")
    void promise8Which() {
        fine("b:1;a:1;", 2);
        due(x.listed(-1, 0), 1);
        due(x.listed(-1, 1), 0);
        refused(BAD, () -> x.listed(-1, -1), () -> x.listed(-1, LEAST));
    }

    @Sentence("Returns the number of the signal, or 100 plus the number of the scope; NONE if there are not"
        + " so many; or BAD (also if k is negative).")
    void promise8Returns() {
        fine(TWELVE + "[m;[a;[b;[c;];];];];[z;[y;", 22);
        for (int k = 0; k < 12; k++) {
            due(x.listed(-1, k), k);
        }
        due(x.listed(-1, 12), 100);
        due(x.listed(-1, 13), 104);
        due(x.listed(-1, 14), NONE);
        due(x.listed(-1, GREATEST), NONE);
        due(x.listed(4, 0), 105);
        due(x.listed(4, 1), NONE);
        due(x.listed(5, 0), NONE);
        refused(BAD, () -> x.listed(6, 0), () -> x.listed(-2, 0), () -> x.listed(5, -1),
            () -> x.listed(6, GREATEST), () -> x.listed(-2, -1));
    }

    // ---- Promise 9

    @Sentence("Returns a name of the path of a signal.")
    void promise9Names() {
        fine("[s;[t;a:1;];b:1;];c:1;", 7);
        int[][] due = {{18, 19, 0, NONE}, {18, 1, NONE, NONE}, {2, NONE, NONE, NONE}};
        for (int n = 0; n < 3; n++) {
            for (int k = 0; k < 4; k++) {
                due(x.path(n, k), due[n][k]);
            }
        }
    }

    @Sentence("`n`: the signal")
    void promise9Signal() {
        fine(TWELVE, 12);
        range(0, 11, n -> x.path(n, 0));
        anew();
        refused(BAD, () -> x.path(0, 0), () -> x.path(-1, 0));
    }

    @Sentence("`k`: which one, from 0 on")
    void promise9Which() {
        fine("[s;a:1;", 2);
        due(x.path(0, 0), 18);
        due(x.path(0, 1), 0);
        refused(BAD, () -> x.path(0, -1), () -> x.path(0, LEAST));
    }

    @Sentence("Returns the name, 0 for a to 25 for z; NONE if there are not so many; or BAD (also if k is"
        + " negative).")
    void promise9Returns() {
        fine("[a;[z;[a;[z;a:1;];];];];z:1;", 10);
        int[] longest = {0, 25, 0, 25, 0, NONE};
        for (int k = 0; k < longest.length; k++) {
            due(x.path(0, k), longest[k]);
        }
        due(x.path(0, GREATEST), NONE);
        due(x.path(1, 0), 25);
        due(x.path(1, 1), NONE);
        refused(BAD, () -> x.path(2, 0), () -> x.path(2, GREATEST), () -> x.path(-1, 1),
            () -> x.path(1, -1), () -> x.path(2, -1));
    }
}

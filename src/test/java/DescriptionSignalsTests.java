/** Description: the codes that are answered, sets, signals and scopes. */
public final class DescriptionSignalsTests extends Bench {
    public static void main(String[] args) throws ReflectiveOperationException {
        run(DescriptionSignalsTests.class);
    }

    @Sentence("BAD (-1): an argument is out of range or names something that does not exist.")
    void descriptionBad() {
        due(SignalWaves.BAD, -1);
        fine("a:1;[s;", 2);
        due(x.type(255), 1);
        due(x.about(0, 0), 0);
        due(x.scope(0, 1), 18);
        refused(-1, () -> x.type(256), () -> x.about(1, 0), () -> x.scope(1, 1));
    }

    @Sentence("STATE (-2): the call is not possible now.")
    void descriptionState() {
        due(SignalWaves.STATE, -2);
        refused(-2, () -> x.undo());
        x.passes(1);
        due(x.undo(), 0);
        refused(-2, () -> x.undo());
    }

    @Sentence("FULL (-3): a capacity would be exceeded.")
    void descriptionFull() {
        due(SignalWaves.FULL, -3);
        for (int i = 1; i <= 6; i++) {
            due(x.sees(0, 0), i);
        }
        refused(-3, () -> x.sees(0, 0));
    }

    @Sentence("If several of them apply, the first one in this order is returned")
    void descriptionBadBeforeFull() {
        send(spaces(160));
        refused(FULL, () -> x.type(0), () -> x.type(255));
        refused(BAD, () -> x.type(-1), () -> x.type(256));
        for (int i = 1; i <= 6; i++) {
            x.sees(0, 0);
        }
        refused(FULL, () -> x.sees(999, 255), () -> x.sees(0, UNKNOWN));
        refused(BAD, () -> x.sees(1000, 255), () -> x.sees(-1, 0), () -> x.sees(0, 256),
            () -> x.sees(0, -1));
    }

    @Sentence("If several of them apply, the first one in this order is returned")
    void descriptionBadBeforeState() {
        fine("a:1;b@a;c=0;", 3);
        passTo(999);
        refused(STATE, () -> x.passes(1), () -> x.passes(99), () -> x.sets(0, 0),
            () -> x.dumps(1), () -> x.sizes(4), () -> x.back(0), () -> x.back(1));
        refused(BAD, () -> x.passes(0), () -> x.passes(100), () -> x.sets(1, 0),
            () -> x.sets(2, 0), () -> x.dumps(2), () -> x.sizes(9), () -> x.back(-1),
            () -> x.back(2));
    }

    @Sentence("and nothing is changed then")
    void descriptionRefusedSetsChangeNothing() {
        fine("a:1;b:8;", 2);
        x.sizes(1);
        x.sets(0, 1);
        refused(STATE, () -> x.sets(0, 1), () -> x.sets(1, 0));
        refused(BAD, () -> x.sets(0, 2), () -> x.sets(1, 256), () -> x.sets(2, 0));
        dueAt(0, 1);
        dueAt(1, 0);
        due(x.undo(), 1);
        dueAt(0, 0);
    }

    @Sentence("and nothing is changed then")
    void descriptionRefusedCallsChangeNothing() {
        fine("a:8;", 1);
        x.sets(0, 7);
        passTo(998);
        x.keep(0);
        x.sees(998, 7);
        send("q;");
        refused(STATE, () -> x.passes(2), () -> x.dumps(1), () -> x.sizes(4), () -> x.back(1));
        refused(BAD, () -> x.passes(0), () -> x.dumps(-1), () -> x.sizes(0), () -> x.back(2),
            () -> x.keep(2), () -> x.sees(0, 300), () -> x.type(256));
        refused(-11, () -> x.tells(), () -> x.node());
        due(x.which(), 1);
        due(x.at(0, 998), 7);
        due(x.clear(), 2);
        due(x.passes(1), 999);
        due(x.back(0), 998);
    }

    @Sentence("UNKNOWN (-7) is a value, no error.")
    void descriptionUnknown() {
        due(SignalWaves.UNKNOWN, -7);
        fine("a:1;", 1);
        x.dumps(0);
        x.passes(1);
        due(x.at(0, 0), 0);
        due(x.at(0, 1), -7);
        due(x.first(0, -7, 0), 1);
        due(x.sees(1, -7), 1);
        due(x.which(), 1);
    }

    @Sentence("NONE (-9) is no error; it means that there is no such thing, and it is returned only if"
        + " no error applies.")
    void descriptionNoneOfSignals() {
        due(SignalWaves.NONE, -9);
        fine("a:1;b@a;[s;", 3);
        due(x.about(0, 2), -9);
        due(x.about(1, 1), -9);
        due(x.about(0, 3), -9);
        due(x.scope(0, 0), -9);
        due(x.listed(-1, 3), -9);
        due(x.listed(0, 0), -9);
        due(x.path(0, 1), -9);
        refused(BAD, () -> x.about(2, 2), () -> x.about(-1, 1), () -> x.about(0, 6),
            () -> x.scope(1, 0), () -> x.scope(-1, 0), () -> x.listed(1, 0), () -> x.listed(-2, 3),
            () -> x.listed(0, -1), () -> x.path(2, 1), () -> x.path(-1, 1), () -> x.path(0, -1));
    }

    @Sentence("NONE (-9) is no error; it means that there is no such thing, and it is returned only if"
        + " no error applies.")
    void descriptionNoneOfTheRecord() {
        fine("a:1;", 1);
        due(x.next(0, 0, 0), -9);
        due(x.previous(0, 0, 0), -9);
        due(x.first(0, 1, 0), -9);
        due(x.holds(0, 1, 0), -9);
        due(x.ticks(0, 0), -9);
        due(x.delay(0, 0), -9);
        due(x.block(0, 1), -9);
        due(x.change(0, 0, 0), -9);
        due(x.look(), -9);
        refused(BAD, () -> x.next(1, 0, 0), () -> x.next(0, 3, 0), () -> x.next(0, 0, 1),
            () -> x.previous(1, 0, 0), () -> x.previous(0, 3, 0), () -> x.previous(0, 0, 1),
            () -> x.first(1, 1, 0), () -> x.first(0, 256, 0), () -> x.first(0, 1, 1),
            () -> x.holds(1, 1, 0), () -> x.holds(0, 0, 0), () -> x.holds(0, 1, 1),
            () -> x.ticks(2, 0), () -> x.ticks(0, -2), () -> x.delay(0, 1), () -> x.delay(1, 0),
            () -> x.block(1, 1), () -> x.change(1, 0, 0), () -> x.change(0, -1, 0),
            () -> x.change(0, 0, 4), () -> x.jump(1));
    }

    @Sentence("A set is a bit mask in which bit k stands for number k.")
    void descriptionSets() {
        fine(TWELVE, 12);
        due(x.which(), 0b1111_1111_1111);
        fine("a:1;b:1;c:1;", 3);
        wave(0, 1, 1);
        wave(1, 2, 1);
        wave(2, 3, 1);
        due(x.ticks(0b001, 0), 1);
        due(x.ticks(0b010, 0), 2);
        due(x.ticks(0b100, 0), 3);
        due(x.ticks(0b110, -1), 2);
        x.sees(2, 1);
        x.sees(1, 0);
        due(x.which(), 0b010);
    }

    @Sentence("There are at most 12 signals, numbered from 0")
    void descriptionTwelveSignals() {
        fine(TWELVE, 12);
        due(x.count(0), 12);
        due(x.about(0, 4), 0);
        due(x.about(11, 4), 11);
        refused(BAD, () -> x.about(12, 4), () -> x.about(-1, 4));
        wrong(TWELVE + "m@a;", 48);
        due(x.count(0), 0);
    }

    @Sentence("and at most 6 scopes, numbered from 0.")
    void descriptionSixScopes() {
        fine(SIX_SCOPES, 12);
        due(x.count(2), 6);
        due(x.scope(0, 1), 0);
        due(x.scope(5, 1), 5);
        refused(BAD, () -> x.scope(6, 1), () -> x.scope(-1, 1));
        wrong(SIX_SCOPES + "[g;", 31);
        due(x.count(2), 0);
    }

    @Sentence("A signal is a wire (at most 6 of them)")
    void descriptionSixWires() {
        fine(SIX_WIRES, 6);
        due(x.count(1), 6);
        due(x.sets(5, 1), 1);
        wrong(SIX_WIRES + "g:1;", 25);
    }

    @Sentence("with a width of 1 to 8 bits,")
    void descriptionWidths() {
        fine("a:1;b:8;", 2);
        due(x.about(0, 1), 1);
        due(x.about(1, 1), 8);
        wrong("a:0;", 2);
        wrong("a:9;", 2);
    }

    @Sentence("an alias of another signal,")
    void descriptionAliasOfAnother() {
        fine("a:1;b@a;", 2);
        due(x.about(1, 2), 0);
        wrong("a@a;", 2);
        wrong("a:1;b@b;", 6);
    }

    @Sentence("or derived (at most 4 of them) by an expression.")
    void descriptionFourDerived() {
        fine(FOUR_DERIVED + "e:1;f@d;", 6);
        due(x.about(3, 0), 2);
        due(x.at(3, 0), 4);
        wrong(FOUR_DERIVED + "e=5;", 17);
    }

    @Sentence("A scope is in another scope or at the top level, at most 4 deep;")
    void descriptionFourDeep() {
        fine("[a;[b;[c;[d;", 4);
        due(x.scope(0, 0), NONE);
        due(x.scope(3, 0), 2);
        wrong("[a;[b;[c;[d;[e;", 12);
    }

    @Sentence("a signal is in a scope or at the top level.")
    void descriptionHomes() {
        fine("a:1;[s;b:1;[t;c:1;", 5);
        due(x.about(0, 3), NONE);
        due(x.about(1, 3), 0);
        due(x.about(2, 3), 1);
    }

    @Sentence("Signals and scopes have names, letters from a to z;")
    void descriptionNames() {
        fine("a:1;z:1;[b;[y;", 4);
        due(x.about(0, 4), 0);
        due(x.about(1, 4), 25);
        fine("[a;[z;", 2);
        due(x.scope(0, 1), 0);
        due(x.scope(1, 1), 25);
        for (char sign : "`{AZ01_".toCharArray()) {
            wrong(sign + ":1;", 0);
            wrong("[" + sign + ";", 1);
        }
    }

    @Sentence("those directly in the same scope, or at the top level, have different names.")
    void descriptionDifferentNames() {
        fine("a:1;[s;a:1;[b;a:1;];];", 7);
        due(x.count(0), 3);
        due(x.count(2), 2);
        wrong("a:1;a:1;", 4);
        wrong("[s;a:1;a:1;", 7);
        wrong("[s;];s:1;", 5);
        wrong("[s;[s;];s:1;", 8);
    }

    @Sentence("The path of a signal consists of the names of the scopes around it, the outermost one"
        + " first, and then its own name.")
    void descriptionPaths() {
        fine("[p;[q;[r;[s;t:1;];];];];u:1;", 10);
        int[] longest = {15, 16, 17, 18, 19, NONE};
        for (int k = 0; k < longest.length; k++) {
            due(x.path(0, k), longest[k]);
        }
        due(x.path(1, 0), 20);
        due(x.path(1, 1), NONE);
        due(found("p.q.r.s.t"), 0);
        due(found("q.r.s.t"), NONE);
        due(found("s.r.q.p.t"), NONE);
        due(found("u"), 1);
    }
}

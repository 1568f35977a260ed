/** Promises 10 to 14: recording, and undoing it. */
public final class Promises10To14Tests extends Bench {
    public static void main(String[] args) throws ReflectiveOperationException {
        run(Promises10To14Tests.class);
    }

    // ---- Promise 10

    @Sentence("Gives a wire another value.")
    void promise10Gives() {
        fine("a:8;b:8;", 2);
        x.sets(1, 255);
        due(x.about(1, 5), 255);
        due(x.at(1, 0), 255);
        due(x.about(0, 5), 0);
        x.sets(1, 0);
        due(x.about(1, 5), 0);
        due(x.count(8), 2);
    }

    @Sentence("`n`: the signal, which must be a wire")
    void promise10Wire() {
        fine("a:1;b@a;c=a;d:1;", 4);
        refused(BAD, () -> x.sets(1, 1), () -> x.sets(2, 1), () -> x.sets(4, 1),
            () -> x.sets(-1, 1), () -> x.sets(LEAST, 1), () -> x.sets(GREATEST, 1));
        due(x.sets(0, 1), 1);
        due(x.sets(3, 1), 1);
        anew();
        refused(BAD, () -> x.sets(0, 0), () -> x.sets(0, 1));
    }

    @Sentence("`v`: the new value, 0 to the greatest value of its width")
    void promise10Values() {
        for (int width = 1; width <= 8; width++) {
            int greatest = (1 << width) - 1;
            fine("a:" + width + ";", 1);
            refused(BAD, () -> x.sets(0, greatest + 1), () -> x.sets(0, -1), () -> x.sets(0, LEAST),
                () -> x.sets(0, GREATEST), () -> x.sets(0, UNKNOWN));
            due(x.sets(0, greatest), 1);
            due(x.about(0, 5), greatest);
            due(x.sets(0, 0), 1);
        }
    }

    @Sentence("Returns 1 if the change is recorded, 0 if not; or BAD, STATE if it has this value already.")
    void promise10Returns() {
        fine("a:8;", 1);
        refused(STATE, () -> x.sets(0, 0));
        due(x.sets(0, 1), 1);
        refused(STATE, () -> x.sets(0, 1));
        x.dumps(0);
        refused(STATE, () -> x.sets(0, 1));
        due(x.sets(0, 2), 0);
        due(x.count(8), 1);
        refused(STATE, () -> x.sets(0, 2));
        x.dumps(1);
        refused(STATE, () -> x.sets(0, 2));
        due(x.sets(0, 1), 1);
        due(x.count(8), 2);
    }

    @Sentence("Returns 1 if the change is recorded, 0 if not; or BAD, STATE if it has this value already.")
    void promise10BadBeforeState() {
        fine("a:1;b@a;c=0;", 3);
        refused(STATE, () -> x.sets(0, 0));
        refused(BAD, () -> x.sets(1, 0), () -> x.sets(2, 0), () -> x.sets(3, 0), () -> x.sets(-1, 0));
    }

    // ---- Promise 11

    @Sentence("Lets time pass.")
    void promise11Passes() {
        fine("a:1;", 1);
        x.passes(3);
        due(x.count(3), 3);
        x.dumps(0);
        x.passes(2);
        due(x.count(3), 5);
        due(x.count(6), 1);
        due(x.at(0, 5), UNKNOWN);
        refused(BAD, () -> x.at(0, 6));
    }

    @Sentence("`n`: by how much, 1 to 99")
    void promise11HowMuch() {
        range(1, 99, n -> x.passes(n));
        due(x.count(3), 100);
    }

    @Sentence("Returns the time then; or BAD, STATE if it would be greater than 999.")
    void promise11Returns() {
        due(x.passes(99), 99);
        passTo(900);
        due(x.passes(98), 998);
        refused(STATE, () -> x.passes(2), () -> x.passes(99));
        due(x.passes(1), 999);
        refused(STATE, () -> x.passes(1), () -> x.passes(99));
        x.undo();
        x.undo();
        due(x.passes(99), 999);
        x.undo();
        x.passes(1);
        refused(STATE, () -> x.passes(99));
    }

    @Sentence("Returns the time then; or BAD, STATE if it would be greater than 999.")
    void promise11BadBeforeState() {
        passTo(999);
        refused(STATE, () -> x.passes(1), () -> x.passes(99));
        refused(BAD, () -> x.passes(0), () -> x.passes(100), () -> x.passes(-1),
            () -> x.passes(LEAST), () -> x.passes(GREATEST));
    }

    // ---- Promise 12

    @Sentence("Switches recording on or off.")
    void promise12Switches() {
        fine("a:8;", 1);
        x.dumps(0);
        due(x.count(4), 0);
        due(x.sets(0, 1), 0);
        x.dumps(1);
        due(x.count(4), 1);
        due(x.sets(0, 2), 1);
    }

    @Sentence("`on`: 1 for on, 0 for off")
    void promise12On() {
        range(0, 1, on -> x.dumps(on));
        x.dumps(0);
        refused(BAD, () -> x.dumps(2), () -> x.dumps(-1));
    }

    @Sentence("Returns how many blocks are in the list; or BAD, STATE if it is so already.")
    void promise12Returns() {
        for (int blocks = 1; blocks <= 8; blocks++) {
            due(x.dumps(0), Math.min(blocks, 6));
            due(x.dumps(1), Math.min(blocks + 1, 6));
        }
        due(x.count(7), 3);
    }

    @Sentence("Returns how many blocks are in the list; or BAD, STATE if it is so already.")
    void promise12Already() {
        refused(STATE, () -> x.dumps(1));
        refused(BAD, () -> x.dumps(2), () -> x.dumps(-1));
        passTo(5);
        x.dumps(0);
        passTo(6);
        refused(STATE, () -> x.dumps(0));
        due(x.block(0, 1), 5);
        refused(BAD, () -> x.dumps(2), () -> x.dumps(-1), () -> x.dumps(LEAST),
            () -> x.dumps(GREATEST));
    }

    // ---- Promise 13

    @Sentence("Sets the block size.")
    void promise13Sets() {
        fine("a:1;", 1);
        x.sizes(2);
        due(x.count(5), 2);
        toggle(0, 2);
        due(x.count(6), 1);
        toggle(0, 1);
        due(x.count(6), 2);
        x.sizes(1);
        due(x.count(6), 2);
        due(x.block(0, 2), 2);
    }

    @Sentence("`n`: the new size, 1 to 8")
    void promise13Size() {
        range(1, 8, n -> x.sizes(n));
        due(x.count(5), 8);
    }

    @Sentence("Returns the previous one; or BAD, STATE if it is the same.")
    void promise13Returns() {
        refused(STATE, () -> x.sizes(4));
        int previous = 4;
        int[] sizes = {1, 2, 3, 4, 5, 6, 7, 8, 1, 8};
        for (int size : sizes) {
            due(x.sizes(size), previous);
            refused(STATE, () -> x.sizes(size));
            previous = size;
        }
        refused(BAD, () -> x.sizes(9), () -> x.sizes(0));
    }

    // ---- Promise 14

    @Sentence("Undoes the latest call of sets, passes, dumps or sizes that returned no error and has not"
        + " been undone;")
    void promise14LatestCalls() {
        fine("a:8;", 1);
        x.sets(0, 3);
        x.passes(5);
        x.sizes(1);
        x.dumps(0);
        due(x.undo(), 3);
        due(x.count(4), 1);
        due(x.block(0, 1), NONE);
        due(x.undo(), 2);
        due(x.count(5), 4);
        due(x.undo(), 1);
        due(x.count(3), 0);
        due(x.undo(), 0);
        due(x.about(0, 5), 0);
        due(x.at(0, 0), 0);
    }

    @Sentence("Undoes the latest call of sets, passes, dumps or sizes that returned no error and has not"
        + " been undone;")
    void promise14NotCallsWithErrors() {
        fine("a:8;", 1);
        x.passes(5);
        x.sets(0, 1);
        refused(STATE, () -> x.sets(0, 1), () -> x.dumps(1), () -> x.sizes(4));
        refused(BAD, () -> x.sets(0, 256), () -> x.passes(100), () -> x.dumps(2), () -> x.sizes(9));
        due(x.count(12), 2);
        due(x.undo(), 1);
        due(x.count(8), 0);
        x.sizes(5);
        due(x.undo(), 1);
        due(x.undo(), 0);
        due(x.count(3), 0);
        refused(STATE, () -> x.undo());
    }

    @Sentence("Undoes the latest call of sets, passes, dumps or sizes that returned no error and has not"
        + " been undone;")
    void promise14NotOtherCalls() {
        fine("a:8;", 1);
        x.passes(5);
        x.sees(0, 0);
        x.keep(0);
        x.type('a');
        x.forget();
        x.best();
        due(x.count(12), 1);
        due(x.undo(), 0);
        due(x.count(3), 0);
        due(x.count(11), 1);
        due(x.back(0), 5);
    }

    @Sentence("everything about recording is as before it.")
    void promise14AllAsBefore() {
        fine("a:8;", 1);
        x.sizes(1);
        for (int i = 1; i <= 6; i++) {
            passTo(i);
            x.sets(0, i);
        }
        x.sets(0, 7);
        due(x.count(7), 1);
        due(x.undo(), 5);
        due(x.count(7), 0);
        due(x.count(6), 6);
        due(x.about(0, 5), 6);
        for (int b = 0; b < 6; b++) {
            due(x.block(b, 0), b == 0 ? 0 : b + 1);
            due(x.block(b, 1), NONE);
            due(x.frame(b, 0), b);
            due(x.change(b, 0, 0), b + 1);
            due(x.change(b, 0, 2), b + 1);
            due(x.change(b, 1, 0), NONE);
        }
    }

    @Sentence("everything about recording is as before it.")
    void promise14SwitchingAsBefore() {
        fine("a:8;", 1);
        moreBlocks(5);
        passTo(2);
        x.dumps(0);
        passTo(4);
        x.dumps(1);
        due(x.count(7), 1);
        x.undo();
        due(x.count(4), 0);
        due(x.count(7), 0);
        due(x.block(5, 1), 2);
        due(x.at(0, 3), UNKNOWN);
        x.undo();
        due(x.count(3), 2);
        x.undo();
        due(x.count(4), 1);
        due(x.block(5, 1), NONE);
        due(x.at(0, 2), 0);
    }

    @Sentence("everything about recording is as before it.")
    void promise14QuestionsAsBefore() {
        fine("a:8;b:8;", 2);
        x.sets(1, 1);
        passTo(10);
        wave(0, 15, 7);
        passTo(20);
        x.sets(1, 0);
        x.dumps(0);
        due(x.ticks(3, -1), 2);
        due(x.next(1, 0, 0), 20);
        due(x.holds(0, 6, 0), 15);
        due(x.delay(0, 1), 5);
        due(x.look(), 0);
        for (int i = 0; i < 5; i++) {
            due(x.undo(), 5 - i);
        }
        due(x.count(3), 10);
        due(x.ticks(3, -1), 0);
        due(x.ticks(3, 0), NONE);
        due(x.next(0, 0, 0), NONE);
        due(x.next(1, 0, 0), NONE);
        due(x.previous(1, 0, 10), NONE);
        due(x.first(0, 7, 0), NONE);
        due(x.holds(0, 1, 0), NONE);
        due(x.holds(1, 11, 0), 0);
        due(x.holds(1, 12, 0), NONE);
        due(x.delay(0, 1), NONE);
        due(x.delay(1, 0), NONE);
    }

    @Sentence("The last 6 such calls can be undone.")
    void promise14LastSix() {
        for (int i = 1; i <= 6; i++) {
            x.passes(i);
            due(x.count(12), i);
        }
        x.passes(7);
        due(x.count(12), 6);
        due(x.undo(), 5);
        due(x.count(3), 21);
        x.passes(8);
        due(x.count(12), 6);
        int[] times = {21, 15, 10, 6, 3, 1};
        for (int i = 0; i < 6; i++) {
            due(x.undo(), 5 - i);
            due(x.count(3), times[i]);
        }
        refused(STATE, () -> x.undo());
    }

    @Sentence("Returns how many more can be undone; or STATE if none can.")
    void promise14Returns() {
        refused(STATE, () -> x.undo());
        x.passes(1);
        x.dumps(0);
        due(x.undo(), 1);
        due(x.undo(), 0);
        refused(STATE, () -> x.undo());
        x.sizes(1);
        due(x.undo(), 0);
        due(x.count(5), 4);
        refused(STATE, () -> x.undo());
    }
}

/** Promises 29 to 35: observations, images and numbers. */
public final class Promises29To35Tests extends Bench {
    public static void main(String[] args) throws ReflectiveOperationException {
        run(Promises29To35Tests.class);
    }

    // ---- Promise 29

    @Sentence("Adds an observation.")
    void promise29Adds() {
        fine("a:1;b:1;", 2);
        x.sets(0, 1);
        x.sees(0, 1);
        due(x.which(), 0b01);
        due(x.count(10), 1);
        x.sees(0, 1);
        due(x.count(10), 2);
        due(x.which(), 0b01);
    }

    @Sentence("`t`: the time, 0 to 999")
    void promise29Time() {
        range(0, 999, t -> x.sees(t, 0));
        due(x.count(10), 2);
        due(x.count(3), 0);
    }

    @Sentence("`v`: the value, 0 to 255 or UNKNOWN")
    void promise29Value() {
        range(0, 255, v -> x.sees(0, v));
        range(UNKNOWN, UNKNOWN, v -> x.sees(0, v));
        refused(BAD, () -> x.sees(0, NONE), () -> x.sees(0, STATE), () -> x.sees(0, -256));
        due(x.count(10), 4);
    }

    @Sentence("Returns how many observations there are; or BAD, FULL if there were 6 already.")
    void promise29Returns() {
        for (int i = 1; i <= 6; i++) {
            due(x.sees(999, 255), i);
        }
        refused(FULL, () -> x.sees(0, 0), () -> x.sees(999, UNKNOWN));
        due(x.forget(), 6);
        due(x.sees(0, 0), 1);
    }

    @Sentence("Returns how many observations there are; or BAD, FULL if there were 6 already.")
    void promise29BadBeforeFull() {
        for (int i = 1; i <= 5; i++) {
            x.sees(0, 0);
        }
        refused(BAD, () -> x.sees(1000, 0), () -> x.sees(0, 256));
        due(x.sees(0, 0), 6);
        refused(FULL, () -> x.sees(0, 0));
        refused(BAD, () -> x.sees(-1, 0), () -> x.sees(1000, 0), () -> x.sees(0, -1),
            () -> x.sees(0, 256), () -> x.sees(LEAST, GREATEST));
    }

    // ---- Promise 30

    @Sentence("Removes all observations.")
    void promise30Removes() {
        fine("a:1;", 1);
        for (int i = 1; i <= 6; i++) {
            x.sees(0, i);
        }
        due(x.which(), 0);
        x.forget();
        due(x.count(10), 0);
        due(x.which(), 1);
        x.sees(0, 0);
        due(x.which(), 1);
    }

    @Sentence("Returns how many there were.")
    void promise30Returns() {
        due(x.forget(), 0);
        for (int n = 1; n <= 6; n++) {
            for (int i = 0; i < n; i++) {
                x.sees(0, 0);
            }
            due(x.forget(), n);
            due(x.forget(), 0);
        }
    }

    // ---- Promise 31

    @Sentence("Returns which signals agree with all observations, with the recorded values as they are"
        + " now.")
    void promise31AllObservations() {
        fine("a:8;b:8;c@a;d=a+b;", 4);
        due(x.which(), 0b1111);
        x.sets(0, 255);
        passTo(2);
        x.sets(1, 1);
        for (int i = 0; i < 5; i++) {
            x.sees(0, 255);
        }
        due(x.which(), 0b1101);
        x.sees(2, 0);
        due(x.which(), 0b1000);
    }

    @Sentence("Returns which signals agree with all observations, with the recorded values as they are"
        + " now.")
    void promise31ValuesAsNow() {
        fine("a:8;b:8;", 2);
        x.sees(0, 3);
        due(x.which(), 0b00);
        x.sets(0, 3);
        due(x.which(), 0b01);
        x.sets(0, 4);
        x.sets(1, 3);
        due(x.which(), 0b10);
        x.undo();
        x.undo();
        due(x.which(), 0b01);
        passTo(1);
        moreBlocks(6);
        due(x.which(), 0b00);
        x.forget();
        x.sees(0, UNKNOWN);
        due(x.which(), 0b11);
        x.sees(1, 0);
        due(x.which(), 0b10);
    }

    @Sentence("An observation for a time after the present one is true for no signal.")
    void promise31AfterThePresent() {
        fine("a:1;b=0;", 2);
        x.sees(1, 0);
        due(x.which(), 0);
        x.passes(1);
        due(x.which(), 0b11);
        x.sees(2, UNKNOWN);
        due(x.which(), 0);
        x.dumps(0);
        due(x.which(), 0);
        x.passes(1);
        due(x.which(), 0b01);
        x.undo();
        due(x.which(), 0);
        x.forget();
        x.sees(999, 0);
        passTo(998);
        due(x.which(), 0);
        x.passes(1);
        due(x.which(), 0b10);
    }

    @Sentence("Returns the set of signals.")
    void promise31Returns() {
        due(x.which(), 0);
        fine("a:1;", 1);
        due(x.which(), 1);
        x.sees(0, 1);
        due(x.which(), 0);
        fine(TWELVE, 12);
        due(x.which(), 4095);
        x.sets(0, 1);
        x.sees(0, 1);
        due(x.which(), 4095);
        x.sees(0, 0);
        due(x.which(), 0);
    }

    // ---- Promise 32

    @Sentence("Finds the most informative time: the signals of which() are divided by their recorded values"
        + " at this time (UNKNOWN is a value here); the greatest of these groups is as small as possible;")
    void promise32SmallestGroup() {
        fine("a:8;b:8;c:8;d:8;", 4);
        x.sizes(8);
        due(x.look(), 0);
        wave(0, 2, 1);
        due(x.look(), 2);
        wave(1, 4, 1);
        due(x.look(), 4);
        wave(2, 6, 2);
        due(x.look(), 4);
        wave(0, 8, 3);
        due(x.look(), 8);
        wave(0, 9, 0);
        due(x.look(), 8);
    }

    @Sentence("Finds the most informative time: the signals of which() are divided by their recorded values"
        + " at this time (UNKNOWN is a value here); the greatest of these groups is as small as possible;")
    void promise32UnknownIsAValue() {
        fine("a:8;b:8;c=0;d=7;e=0&a;", 5);
        passTo(3);
        x.dumps(0);
        passTo(5);
        // At 0: four 0 and a 7; from 4 on: two UNKNOWN, two 0 and a 7.
        due(x.look(), 4);
        x.sees(4, UNKNOWN);
        due(x.which(), 0b00011);
        due(x.look(), 0);
    }

    @Sentence("Finds the most informative time: the signals of which() are divided by their recorded values"
        + " at this time (UNKNOWN is a value here); the greatest of these groups is as small as possible;")
    void promise32UnknownIsOneGroup() {
        fine("a:8;b:8;c:8;d=0&a;", 4);
        x.dumps(0);
        passTo(2);
        // At 0: four 0; from 1 on: three UNKNOWN and a 0; from 2 on, then: two 1 and two 0.
        due(x.look(), 1);
        x.sets(0, 1);
        x.sets(1, 1);
        x.dumps(1);
        due(x.look(), 2);
    }

    @Sentence("Finds the most informative time: the signals of which() are divided by their recorded values"
        + " at this time (UNKNOWN is a value here); the greatest of these groups is as small as possible;")
    void promise32SignalsOfWhich() {
        fine("a:8;b:8;c:8;", 3);
        x.sets(2, 5);
        wave(0, 2, 1);
        due(x.look(), 2);
        x.forget();
        x.sees(0, 0);
        due(x.which(), 0b011);
        due(x.look(), 2);
        x.forget();
        x.sees(2, 0);
        x.sees(2, 5);
        due(x.look(), NONE);
    }

    @Sentence("Finds the most informative time: the signals of which() are divided by their recorded values"
        + " at this time (UNKNOWN is a value here); the greatest of these groups is as small as possible;")
    void promise32AllButOne() {
        fine("a:8;b:8;c@a;d@a;e@a;f@a;g@a;h@a;i@a;j@a;k@a;l@a;", 12);
        passTo(3);
        x.sets(1, 1);
        due(x.look(), 3);
        fullRecord();
        due(x.look(), 22);
    }

    @Sentence("among several times from 0 to the present one, the earliest.")
    void promise32Earliest() {
        fine("a:8;b:8;", 2);
        due(x.look(), 0);
        passTo(5);
        due(x.look(), 0);
        x.sets(0, 1);
        due(x.look(), 5);
        x.passes(1);
        due(x.look(), 5);
        x.sets(0, 0);
        due(x.look(), 5);
        x.passes(1);
        x.sets(0, 1);
        due(x.look(), 5);
        fine("a:8;b:8;", 2);
        x.sets(0, 1);
        wave(0, 1, 0, 2, 1);
        due(x.look(), 0);
    }

    @Sentence("Returns the time, or NONE if which() has fewer than two signals.")
    void promise32Returns() {
        due(x.look(), NONE);
        fine("a:1;", 1);
        due(x.look(), NONE);
        fine("a:1;b:1;", 2);
        due(x.look(), 0);
        x.sets(0, 1);
        x.sees(0, 1);
        due(x.look(), NONE);
        x.sees(0, 0);
        due(x.which(), 0);
        due(x.look(), NONE);
        fine(TWELVE, 12);
        passTo(999);
        due(x.look(), 0);
    }

    // ---- Promise 33

    @Sentence("Keeps time, current values, recording, block size, blocks and the number of lost blocks as an"
        + " image, in place of what it kept before.")
    void promise33Keeps() {
        fine("a:8;", 1);
        x.sizes(1);
        x.sets(0, 5);
        moreBlocks(6);
        passTo(7);
        x.dumps(0);
        x.sets(0, 6);
        due(x.keep(1), 7);
        x.sets(0, 9);
        x.passes(1);
        x.sizes(8);
        x.dumps(1);
        x.sets(0, 1);
        due(x.back(1), 7);
        int[] due = {1, 1, 0, 7, 0, 1, 6, 1, 0};
        for (int what = 0; what < due.length; what++) {
            due(x.count(what), due[what]);
        }
        due(x.about(0, 5), 6);
        due(x.frame(0, 0), 5);
        due(x.block(5, 1), 7);
    }

    @Sentence("Keeps time, current values, recording, block size, blocks and the number of lost blocks as an"
        + " image, in place of what it kept before.")
    void promise33InPlaceOfBefore() {
        x.keep(0);
        x.keep(1);
        x.passes(2);
        due(x.keep(0), 2);
        x.passes(3);
        due(x.back(0), 2);
        due(x.back(1), 0);
        due(x.back(0), 2);
    }

    @Sentence("`image`: the image, 0 or 1")
    void promise33Image() {
        range(0, 1, image -> x.keep(image));
    }

    @Sentence("Returns the time; or BAD.")
    void promise33Returns() {
        due(x.keep(0), 0);
        passTo(999);
        due(x.keep(1), 999);
        due(x.count(12), 6);
        refused(BAD, () -> x.keep(2), () -> x.keep(-1));
        due(x.back(1), 999);
        due(x.back(0), 0);
    }

    // ---- Promise 34

    @Sentence("Brings back what an image keeps.")
    void promise34BringsBack() {
        fine("a:8;", 1);
        for (int i = 1; i <= 5; i++) {
            wave(0, i, i);
        }
        x.sees(9, 9);
        x.keep(0);
        x.passes(1);
        x.dumps(0);
        x.sets(0, 200);
        x.keep(1);
        due(x.back(0), 5);
        due(x.count(4), 1);
        due(x.about(0, 5), 5);
        dueAt(0, 0, 1, 2, 3, 4, 5);
        due(x.count(10), 1);
        due(x.back(1), 6);
        due(x.count(4), 0);
        due(x.about(0, 5), 200);
        dueAt(0, 0, 1, 2, 3, 4, 5, 5);
    }

    @Sentence("Nothing can be undone then.")
    void promise34NothingToUndo() {
        x.keep(0);
        x.passes(1);
        x.passes(1);
        due(x.count(12), 2);
        x.back(0);
        due(x.count(12), 0);
        refused(STATE, () -> x.undo());
        x.passes(1);
        due(x.undo(), 0);
        refused(STATE, () -> x.undo());
    }

    @Sentence("The image stays.")
    void promise34ImageStays() {
        fine("a:8;", 1);
        x.sets(0, 1);
        x.passes(4);
        x.keep(1);
        for (int i = 0; i < 3; i++) {
            due(x.back(1), 4);
            due(x.at(0, 4), 1);
            x.sets(0, 9);
            x.sets(0, 8);
            x.sizes(1);
            x.dumps(0);
            x.passes(5);
            due(x.count(8), 3);
        }
        due(x.back(1), 4);
        due(x.count(8), 1);
    }

    @Sentence("`image`: the image, 0 or 1")
    void promise34Image() {
        x.keep(0);
        x.keep(1);
        range(0, 1, image -> x.back(image));
    }

    @Sentence("Returns the time; or BAD, STATE if nothing has been kept.")
    void promise34Returns() {
        refused(STATE, () -> x.back(0), () -> x.back(1));
        passTo(999);
        x.keep(0);
        refused(STATE, () -> x.back(1));
        due(x.back(0), 999);
        refused(STATE, () -> x.back(1));
        x.tells();
        refused(STATE, () -> x.back(0), () -> x.back(1));
        x.keep(1);
        refused(STATE, () -> x.back(0));
        due(x.back(1), 0);
    }

    @Sentence("Returns the time; or BAD, STATE if nothing has been kept.")
    void promise34BadBeforeState() {
        refused(STATE, () -> x.back(0), () -> x.back(1));
        refused(BAD, () -> x.back(2), () -> x.back(-1), () -> x.back(LEAST), () -> x.back(GREATEST));
    }

    // ---- Promise 35

    @Sentence("Returns a number.")
    void promise35Numbers() {
        fine("[s;a:8;b@s.a;];c:8;[t;d=c;e=1;", 8);
        x.sizes(2);
        x.sets(0, 1);
        passTo(3);
        x.sets(0, 2);
        x.sets(2, 2);
        x.sees(0, 0);
        x.sees(1, 0);
        send("abc");
        int[] counts = {5, 2, 2, 3, 1, 2, 2, 0, 3, 4 + 4 + 3 + 4 + 2 + 1, 2, 3, 5};
        for (int what = 0; what < counts.length; what++) {
            due(x.count(what), counts[what]);
        }
    }

    @Sentence("`what`: 0 of signals, 1 of wires, 2 of scopes,")
    void promise35Signals() {
        range(0, 12, what -> x.count(what));
        int[][] due = {{0, 0, 0}, {12, 1, 0}, {6, 6, 0}, {4, 0, 0}, {0, 0, 6}};
        String[] texts = {"", TWELVE, SIX_WIRES, FOUR_DERIVED, SIX_SCOPES};
        for (int i = 0; i < texts.length; i++) {
            x.clear();
            send(texts[i]);
            x.tells();
            for (int what = 0; what < 3; what++) {
                due(x.count(what), due[i][what]);
            }
        }
    }

    @Sentence("3 the time, 4 1 if recording is on, else 0, 5 the block size,")
    void promise35Recording() {
        due(x.count(3), 0);
        passTo(999);
        due(x.count(4), 1);
        x.dumps(0);
        due(x.count(4), 0);
        x.dumps(1);
        due(x.count(4), 1);
        due(x.count(5), 4);
        x.sizes(1);
        due(x.count(5), 1);
        x.sizes(8);
        due(x.count(5), 8);
    }

    @Sentence("6 of blocks in the list, 7 of blocks that were lost,")
    void promise35Blocks() {
        for (int blocks = 1; blocks <= 9; blocks++) {
            due(x.count(6), Math.min(blocks, 6));
            due(x.count(7), Math.max(blocks - 6, 0));
            moreBlocks(1);
        }
    }

    @Sentence("8 of changes in all blocks, 9 the room of all blocks,")
    void promise35ChangesAndRoom() {
        fine("a:1;", 1);
        due(x.count(8), 0);
        due(x.count(9), 3);
        x.sizes(8);
        for (int i = 1; i <= 6; i++) {
            toggle(0, 8);
            due(x.count(8), 8 * i);
            due(x.count(9), 15 * i);
        }
        toggle(0, 1);
        due(x.count(8), 41);
        due(x.count(9), 15 * 5 + 6);
        x.dumps(0);
        toggle(0, 1);
        due(x.count(8), 41);
    }

    @Sentence("10 of observations, 11 of bytes in the text buffer,")
    void promise35ObservationsAndBytes() {
        due(x.count(10), 0);
        for (int i = 1; i <= 7; i++) {
            x.sees(0, 0);
            due(x.count(10), Math.min(i, 6));
        }
        due(x.count(11), 0);
        for (int i = 1; i <= 161; i++) {
            x.type(' ');
            due(x.count(11), Math.min(i, 160));
        }
    }

    @Sentence("12 of calls that can be undone")
    void promise35Undo() {
        due(x.count(12), 0);
        for (int i = 1; i <= 8; i++) {
            x.passes(1);
            due(x.count(12), Math.min(i, 6));
        }
        for (int i = 5; i >= 0; i--) {
            x.undo();
            due(x.count(12), i);
        }
        x.undo();
        due(x.count(12), 0);
    }

    @Sentence("Returns the number; or BAD.")
    void promise35Bad() {
        refused(BAD, () -> x.count(13), () -> x.count(-1), () -> x.count(LEAST),
            () -> x.count(GREATEST));
        due(x.count(0), 0);
        due(x.count(12), 0);
    }
}

/** Promises 23 to 28: blocks, their room, and other divisions into blocks. */
public final class Promises23To28Tests extends Bench {
    public static void main(String[] args) throws ReflectiveOperationException {
        run(Promises23To28Tests.class);
    }

    /** Six blocks, each with a change of the wire a. */
    private void sixBlocks() {
        fine("a:8;b@a;c=a;d:8;", 4);
        x.sizes(1);
        for (int i = 1; i <= 6; i++) {
            passTo(i);
            x.sets(0, i);
        }
        due(x.count(6), 6);
    }

    // ---- Promise 23

    @Sentence("Returns the block from which the recorded values at a time are taken.")
    void promise23Blocks() {
        fine("a:1;", 1);
        x.sizes(1);
        wave(0, 2, 1, 4, 0, 4, 1);
        int[] blocks = {0, 0, 0, 0, 2};
        for (int t = 0; t < blocks.length; t++) {
            due(x.jump(t), blocks[t]);
        }
        x.dumps(0);
        x.dumps(1);
        due(x.jump(4), 3);
        due(x.jump(3), 0);
    }

    @Sentence("`t`: the time, 0 to the present time")
    void promise23Time() {
        range(0, 0, t -> x.jump(t));
        passTo(5);
        range(0, 5, t -> x.jump(t));
    }

    @Sentence("Returns the block, NONE if the wires are UNKNOWN then; or BAD.")
    void promise23Unknown() {
        passTo(3);
        x.dumps(0);
        passTo(6);
        x.dumps(1);
        passTo(7);
        int[] blocks = {0, 0, 0, 0, NONE, NONE, 1, 1};
        for (int t = 0; t < blocks.length; t++) {
            due(x.jump(t), blocks[t]);
        }
        refused(BAD, () -> x.jump(8), () -> x.jump(-1));
    }

    @Sentence("Returns the block, NONE if the wires are UNKNOWN then; or BAD.")
    void promise23Lost() {
        passTo(3);
        moreBlocks(5);
        due(x.jump(2), 0);
        due(x.jump(3), 5);
        moreBlocks(1);
        due(x.jump(0), NONE);
        due(x.jump(2), NONE);
        due(x.jump(3), 5);
    }

    // ---- Promise 24

    @Sentence("Returns a property of a block.")
    void promise24Properties() {
        fine("a:8;b:8;", 2);
        passTo(7);
        moreBlocks(1);
        x.sets(0, 5);
        x.sets(1, 5);
        x.sets(0, 6);
        int[][] due = {{0, 7, 0, 0, 4}, {7, NONE, 3, 2, 11}};
        for (int b = 0; b < 2; b++) {
            for (int what = 0; what < 5; what++) {
                due(x.block(b, what), due[b][what]);
            }
        }
    }

    @Sentence("`b`: the block, from 0 (the oldest one in the list) on")
    void promise24Block() {
        range(0, 0, b -> x.block(b, 0));
        passTo(1);
        moreBlocks(1);
        range(0, 1, b -> x.block(b, 0));
        due(x.block(0, 0), 0);
        moreBlocks(4);
        range(0, 5, b -> x.block(b, 0));
        due(x.block(0, 0), 0);
        moreBlocks(1);
        range(0, 5, b -> x.block(b, 0));
        due(x.block(0, 0), 1);
    }

    @Sentence("`what`: 0 the begin, 1 the end (NONE if it has none), 2 the number of changes, 3 the number"
        + " of values in its dictionary, 4 the room")
    void promise24What() {
        fine("a:8;", 1);
        range(0, 4, what -> x.block(0, what));
        due(x.block(0, 1), NONE);
        x.dumps(0);
        due(x.block(0, 1), 0);
        x.undo();
        x.sizes(8);
        int[] values = {1, 2, 1, 2, 1, 2, 1, 3};
        for (int i = 0; i < 8; i++) {
            due(x.block(0, 2), i);
            x.sets(0, values[i]);
        }
        due(x.block(0, 2), 8);
        due(x.block(0, 3), 3);
        due(x.block(0, 4), 3 + 6 + 8 + 1);
    }

    @Sentence("Returns the property; or BAD.")
    void promise24Bad() {
        refused(BAD, () -> x.block(1, 1), () -> x.block(-1, 1), () -> x.block(0, 5),
            () -> x.block(0, -1), () -> x.block(1, 5));
        due(x.block(0, 4), 2);
    }

    // ---- Promise 25

    @Sentence("Returns a value of the frame of a block.")
    void promise25Values() {
        sixBlocks();
        x.sets(3, 255);
        for (int b = 0; b < 6; b++) {
            due(x.frame(b, 0), Math.min(b + 1, 6));
            due(x.frame(b, 3), 0);
        }
        moreBlocks(1);
        due(x.frame(5, 3), 255);
        due(x.frame(4, 3), 0);
    }

    @Sentence("`b`: the block, from 0 (the oldest one in the list) on")
    void promise25Block() {
        fine("a:8;", 1);
        range(0, 0, b -> x.frame(b, 0));
        x.sets(0, 7);
        moreBlocks(4);
        range(0, 4, b -> x.frame(b, 0));
        due(x.frame(0, 0), 0);
        moreBlocks(2);
        range(0, 5, b -> x.frame(b, 0));
        due(x.frame(0, 0), 7);
    }

    @Sentence("`n`: the signal, which must be a wire")
    void promise25Wire() {
        sixBlocks();
        due(x.frame(5, 0), 5);
        due(x.frame(5, 3), 0);
        refused(BAD, () -> x.frame(5, 1), () -> x.frame(5, 2), () -> x.frame(5, 4),
            () -> x.frame(5, -1), () -> x.frame(5, LEAST), () -> x.frame(5, GREATEST));
        anew();
        refused(BAD, () -> x.frame(0, 0));
    }

    @Sentence("Returns the value; or BAD.")
    void promise25Returns() {
        fine("a:8;b@a;", 2);
        x.sets(0, 255);
        due(x.frame(0, 0), 0);
        moreBlocks(1);
        due(x.frame(1, 0), 255);
        refused(BAD, () -> x.frame(2, 0), () -> x.frame(-1, 0), () -> x.frame(1, 1),
            () -> x.frame(2, 1), () -> x.frame(1, 2));
    }

    // ---- Promise 26

    @Sentence("Returns a property of a change.")
    void promise26Properties() {
        fine("a:8;b@a;c:8;", 3);
        wave(2, 3, 9);
        wave(0, 7, 8);
        wave(2, 7, 8);
        wave(0, 7, 9);
        int[][] due = {{3, 2, 9, 0}, {7, 0, 8, 1}, {7, 2, 8, 1}, {7, 0, 9, 0}};
        for (int i = 0; i < 4; i++) {
            for (int what = 0; what < 4; what++) {
                due(x.change(0, i, what), due[i][what]);
            }
        }
    }

    @Sentence("`b`: the block, from 0 (the oldest one in the list) on")
    void promise26Block() {
        sixBlocks();
        range(0, 5, b -> x.change(b, 0, 0));
        due(x.change(0, 0, 2), 1);
        due(x.change(5, 0, 2), 6);
        x.sets(0, 7);
        range(0, 5, b -> x.change(b, 0, 0));
        due(x.change(0, 0, 2), 2);
        due(x.change(5, 0, 2), 7);
    }

    @Sentence("`i`: which change, from 0 on")
    void promise26Which() {
        fine("a:8;", 1);
        x.sizes(8);
        for (int i = 0; i < 8; i++) {
            due(x.change(0, i, 2), NONE);
            x.sets(0, i + 1);
            due(x.change(0, i, 2), i + 1);
        }
        due(x.change(0, 0, 2), 1);
        refused(BAD, () -> x.change(0, -1, 2), () -> x.change(0, LEAST, 2));
    }

    @Sentence("`what`: 0 the time, 1 the wire (its number as a signal), 2 the value, 3 the index of the"
        + " value in the dictionary")
    void promise26What() {
        fine("a=1;b@a;c:8;d:8;", 4);
        x.passes(9);
        x.sets(3, 255);
        range(0, 3, what -> x.change(0, 0, what));
        int[] due = {9, 3, 255, 0};
        for (int what = 0; what < 4; what++) {
            due(x.change(0, 0, what), due[what]);
        }
    }

    @Sentence("Returns the property, NONE if there are not so many changes; or BAD (also if i is"
        + " negative).")
    void promise26Returns() {
        fine("a:8;", 1);
        due(x.change(0, 0, 0), NONE);
        x.sets(0, 1);
        due(x.change(0, 0, 2), 1);
        for (int what = 0; what < 4; what++) {
            due(x.change(0, 1, what), NONE);
            due(x.change(0, GREATEST, what), NONE);
        }
        refused(BAD, () -> x.change(0, -1, 0), () -> x.change(1, 0, 0), () -> x.change(-1, 0, 0),
            () -> x.change(0, 0, 4), () -> x.change(0, 0, -1), () -> x.change(0, 1, 4),
            () -> x.change(0, 1, -1), () -> x.change(1, 1, 0), () -> x.change(0, GREATEST, 4));
    }

    // ---- Promise 27

    @Sentence("Computes how much room the record would take with another division into blocks.")
    void promise27AnotherDivision() {
        fine("a:8;", 1);
        x.sizes(3);
        toggle(0, 7);
        due(x.count(6), 3);
        due(x.packed(3), x.count(9));
        due(x.packed(3), 10 + 10 + 6);
        due(x.packed(7), 3 + 4 + 7);
        due(x.count(5), 3);
        due(x.count(6), 3);
    }

    @Sentence("The list is divided into groups of consecutive blocks, each of which ends with a block that"
        + " has an end, or with the last block.")
    void promise27Groups() {
        fine("a:8;", 1);
        due(x.packed(8), 3);
        x.dumps(0);
        due(x.packed(8), 3);
        x.dumps(1);
        due(x.packed(8), 6);
        x.sizes(1);
        toggle(0, 2);
        due(x.count(6), 3);
        due(x.packed(8), 3 + 9);
        x.dumps(0);
        due(x.packed(8), 3 + 9);
        x.dumps(1);
        due(x.packed(8), 3 + 9 + 3);
        toggle(0, 1);
        due(x.packed(8), 3 + 9 + 6);
        toggle(0, 1);
        due(x.packed(8), 3 + 9 + 9);
        due(x.packed(1), 3 + 12 + 12);
    }

    @Sentence("The changes of a group are distributed, in order, to blocks of s changes each, the last one"
        + " having s or fewer;")
    void promise27Changes() {
        fine("a:8;", 1);
        x.sizes(8);
        toggle(0, 6);
        // A block of n changes takes 3, and 2 for each value, and n.
        int[] rooms = {6 * 6, 3 * 9, 2 * 10, 11 + 9, 12 + 6, 13, 13, 13};
        for (int s = 1; s <= 8; s++) {
            due(x.packed(s), rooms[s - 1]);
        }
    }

    @Sentence("The changes of a group are distributed, in order, to blocks of s changes each, the last one"
        + " having s or fewer;")
    void promise27DictionariesOfTheirOwn() {
        fine("a:8;", 1);
        x.sizes(8);
        for (int i = 0; i < 6; i++) {
            x.sets(0, 1 + i % 3);
        }
        // The third value of a block costs 1 more, whenever it occurs.
        int[] rooms = {6 * 6, 3 * 9, 2 * (3 + 6 + 4), 14 + 9, 15 + 6, 17, 17, 17};
        for (int s = 1; s <= 8; s++) {
            due(x.packed(s), rooms[s - 1]);
        }
    }

    @Sentence("a group without changes is one block.")
    void promise27NoChanges() {
        due(x.packed(1), 2);
        fine(SIX_WIRES, 6);
        moreBlocks(2);
        for (int s = 1; s <= 8; s++) {
            due(x.packed(s), 3 * 8);
        }
        x.sets(0, 1);
        due(x.packed(1), 2 * 8 + 11);
    }

    @Sentence("The first of these blocks has the begin of the first block of the group, each other one the"
        + " time of its first change as its begin.")
    void promise27Begins() {
        fine("a:1;", 1);
        x.sizes(8);
        wave(0, 1, 1, 2, 0, 18, 1, 19, 0);
        // The time costs 1, 1, 2 and 1; a change that begins a block, other than the first, nothing.
        int[] rooms = {4 * 6 + 1, 2 * 9 + 2 + 1, 10 + 6 + 4, 11 + 5, 11 + 5, 11 + 5, 11 + 5, 11 + 5};
        for (int s = 1; s <= 8; s++) {
            due(x.packed(s), rooms[s - 1]);
        }
        passTo(20);
        x.dumps(0);
        passTo(40);
        x.dumps(1);
        passTo(56);
        x.sets(0, 1);
        due(x.packed(8), 16 + 6 + 2);
        due(x.packed(1), 25 + 6 + 2);
    }

    @Sentence("The first of these blocks has the begin of the first block of the group, each other one the"
        + " time of its first change as its begin.")
    void promise27BeginOfTheGroup() {
        fine("a:1;", 1);
        x.sizes(1);
        wave(0, 20, 1, 50, 0, 51, 1);
        due(x.count(6), 3);
        due(x.packed(1), 3 * 6 + 2);
        due(x.packed(8), 10 + 2 + 2 + 1);
        x.sets(0, 0);
        wave(0, 60, 1, 61, 0, 62, 1);
        due(x.count(7), 1);
        due(x.block(0, 0), 50);
        due(x.packed(1), 6 * 6);
        due(x.packed(8), 3 + 4 + 6 + 4);
    }

    @Sentence("`s`: 1 to 8")
    void promise27Size() {
        range(1, 8, s -> x.packed(s));
    }

    @Sentence("Returns the sum of the rooms of all these blocks; or BAD.")
    void promise27Returns() {
        fine("a:8;", 1);
        x.sets(0, 1);
        moreBlocks(1);
        x.sets(0, 2);
        x.sets(0, 3);
        due(x.packed(1), 6 + 6 + 6);
        due(x.packed(2), 6 + 9);
        refused(BAD, () -> x.packed(0), () -> x.packed(9));
    }

    // ---- Promise 28

    @Sentence("Finds the best division.")
    void promise28Best() {
        fine("a:8;", 1);
        x.sizes(8);
        wave(0, 0, 1, 20, 2, 40, 3, 60, 4);
        int[] rooms = {24, 22, 23, 23, 23, 23, 23, 23};
        for (int s = 1; s <= 8; s++) {
            due(x.packed(s), rooms[s - 1]);
        }
        due(x.best(), 2);
    }

    @Sentence("Returns the s for which packed() is smallest, the smallest of several.")
    void promise28Smallest() {
        due(x.best(), 1);
        for (int changes = 1; changes <= 8; changes++) {
            fine("a:1;", 1);
            x.sizes(8);
            toggle(0, changes);
            due(x.best(), changes);
        }
        toggle(0, 1);
        due(x.packed(5), 12 + 11);
        due(x.packed(8), 15 + 6);
        due(x.best(), 8);
    }

    @Sentence("Returns the s for which packed() is smallest, the smallest of several.")
    void promise28SmallestOfSeveral() {
        fine("a:1;", 1);
        moreBlocks(3);
        due(x.best(), 1);
        x.sizes(8);
        toggle(0, 3);
        moreBlocks(1);
        toggle(0, 2);
        due(x.packed(3), x.packed(8));
        due(x.best(), 3);
    }
}

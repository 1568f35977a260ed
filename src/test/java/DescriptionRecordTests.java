/** Description: values, recording, recorded values, room and observations. */
public final class DescriptionRecordTests extends Bench {
    public static void main(String[] args) throws ReflectiveOperationException {
        run(DescriptionRecordTests.class);
    }

    /** The value of an expression over the wires a and b of 8 bits, now and recorded. */
    private void computes(String expression, int a, int b, int value) {
        fine("a:8;b:8;c=" + expression + ";", 3);
        x.sets(0, a);
        x.sets(1, b);
        due(x.about(2, 5), value);
        due(x.at(2, 0), value);
    }

    // ---- Values

    @Sentence("The signs & | ^ work bit by bit;")
    void descriptionBitByBit() {
        computes("a&b", 0b11001100, 0b10101010, 0b10001000);
        computes("a|b", 0b11001100, 0b10101010, 0b11101110);
        computes("a^b", 0b11001100, 0b10101010, 0b01100110);
        computes("a&b", 255, 255, 255);
        computes("a|b", 255, 255, 255);
        computes("a^b", 255, 255, 0);
        computes("a|b", 0, 0, 0);
    }

    @Sentence("+ and - modulo 256, with results from 0 to 255;")
    void descriptionModulo256() {
        computes("a+b", 254, 1, 255);
        computes("a+b", 255, 1, 0);
        computes("a+b", 255, 255, 254);
        computes("a-b", 1, 1, 0);
        computes("a-b", 0, 1, 255);
        computes("a-b", 0, 255, 1);
        computes("a-b", 255, 0, 255);
        computes("0-a-b", 255, 255, 2);
        computes("a+b+a+b-1", 255, 255, 251);
    }

    @Sentence("! x is 1 if x is 0, otherwise 0.")
    void descriptionNot() {
        computes("!a", 0, 0, 1);
        computes("!a", 1, 0, 0);
        computes("!a", 2, 0, 0);
        computes("!a", 255, 0, 0);
        computes("!(a+b)", 255, 1, 1);
        computes("!!a", 255, 0, 1);
    }

    @Sentence("If an operand is UNKNOWN, the result is UNKNOWN,")
    void descriptionUnknownOperands() {
        fine("a:8;b=a+1-a;c=1-a|0;d=a|255^a;e=!a;", 5);
        x.sets(0, 255);
        due(x.about(2, 5), 2);
        x.dumps(0);
        x.passes(1);
        for (int n = 0; n < 5; n++) {
            due(x.at(n, 1), UNKNOWN);
        }
        fine("a:8;b=a&1;c=255&a;d=a&a;e=a-a;", 5);
        x.dumps(0);
        x.passes(1);
        for (int n = 0; n < 5; n++) {
            due(x.at(n, 1), UNKNOWN);
        }
        fine("a:8;b=a^a;c=0|a;d=0+a;e=a-0;", 5);
        x.dumps(0);
        x.passes(1);
        for (int n = 0; n < 5; n++) {
            due(x.at(n, 1), UNKNOWN);
        }
    }

    @Sentence("but 0 & x and x & 0 are 0 for every x.")
    void descriptionZeroAndUnknown() {
        fine("a:8;b=0&a;c=a&0;d=!(a&0)+1;e=a&1&0;", 5);
        x.sets(0, 255);
        x.dumps(0);
        x.passes(1);
        int[] known = {255, 0, 0, 2, 0};
        int[] unknown = {UNKNOWN, 0, 0, 2, 0};
        for (int n = 0; n < 5; n++) {
            due(x.at(n, 0), known[n]);
            due(x.at(n, 1), unknown[n]);
        }
    }

    @Sentence("An alias has the value of its signal.")
    void descriptionAliasValues() {
        fine("a:8;b@a;c@b;d=a+1;e@d;", 5);
        x.sets(0, 255);
        x.dumps(0);
        x.passes(1);
        x.sets(0, 9);
        int[] recorded = {255, 255, 255, 0, 0};
        int[] current = {9, 9, 9, 10, 10};
        for (int n = 0; n < 5; n++) {
            due(x.at(n, 0), recorded[n]);
            due(x.at(n, 1), UNKNOWN);
            due(x.about(n, 5), current[n]);
        }
    }

    // ---- Recording

    @Sentence("The time is 0 at first, at most 999.")
    void descriptionTime() {
        due(x.count(3), 0);
        passTo(998);
        due(x.passes(1), 999);
        refused(STATE, () -> x.passes(1));
    }

    @Sentence("Each wire has a current value, 0 at first.")
    void descriptionFirstValues() {
        fine("a:1;b:8;c:1;d:8;e:1;f:8;g=!a;", 7);
        for (int n = 0; n < 6; n++) {
            due(x.about(n, 5), 0);
        }
        due(x.about(6, 5), 1);
        due(x.sets(5, 255), 1);
        due(x.about(5, 5), 255);
    }

    @Sentence("Recording is on at first.")
    void descriptionOnAtFirst() {
        fine("a:1;", 1);
        due(x.count(4), 1);
        due(x.sets(0, 1), 1);
    }

    @Sentence("The block size is 1 to 8, at first 4.")
    void descriptionBlockSize() {
        fine("a:1;", 1);
        due(x.count(5), 4);
        toggle(0, 4);
        due(x.count(6), 1);
        toggle(0, 1);
        due(x.count(6), 2);
        range(1, 8, n -> x.sizes(n));
        toggle(0, 7);
        due(x.count(6), 2);
        toggle(0, 1);
        due(x.count(6), 3);
        x.sizes(1);
        toggle(0, 1);
        due(x.count(6), 4);
    }

    @Sentence("There is a list of at most 6 blocks; if a seventh begins, the oldest one is lost.")
    void descriptionSixBlocks() {
        fine("a:8;", 1);
        x.sizes(1);
        for (int i = 1; i <= 6; i++) {
            passTo(i);
            x.sets(0, i);
        }
        due(x.count(6), 6);
        due(x.count(7), 0);
        due(x.block(0, 0), 0);
        passTo(7);
        x.sets(0, 7);
        due(x.count(6), 6);
        due(x.count(7), 1);
        for (int b = 0; b < 6; b++) {
            due(x.block(b, 0), b + 2);
            due(x.frame(b, 0), b + 1);
            due(x.change(b, 0, 2), b + 2);
        }
        refused(BAD, () -> x.block(6, 0));
    }

    @Sentence("A block has a begin (a time), a frame (a value for each wire), a list of changes, each with"
        + " a time, a wire and a value, and perhaps an end (a time).")
    void descriptionBlocks() {
        fine("a:8;b@a;c:8;", 3);
        passTo(3);
        x.sets(2, 4);
        due(x.block(0, 0), 0);
        due(x.block(0, 1), NONE);
        due(x.frame(0, 0), 0);
        due(x.frame(0, 2), 0);
        int[] change = {3, 2, 4, 0};
        for (int what = 0; what < 4; what++) {
            due(x.change(0, 0, what), change[what]);
        }
        due(x.change(0, 1, 0), NONE);
        x.dumps(0);
        due(x.block(0, 1), 3);
    }

    @Sentence("If a block begins, it is added as the last one with the present time as its begin, the"
        + " current values as its frame, no changes and no end.")
    void descriptionNewBlock() {
        fine("a:8;b:8;", 2);
        x.sets(0, 1);
        passTo(5);
        x.dumps(0);
        x.sets(0, 200);
        x.sets(1, 100);
        passTo(7);
        due(x.dumps(1), 2);
        due(x.block(1, 0), 7);
        due(x.block(1, 1), NONE);
        due(x.block(1, 2), 0);
        due(x.frame(1, 0), 200);
        due(x.frame(1, 1), 100);
        due(x.block(0, 0), 0);
        due(x.block(0, 1), 5);
        due(x.block(0, 2), 1);
    }

    @Sentence("At first there is one, which has begun at time 0.")
    void descriptionFirstBlock() {
        due(x.count(6), 1);
        fine("a:8;", 1);
        due(x.count(6), 1);
        due(x.block(0, 0), 0);
        due(x.block(0, 1), NONE);
        due(x.block(0, 2), 0);
        due(x.frame(0, 0), 0);
        refused(BAD, () -> x.block(1, 0));
    }

    @Sentence("If a wire gets another value while recording is on, and the last block has at least as many"
        + " changes as the block size, a block begins first, with the value before; then the change is"
        + " added to the last block.")
    void descriptionFullBlock() {
        fine("a:8;b:8;", 2);
        for (int i = 1; i <= 4; i++) {
            x.sets(0, i);
        }
        due(x.count(6), 1);
        due(x.block(0, 2), 4);
        passTo(3);
        due(x.sets(0, 5), 1);
        due(x.count(6), 2);
        due(x.block(0, 2), 4);
        due(x.block(0, 1), NONE);
        due(x.block(1, 0), 3);
        due(x.frame(1, 0), 4);
        due(x.block(1, 2), 1);
        due(x.change(1, 0, 2), 5);
    }

    @Sentence("If a wire gets another value while recording is on, and the last block has at least as many"
        + " changes as the block size, a block begins first, with the value before; then the change is"
        + " added to the last block.")
    void descriptionMoreThanFullBlock() {
        fine("a:8;", 1);
        x.sizes(8);
        for (int i = 1; i <= 7; i++) {
            x.sets(0, i);
        }
        x.sizes(7);
        due(x.count(6), 1);
        x.sizes(8);
        x.sets(0, 8);
        due(x.count(6), 1);
        x.sizes(2);
        x.sets(0, 9);
        due(x.count(6), 2);
        due(x.block(0, 2), 8);
        due(x.block(1, 2), 1);
        x.dumps(0);
        x.sets(0, 10);
        x.sets(0, 11);
        x.sets(0, 12);
        due(x.count(6), 2);
        due(x.block(1, 2), 1);
    }

    @Sentence("If recording is switched off, the present time becomes the end of the last block;")
    void descriptionSwitchedOff() {
        fine("a:8;", 1);
        x.sizes(1);
        x.sets(0, 1);
        x.sets(0, 2);
        passTo(6);
        due(x.dumps(0), 2);
        due(x.block(0, 1), NONE);
        due(x.block(1, 1), 6);
        x.passes(1);
        due(x.block(1, 1), 6);
        anew();
        x.dumps(0);
        due(x.block(0, 1), 0);
    }

    @Sentence("if it is switched on, a block begins.")
    void descriptionSwitchedOn() {
        fine("a:8;", 1);
        x.dumps(0);
        due(x.count(6), 1);
        due(x.dumps(1), 2);
        due(x.block(0, 1), 0);
        due(x.block(1, 0), 0);
        due(x.block(1, 1), NONE);
        moreBlocks(4);
        due(x.count(6), 6);
        due(x.count(7), 0);
        x.dumps(0);
        due(x.count(7), 0);
        due(x.dumps(1), 6);
        due(x.count(7), 1);
    }

    // ---- Recorded values

    @Sentence("The recorded values at a time t (0 to the present time) are those of the last block in the"
        + " list that begins at t or before.")
    void descriptionRecordedTimes() {
        fine("a:8;", 1);
        x.sizes(1);
        wave(0, 0, 1, 4, 2, 4, 3, 6, 4);
        due(x.block(3, 0), 6);
        dueAt(0, 1, 1, 1, 1, 3, 3, 4);
        int[] blocks = {0, 0, 0, 0, 2, 2, 3};
        for (int t = 0; t < blocks.length; t++) {
            due(x.jump(t), blocks[t]);
        }
        refused(BAD, () -> x.at(0, 7), () -> x.at(0, -1), () -> x.jump(7), () -> x.jump(-1));
    }

    @Sentence("The recorded values at a time t (0 to the present time) are those of the last block in the"
        + " list that begins at t or before.")
    void descriptionEndAndBeginAtOnce() {
        fine("a:8;", 1);
        wave(0, 2, 7);
        passTo(5);
        x.dumps(0);
        x.sets(0, 9);
        x.dumps(1);
        due(x.at(0, 5), 9);
        due(x.jump(5), 1);
        passTo(8);
        x.dumps(0);
        x.dumps(1);
        dueAt(0, 0, 0, 7, 7, 7, 9, 9, 9, 9);
        due(x.ticks(1, -1), 2);
        due(x.ticks(1, 0), 2);
        due(x.ticks(1, 1), 5);
        due(x.edges(0, 0, 0, 8), 2);
        due(x.next(0, 0, 2), 5);
        due(x.next(0, 0, 5), NONE);
        due(x.previous(0, 0, 8), 5);
        due(x.first(0, 9, 0), 5);
        due(x.first(0, UNKNOWN, 0), NONE);
        due(x.holds(0, 7, 0), 2);
        due(x.holds(0, 8, 0), NONE);
    }

    @Sentence("If there is none, or it has an end before t, all wires are UNKNOWN;")
    void descriptionUnknownTimes() {
        fine("a:8;b:8;", 2);
        passTo(2);
        moreBlocks(5);
        dueAt(0, 0, 0, 0);
        moreBlocks(1);
        dueAt(0, UNKNOWN, UNKNOWN, 0);
        dueAt(1, UNKNOWN, UNKNOWN, 0);
        passTo(4);
        x.dumps(0);
        passTo(6);
        x.dumps(1);
        dueAt(0, UNKNOWN, UNKNOWN, 0, 0, 0, UNKNOWN, 0);
        dueAt(1, UNKNOWN, UNKNOWN, 0, 0, 0, UNKNOWN, 0);
    }

    @Sentence("otherwise a wire has the value of the last change of it in this block at t or before, or,"
        + " without one, that of the frame.")
    void descriptionKnownTimes() {
        fine("a:8;b:8;", 2);
        x.sets(1, 9);
        x.dumps(0);
        x.sets(0, 5);
        x.dumps(1);
        wave(0, 2, 6, 2, 7, 4, 8);
        dueAt(0, 5, 5, 7, 7, 8);
        dueAt(1, 9, 9, 9, 9, 9);
    }

    @Sentence("Aliases and derived signals are computed from these values.")
    void descriptionRecordedAliases() {
        fine("a:8;b@a;c=b+1;", 3);
        wave(0, 1, 255, 2, 7);
        x.dumps(0);
        x.sets(0, 8);
        passTo(3);
        dueAt(1, 0, 255, 7, UNKNOWN);
        dueAt(2, 1, 0, 8, UNKNOWN);
    }

    @Sentence("A signal has an edge at a time t, from 1 to the present time, if its values at t - 1 and t"
        + " are not UNKNOWN and differ;")
    void descriptionEdges() {
        fine("a:8;", 1);
        wave(0, 0, 5, 1, 6, 3, 7, 3, 6, 4, 8);
        due(x.ticks(1, -1), 2);
        due(x.ticks(1, 0), 1);
        due(x.ticks(1, 1), 4);
        due(x.edges(0, 0, 0, 0), 0);
        due(x.edges(0, 0, 1, 1), 1);
        due(x.edges(0, 0, 3, 3), 0);
        due(x.edges(0, 0, 4, 4), 1);
    }

    @Sentence("A signal has an edge at a time t, from 1 to the present time, if its values at t - 1 and t"
        + " are not UNKNOWN and differ;")
    void descriptionNoEdgesOfUnknown() {
        fine("a:8;", 1);
        passTo(2);
        x.dumps(0);
        x.sets(0, 1);
        passTo(3);
        x.dumps(1);
        passTo(5);
        x.dumps(0);
        x.sets(0, 2);
        passTo(7);
        x.dumps(1);
        due(x.at(0, 2), 0);
        due(x.at(0, 3), 1);
        due(x.edges(0, 0, 3, 3), 1);
        due(x.at(0, 6), UNKNOWN);
        due(x.at(0, 7), 2);
        due(x.ticks(1, -1), 1);
    }

    @Sentence("it is a rising edge if the value at t is greater, otherwise a falling one.")
    void descriptionRisingAndFalling() {
        fine("a:8;", 1);
        wave(0, 1, 1, 2, 255, 3, 254, 4, 0);
        int[] rising = {0, 1, 1, 0, 0};
        for (int t = 1; t <= 4; t++) {
            due(x.edges(0, 1, t, t), rising[t]);
            due(x.edges(0, 2, t, t), 1 - rising[t]);
            due(x.edges(0, 0, t, t), 1);
        }
    }

    // ---- Room

    @Sentence("The dictionary of a block consists of the different values of its changes, indexed from 0"
        + " in the order in which they first occur.")
    void descriptionDictionary() {
        fine("a:8;b:8;", 2);
        x.sizes(8);
        due(x.block(0, 3), 0);
        int[] values = {9, 3, 9, 0, 3, 255, 0, 9};
        int[] indexes = {0, 1, 0, 2, 1, 3, 2, 0};
        int[] sizes = {1, 2, 2, 3, 3, 4, 4, 4};
        for (int i = 0; i < 8; i++) {
            x.sets(0, values[i]);
            due(x.change(0, i, 3), indexes[i]);
            due(x.block(0, 3), sizes[i]);
        }
        x.sets(1, 255);
        due(x.change(1, 0, 3), 0);
        due(x.block(1, 3), 1);
    }

    @Sentence("The room of a block is 2, plus the number of wires, plus 2 for each value of its"
        + " dictionary,")
    void descriptionRoomOfWiresAndValues() {
        due(x.block(0, 4), 2);
        fine("a=1;", 1);
        due(x.block(0, 4), 2);
        fine("a:8;b@a;c=a;", 3);
        due(x.block(0, 4), 3);
        fine(SIX_WIRES, 6);
        due(x.block(0, 4), 8);
        x.sets(0, 1);
        due(x.block(0, 4), 8 + 2 + 1);
        x.sets(1, 1);
        due(x.block(0, 4), 8 + 2 + 2);
        x.sets(1, 0);
        due(x.block(0, 4), 8 + 4 + 3);
    }

    @Sentence("plus for each change: 1; 1 more if its value has an index of 2 or more;")
    void descriptionRoomOfIndexes() {
        fine("a:8;", 1);
        x.sizes(8);
        int[] values = {1, 2, 3, 4, 2, 1, 4, 3};
        int[] costs = {3, 3, 4, 4, 1, 1, 2, 2};
        int room = 3;
        for (int i = 0; i < 8; i++) {
            x.sets(0, values[i]);
            room += costs[i];
            due(x.block(0, 4), room);
        }
    }

    @Sentence("and, with the time since the change before it in this block (since the begin for the first"
        + " one), 0 more if it is 0, 1 more if it is 1 to 15, 2 more if it is 16 or more.")
    void descriptionRoomOfTimes() {
        int[][] costs = {{0, 0}, {1, 1}, {15, 1}, {16, 2}, {17, 2}, {99, 2}, {400, 2}};
        for (int[] cost : costs) {
            fine("a:1;", 1);
            passTo(40);
            moreBlocks(1);
            passTo(40 + cost[0]);
            x.sets(0, 1);
            due(x.block(1, 4), 3 + 3 + cost[1]);
            passTo(40 + 2 * cost[0]);
            x.sets(0, 0);
            due(x.block(1, 4), 3 + 6 + 2 * cost[1]);
        }
    }

    // ---- Observations

    @Sentence("There are at most 6;")
    void descriptionSixObservations() {
        for (int i = 1; i <= 6; i++) {
            due(x.sees(i, i), i);
        }
        refused(FULL, () -> x.sees(7, 7));
        due(x.forget(), 6);
        due(x.sees(7, 7), 1);
    }

    @Sentence("an observation says that an unknown signal had a recorded value (0 to 255 or UNKNOWN) at a"
        + " time.")
    void descriptionObservations() {
        fine("a:8;b:8;c:8;", 3);
        x.sets(0, 255);
        x.dumps(0);
        passTo(1);
        x.sees(0, 255);
        due(x.which(), 0b001);
        x.sees(1, UNKNOWN);
        due(x.which(), 0b001);
        x.forget();
        x.sees(1, UNKNOWN);
        due(x.which(), 0b111);
        x.sees(0, 0);
        due(x.which(), 0b110);
        refused(BAD, () -> x.sees(0, 256), () -> x.sees(0, -1), () -> x.sees(0, -6),
            () -> x.sees(0, -8));
    }

    // ---- Examples

    @Sentence("1. A wire, and a derived signal beside it; what is not recorded is UNKNOWN: type(97) = 1;"
        + " type(58) = 2; type(50) = 3; type(59) = 4; type(98) = 5; type(61) = 6; type(33) = 7; type(97)"
        + " = 8; type(59) = 9; tells() = 2; sets(0, 3) = 1; passes(2) = 2; dumps(0) = 1; passes(1) = 3;"
        + " at(1, 2) = 0; at(0, 3) = -7.")
    void descriptionExample1() {
        fine("a:2;b=!a;", 2);
        due(x.sets(0, 3), 1);
        due(x.passes(2), 2);
        due(x.dumps(0), 1);
        due(x.passes(1), 3);
        due(x.at(1, 2), 0);
        due(x.at(0, 3), -7);
    }

    @Sentence("2. A width out of its range, behind a scope: type(91) = 1; type(115) = 2; type(59) = 3;"
        + " type(97) = 4; type(58) = 5; type(49) = 6; type(59) = 7; type(93) = 8; type(59) = 9; type(98)"
        + " = 10; type(58) = 11; type(57) = 12; type(59) = 13; tells() = -21; clear() = 13; node() = -10.")
    void descriptionExample2() {
        wrong("[s;a:1;];b:9;", 11);
        due(x.clear(), 13);
        due(x.node(), -10);
    }

    @Sentence("3. A derived signal without wires; observations: type(99) = 1; type(61) = 2; type(53) = 3;"
        + " type(38) = 4; type(49) = 5; type(59) = 6; tells() = 1; at(0, 0) = 1; packed(4) = 2; block(0,"
        + " 4) = 2; sees(1, 1) = 1; which() = 0; sees(0, 0) = 2; jump(0) = 0; holds(0, 1, 0) = 0; undo()"
        + " = -2.")
    void descriptionExample3() {
        fine("c=5&1;", 1);
        due(x.at(0, 0), 1);
        due(x.packed(4), 2);
        due(x.block(0, 4), 2);
        due(x.sees(1, 1), 1);
        due(x.which(), 0);
        due(x.sees(0, 0), 2);
        due(x.jump(0), 0);
        due(x.holds(0, 1, 0), 0);
        due(x.undo(), -2);
    }
}

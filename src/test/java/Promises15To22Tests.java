/** Promises 15 to 22: recorded values, edges and delays. */
public final class Promises15To22Tests extends Bench {
    public static void main(String[] args) throws ReflectiveOperationException {
        run(Promises15To22Tests.class);
    }

    /** Wire a: 1 from 2 on, 3 from 5 on, 0 from 9 on, 2 from 12 on, which is the present time. */
    private void steps() {
        fine("a:2;b=!a;", 2);
        wave(0, 2, 1, 5, 3, 9, 0, 12, 2);
    }

    /** Known from 2 to 4 and from 7 on, which is the present time; before and between unknown. */
    private void gaps() {
        fine("a:8;b=1;", 2);
        x.sets(0, 9);
        passTo(2);
        moreBlocks(6);
        passTo(4);
        x.dumps(0);
        x.sets(0, 7);
        passTo(7);
        x.dumps(1);
        dueAt(0, UNKNOWN, UNKNOWN, 9, 9, 9, UNKNOWN, UNKNOWN, 7);
    }

    // ---- Promise 15

    @Sentence("Returns a recorded value.")
    void promise15Values() {
        steps();
        dueAt(0, 0, 0, 1, 1, 1, 3, 3, 3, 3, 0, 0, 0, 2);
        dueAt(1, 1, 1, 0, 0, 0, 0, 0, 0, 0, 1, 1, 1, 0);
    }

    @Sentence("`n`: the signal")
    void promise15Signal() {
        fine(TWELVE, 12);
        range(0, 11, n -> x.at(n, 0));
        anew();
        refused(BAD, () -> x.at(0, 0), () -> x.at(-1, 0));
    }

    @Sentence("`t`: the time, 0 to the present time")
    void promise15Time() {
        steps();
        range(0, 12, t -> x.at(0, t));
        due(x.at(0, 12), 2);
        fine("a:8;", 1);
        range(0, 0, t -> x.at(0, t));
        passTo(999);
        range(0, 999, t -> x.at(0, t));
    }

    @Sentence("Returns the value, or UNKNOWN; or BAD.")
    void promise15Returns() {
        gaps();
        dueAt(1, 1, 1, 1, 1, 1, 1, 1, 1);
        refused(BAD, () -> x.at(2, 0), () -> x.at(0, 8), () -> x.at(-1, 5), () -> x.at(1, -1));
        fine("a:8;", 1);
        x.sets(0, 255);
        due(x.at(0, 0), 255);
    }

    @Sentence("Returns the value, or UNKNOWN; or BAD.")
    void promise15FullRecord() {
        fullRecord();
        due(x.at(0, 0), UNKNOWN);
        due(x.at(0, 19), UNKNOWN);
        for (int begin = 20; begin <= 120; begin += 20) {
            int[] values = {0, 0, 1, 1, 2, 2, 3, 3, 4, 4, 5, 5, 6, 6, 7, 7, 8, 8, UNKNOWN, UNKNOWN};
            for (int t = 0; t < values.length; t++) {
                due(x.at(0, begin + t), values[t]);
            }
        }
    }

    // ---- Promise 16

    @Sentence("Counts edges of a signal.")
    void promise16Counts() {
        steps();
        due(x.edges(0, 0, 0, 12), 4);
        due(x.edges(1, 0, 0, 12), 3);
        gaps();
        due(x.edges(0, 0, 0, 7), 0);
        due(x.edges(1, 0, 0, 7), 0);
    }

    @Sentence("`n`: the signal")
    void promise16Signal() {
        fine(TWELVE, 12);
        range(0, 11, n -> x.edges(n, 0, 0, 0));
        anew();
        refused(BAD, () -> x.edges(0, 0, 0, 0), () -> x.edges(-1, 0, 0, 0));
    }

    @Sentence("`kind`: 0 for all edges, 1 for rising, 2 for falling ones")
    void promise16Kind() {
        steps();
        range(0, 2, kind -> x.edges(0, kind, 0, 12));
        int[] of0 = {4, 3, 1};
        int[] of1 = {3, 1, 2};
        for (int kind = 0; kind <= 2; kind++) {
            due(x.edges(0, kind, 0, 12), of0[kind]);
            due(x.edges(1, kind, 0, 12), of1[kind]);
        }
    }

    @Sentence("`from`: the first time, 0 to the present time")
    void promise16From() {
        steps();
        range(0, 12, from -> x.edges(0, 0, from, 12));
        due(x.edges(0, 0, 1, 12), 4);
        due(x.edges(0, 0, 2, 12), 4);
        due(x.edges(0, 0, 3, 12), 3);
        due(x.edges(0, 0, 12, 12), 1);
    }

    @Sentence("`to`: the last time, from to the present time")
    void promise16To() {
        steps();
        range(5, 12, to -> x.edges(0, 0, 5, to));
        due(x.edges(0, 0, 5, 5), 1);
        due(x.edges(0, 0, 5, 8), 1);
        due(x.edges(0, 0, 5, 9), 2);
        due(x.edges(0, 0, 5, 12), 3);
        range(12, 12, to -> x.edges(0, 0, 12, to));
        range(0, 12, to -> x.edges(0, 0, 0, to));
        due(x.edges(0, 0, 0, 0), 0);
    }

    @Sentence("Returns how many there are at these times; or BAD.")
    void promise16Returns() {
        steps();
        due(x.edges(0, 0, 3, 4), 0);
        due(x.edges(0, 0, 6, 8), 0);
        due(x.edges(0, 0, 4, 10), 2);
        refused(BAD, () -> x.edges(2, 0, 0, 0), () -> x.edges(0, 3, 0, 0),
            () -> x.edges(0, 0, 13, 13), () -> x.edges(0, 0, 0, 13), () -> x.edges(0, 0, 1, 0),
            () -> x.edges(0, 0, -1, -1), () -> x.edges(0, 0, 12, 11));
    }

    @Sentence("Returns how many there are at these times; or BAD.")
    void promise16FullRecord() {
        fullRecord();
        due(x.edges(0, 0, 0, 139), 48);
        due(x.edges(0, 1, 22, 136), 48);
        due(x.edges(0, 1, 23, 135), 46);
        due(x.edges(0, 2, 0, 139), 0);
        due(x.edges(1, 0, 0, 139), 0);
    }

    // ---- Promise 17

    @Sentence("Finds the next edge of a signal.")
    void promise17Finds() {
        steps();
        int[] next = {2, 2, 5, 5, 5, 9, 9, 9, 9, 12, 12, 12, NONE};
        for (int t = 0; t < next.length; t++) {
            due(x.next(0, 0, t), next[t]);
        }
    }

    @Sentence("`n`: the signal")
    void promise17Signal() {
        fine(TWELVE, 12);
        range(0, 11, n -> x.next(n, 0, 0));
        anew();
        refused(BAD, () -> x.next(0, 0, 0), () -> x.next(-1, 0, 0));
    }

    @Sentence("`kind`: 0 for all edges, 1 for rising, 2 for falling ones")
    void promise17Kind() {
        steps();
        range(0, 2, kind -> x.next(0, kind, 0));
        due(x.next(0, 0, 5), 9);
        due(x.next(0, 1, 5), 12);
        due(x.next(0, 2, 5), 9);
        due(x.next(0, 2, 9), NONE);
    }

    @Sentence("`t`: the time, 0 to the present time")
    void promise17Time() {
        steps();
        range(0, 12, t -> x.next(0, 0, t));
        fine("a:1;", 1);
        range(0, 0, t -> x.next(0, 0, t));
    }

    @Sentence("Returns the first time after t at which it has one, or NONE; or BAD.")
    void promise17Returns() {
        steps();
        due(x.next(0, 0, 11), 12);
        due(x.next(0, 0, 12), NONE);
        due(x.next(1, 1, 8), 9);
        due(x.next(1, 1, 9), NONE);
        refused(BAD, () -> x.next(2, 0, 12), () -> x.next(0, 3, 12), () -> x.next(0, -1, 12),
            () -> x.next(0, 0, 13), () -> x.next(0, 0, -1));
        gaps();
        due(x.next(0, 0, 0), NONE);
        fine("a:1;", 1);
        wave(0, 0, 1, 1, 0);
        due(x.next(0, 0, 0), 1);
    }

    @Sentence("Returns the first time after t at which it has one, or NONE; or BAD.")
    void promise17FullRecord() {
        fullRecord();
        due(x.next(0, 0, 0), 22);
        due(x.next(0, 1, 36), 42);
        due(x.next(0, 0, 135), 136);
        due(x.next(0, 0, 136), NONE);
        due(x.next(0, 2, 0), NONE);
    }

    // ---- Promise 18

    @Sentence("Finds the previous edge of a signal.")
    void promise18Finds() {
        steps();
        int[] previous = {NONE, NONE, NONE, 2, 2, 2, 5, 5, 5, 5, 9, 9, 9};
        for (int t = 0; t < previous.length; t++) {
            due(x.previous(0, 0, t), previous[t]);
        }
        x.passes(1);
        due(x.previous(0, 0, 13), 12);
    }

    @Sentence("`n`: the signal")
    void promise18Signal() {
        fine(TWELVE, 12);
        range(0, 11, n -> x.previous(n, 0, 0));
        anew();
        refused(BAD, () -> x.previous(0, 0, 0), () -> x.previous(-1, 0, 0));
    }

    @Sentence("`kind`: 0 for all edges, 1 for rising, 2 for falling ones")
    void promise18Kind() {
        steps();
        range(0, 2, kind -> x.previous(0, kind, 12));
        due(x.previous(0, 0, 12), 9);
        due(x.previous(0, 1, 12), 5);
        due(x.previous(0, 2, 12), 9);
        due(x.previous(0, 2, 9), NONE);
    }

    @Sentence("`t`: the time, 0 to the present time")
    void promise18Time() {
        steps();
        range(0, 12, t -> x.previous(0, 0, t));
        fine("a:1;", 1);
        range(0, 0, t -> x.previous(0, 0, t));
    }

    @Sentence("Returns the last time before t at which it has one, or NONE; or BAD.")
    void promise18Returns() {
        steps();
        due(x.previous(0, 0, 3), 2);
        due(x.previous(0, 0, 2), NONE);
        due(x.previous(1, 1, 10), 9);
        due(x.previous(1, 1, 9), NONE);
        due(x.previous(0, 0, 0), NONE);
        refused(BAD, () -> x.previous(2, 0, 0), () -> x.previous(0, 3, 0),
            () -> x.previous(0, -1, 0), () -> x.previous(0, 0, 13), () -> x.previous(0, 0, -1));
        gaps();
        due(x.previous(0, 0, 7), NONE);
        fine("a:1;", 1);
        wave(0, 0, 1, 1, 0);
        due(x.previous(0, 0, 1), NONE);
        passTo(2);
        due(x.previous(0, 0, 2), 1);
    }

    @Sentence("Returns the last time before t at which it has one, or NONE; or BAD.")
    void promise18FullRecord() {
        fullRecord();
        due(x.previous(0, 0, 139), 136);
        due(x.previous(0, 1, 42), 36);
        due(x.previous(0, 0, 23), 22);
        due(x.previous(0, 0, 22), NONE);
        due(x.previous(0, 2, 139), NONE);
    }

    // ---- Promise 19

    @Sentence("Finds when a signal has a recorded value.")
    void promise19Finds() {
        steps();
        due(x.first(0, 0, 0), 0);
        due(x.first(0, 1, 0), 2);
        due(x.first(0, 3, 0), 5);
        due(x.first(0, 2, 0), 12);
        due(x.first(1, 0, 0), 2);
        gaps();
        due(x.first(0, UNKNOWN, 0), 0);
        due(x.first(0, UNKNOWN, 2), 5);
        due(x.first(0, 9, 0), 2);
        due(x.first(0, 7, 0), 7);
        due(x.first(1, UNKNOWN, 0), NONE);
    }

    @Sentence("`n`: the signal")
    void promise19Signal() {
        fine(TWELVE, 12);
        range(0, 11, n -> x.first(n, 0, 0));
        anew();
        refused(BAD, () -> x.first(0, 0, 0), () -> x.first(-1, 0, 0));
    }

    @Sentence("`v`: the value, 0 to 255 or UNKNOWN")
    void promise19Value() {
        fine("a:8;", 1);
        range(0, 255, v -> x.first(0, v, 0));
        range(UNKNOWN, UNKNOWN, v -> x.first(0, v, 0));
        refused(BAD, () -> x.first(0, NONE, 0), () -> x.first(0, STATE, 0));
        x.sets(0, 255);
        due(x.first(0, 255, 0), 0);
    }

    @Sentence("`t`: the time, 0 to the present time")
    void promise19Time() {
        steps();
        range(0, 12, t -> x.first(0, 2, t));
        fine("a:1;", 1);
        range(0, 0, t -> x.first(0, 0, t));
    }

    @Sentence("Returns the first time from t on, or NONE; or BAD.")
    void promise19Returns() {
        steps();
        int[] ones = {2, 2, 2, 3, 4, NONE};
        for (int t = 0; t < ones.length; t++) {
            due(x.first(0, 1, t), ones[t]);
        }
        int[] zeros = {0, 1, 9, 9, 9, 9, 9, 9, 9, 9, 10, 11, NONE};
        for (int t = 0; t < zeros.length; t++) {
            due(x.first(0, 0, t), zeros[t]);
        }
        due(x.first(0, 2, 12), 12);
        due(x.first(0, 3, 12), NONE);
        due(x.first(0, UNKNOWN, 0), NONE);
        refused(BAD, () -> x.first(2, 3, 12), () -> x.first(0, 256, 12), () -> x.first(0, 3, 13),
            () -> x.first(0, 3, -1), () -> x.first(-1, UNKNOWN, 0));
    }

    @Sentence("Returns the first time from t on, or NONE; or BAD.")
    void promise19NotAfterThePresent() {
        steps();
        x.dumps(0);
        due(x.first(0, UNKNOWN, 0), NONE);
        due(x.first(0, UNKNOWN, 12), NONE);
        x.passes(1);
        due(x.first(0, UNKNOWN, 0), 13);
        due(x.first(0, UNKNOWN, 13), 13);
    }

    @Sentence("Returns the first time from t on, or NONE; or BAD.")
    void promise19FullRecord() {
        fullRecord();
        due(x.first(0, UNKNOWN, 0), 0);
        due(x.first(0, UNKNOWN, 20), 38);
        due(x.first(0, UNKNOWN, 120), 138);
        due(x.first(0, UNKNOWN, 139), 139);
        due(x.first(0, 8, 37), 37);
        due(x.first(0, 8, 38), 56);
        due(x.first(0, 8, 137), 137);
        due(x.first(0, 8, 138), NONE);
    }

    // ---- Promise 20

    @Sentence("Finds when a signal is active for some time: the first of m consecutive times, from t on and"
        + " not after the present time, at all of which its recorded value is neither UNKNOWN nor 0.")
    void promise20Active() {
        steps();
        due(x.holds(0, 1, 0), 2);
        due(x.holds(0, 7, 0), 2);
        due(x.holds(0, 8, 0), NONE);
        due(x.holds(1, 2, 0), 0);
        due(x.holds(1, 3, 0), 9);
        due(x.holds(1, 4, 0), NONE);
    }

    @Sentence("Finds when a signal is active for some time: the first of m consecutive times, from t on and"
        + " not after the present time, at all of which its recorded value is neither UNKNOWN nor 0.")
    void promise20FromTOn() {
        steps();
        due(x.holds(0, 6, 3), 3);
        due(x.holds(0, 7, 3), NONE);
        due(x.holds(0, 4, 5), 5);
        due(x.holds(0, 1, 8), 8);
        due(x.holds(0, 2, 8), NONE);
        due(x.holds(0, 1, 9), 12);
    }

    @Sentence("Finds when a signal is active for some time: the first of m consecutive times, from t on and"
        + " not after the present time, at all of which its recorded value is neither UNKNOWN nor 0.")
    void promise20NotAfterPresent() {
        steps();
        due(x.holds(0, 1, 12), 12);
        due(x.holds(0, 2, 12), NONE);
        x.passes(1);
        due(x.holds(0, 2, 12), 12);
        due(x.holds(0, 3, 12), NONE);
    }

    @Sentence("Finds when a signal is active for some time: the first of m consecutive times, from t on and"
        + " not after the present time, at all of which its recorded value is neither UNKNOWN nor 0.")
    void promise20UnknownIsNotActive() {
        gaps();
        due(x.holds(0, 1, 0), 2);
        due(x.holds(0, 3, 0), 2);
        due(x.holds(0, 4, 0), NONE);
        due(x.holds(0, 1, 5), 7);
        due(x.holds(1, 8, 0), 0);
        due(x.holds(1, 9, 0), NONE);
    }

    @Sentence("`n`: the signal")
    void promise20Signal() {
        fine(TWELVE, 12);
        range(0, 11, n -> x.holds(n, 1, 0));
        anew();
        refused(BAD, () -> x.holds(0, 1, 0), () -> x.holds(-1, 1, 0));
    }

    @Sentence("`m`: 1 to 999")
    void promise20Length() {
        fine("c=1;", 1);
        range(1, 999, m -> x.holds(0, m, 0));
        passTo(997);
        due(x.holds(0, 999, 0), NONE);
        x.passes(1);
        due(x.holds(0, 999, 0), 0);
        due(x.holds(0, 999, 1), NONE);
        x.passes(1);
        due(x.holds(0, 999, 1), 1);
        due(x.holds(0, 999, 2), NONE);
    }

    @Sentence("`t`: the time, 0 to the present time")
    void promise20Time() {
        steps();
        range(0, 12, t -> x.holds(0, 1, t));
        fine("a:1;", 1);
        range(0, 0, t -> x.holds(0, 1, t));
    }

    @Sentence("Returns the time, or NONE; or BAD.")
    void promise20Returns() {
        steps();
        due(x.holds(0, 1, 0), 2);
        due(x.holds(0, 999, 0), NONE);
        refused(BAD, () -> x.holds(2, 999, 0), () -> x.holds(0, 1000, 0), () -> x.holds(0, 0, 0),
            () -> x.holds(0, 999, 13), () -> x.holds(0, 999, -1));
    }

    @Sentence("Returns the time, or NONE; or BAD.")
    void promise20FullRecord() {
        fullRecord();
        due(x.holds(0, 16, 0), 22);
        due(x.holds(0, 17, 0), NONE);
        due(x.holds(0, 16, 23), 42);
        due(x.holds(0, 16, 122), 122);
        due(x.holds(0, 16, 123), NONE);
        due(x.holds(0, 1, 138), NONE);
    }

    // ---- Promise 21

    @Sentence("Lists the times at which at least one signal of a set has an edge.")
    void promise21Times() {
        fine("a:8;b:8;c@a;", 3);
        x.sizes(8);
        wave(0, 1, 1, 4, 2, 9, 3);
        x.undo();
        x.sets(1, 1);
        passTo(11);
        x.sets(0, 9);
        x.sets(1, 9);
        int[] either = {1, 4, 9, 11};
        for (int k = 0; k < 4; k++) {
            due(x.ticks(0b011, k), either[k]);
        }
        due(x.ticks(0b011, -1), 4);
        due(x.ticks(0b001, -1), 3);
        due(x.ticks(0b010, -1), 2);
        due(x.ticks(0b101, -1), 3);
    }

    @Sentence("`set`: the set of signals, 0 for none")
    void promise21Set() {
        fine(TWELVE, 12);
        range(0, 4095, set -> x.ticks(set, -1));
        due(x.ticks(0, -1), 0);
        due(x.ticks(0, 0), NONE);
        fine("a:1;", 1);
        range(0, 1, set -> x.ticks(set, -1));
        anew();
        range(0, 0, set -> x.ticks(set, -1));
    }

    @Sentence("`k`: -1 for how many such times there are, or which one of them, from 0 on, in ascending"
        + " order")
    void promise21Which() {
        steps();
        due(x.ticks(1, -1), 4);
        int[] times = {2, 5, 9, 12};
        for (int k = 0; k < 4; k++) {
            due(x.ticks(1, k), times[k]);
        }
        refused(BAD, () -> x.ticks(1, -2), () -> x.ticks(1, LEAST));
    }

    @Sentence("Returns the number or the time; NONE if there are not so many; or BAD.")
    void promise21Returns() {
        steps();
        due(x.ticks(2, -1), 3);
        due(x.ticks(2, 2), 12);
        due(x.ticks(2, 3), NONE);
        due(x.ticks(2, GREATEST), NONE);
        refused(BAD, () -> x.ticks(4, 0), () -> x.ticks(4, 99), () -> x.ticks(-1, -1),
            () -> x.ticks(3, -2));
        due(x.ticks(3, 4), NONE);
    }

    @Sentence("Returns the number or the time; NONE if there are not so many; or BAD.")
    void promise21EndedBlocks() {
        fullRecord();
        due(x.ticks(3, -1), 48);
        due(x.ticks(3, 0), 22);
        due(x.ticks(3, 8), 42);
        due(x.ticks(3, 47), 136);
        due(x.ticks(3, 48), NONE);
        due(x.ticks(2, -1), 0);
    }

    @Sentence("Returns the number or the time; NONE if there are not so many; or BAD.")
    void promise21FullRecord() {
        fine("a:8;", 1);
        x.sizes(8);
        passTo(1);
        for (int i = 1; i <= 48; i++) {
            x.sets(0, i);
            x.passes(1);
        }
        due(x.count(6), 6);
        due(x.count(8), 48);
        due(x.ticks(1, -1), 48);
        due(x.ticks(1, 47), 48);
        due(x.ticks(1, 48), NONE);
        x.sets(0, 99);
        due(x.ticks(1, -1), 40);
        due(x.ticks(1, 0), 10);
    }

    // ---- Promise 22

    @Sentence("Finds by how much the edges of one signal follow those of another one: the smallest d from 0"
        + " to 50 such that a has at least one edge at a time t for which t + d is not after the present"
        + " time, and for each such edge b has an edge at t + d.")
    void promise22From0To50() {
        int[] gaps = {0, 1, 49, 50, 51, 52};
        for (int gap : gaps) {
            fine("a:1;b:1;", 2);
            wave(0, 1, 1);
            wave(1, 1 + gap, 1);
            due(x.delay(0, 1), gap <= 50 ? gap : NONE);
            passTo(130);
            due(x.delay(0, 1), gap <= 50 ? gap : NONE);
            due(x.delay(1, 0), gap == 0 ? 0 : NONE);
        }
    }

    @Sentence("Finds by how much the edges of one signal follow those of another one: the smallest d from 0"
        + " to 50 such that a has at least one edge at a time t for which t + d is not after the present"
        + " time, and for each such edge b has an edge at t + d.")
    void promise22Smallest() {
        fine("a:1;b:1;", 2);
        x.sizes(8);
        wave(0, 2, 1);
        wave(1, 5, 1, 9, 0);
        due(x.delay(0, 1), 3);
        wave(0, 10, 0);
        due(x.delay(0, 1), 3);
        passTo(13);
        due(x.delay(0, 1), 7);
        x.sets(1, 1);
        due(x.delay(0, 1), 3);
    }

    @Sentence("Finds by how much the edges of one signal follow those of another one: the smallest d from 0"
        + " to 50 such that a has at least one edge at a time t for which t + d is not after the present"
        + " time, and for each such edge b has an edge at t + d.")
    void promise22PresentTime() {
        fine("a:1;b:1;", 2);
        x.sizes(8);
        wave(0, 1, 1);
        wave(1, 5, 1);
        wave(0, 7, 0);
        passTo(10);
        due(x.delay(0, 1), 4);
        passTo(11);
        due(x.delay(0, 1), NONE);
        x.sets(1, 0);
        due(x.delay(0, 1), 4);
    }

    @Sentence("`a`: the first signal")
    void promise22First() {
        fine(TWELVE, 12);
        range(0, 11, a -> x.delay(a, 0));
        anew();
        refused(BAD, () -> x.delay(0, 0), () -> x.delay(-1, -1));
    }

    @Sentence("`b`: the second signal, perhaps the same")
    void promise22Second() {
        fine(TWELVE, 12);
        range(0, 11, b -> x.delay(0, b));
        due(x.delay(0, 0), NONE);
        x.passes(1);
        x.sets(0, 1);
        due(x.delay(0, 0), 0);
        due(x.delay(0, 11), 0);
    }

    @Sentence("Returns d, or NONE; or BAD.")
    void promise22Returns() {
        fine("a:1;b:1;", 2);
        wave(0, 0, 1, 1, 0);
        due(x.delay(0, 0), 0);
        due(x.delay(0, 1), NONE);
        due(x.delay(1, 0), NONE);
        due(x.delay(1, 1), NONE);
        refused(BAD, () -> x.delay(2, 0), () -> x.delay(0, 2), () -> x.delay(-1, 0),
            () -> x.delay(0, -1));
    }

    @Sentence("Returns d, or NONE; or BAD.")
    void promise22FullRecord() {
        fullRecord();
        due(x.delay(0, 0), 0);
        due(x.delay(0, 1), NONE);
        due(x.delay(1, 0), NONE);
    }
}

import java.util.Arrays;

/** A store for signal waveforms, as in the trace file of a simulator. */
public final class SignalWaves {
    public static final int BAD = -1, STATE = -2, FULL = -3, UNKNOWN = -7, NONE = -9;

    private static final int MAX_TEXT = 160;
    private static final int MAX_SIGNALS = 12;
    private static final int MAX_WIRES = 6;
    private static final int MAX_DERIVED = 4;
    private static final int MAX_SCOPES = 6;
    private static final int MAX_DEPTH = 4;
    private static final int MAX_WIDTH = 8;
    private static final int MAX_BYTE = 255;
    private static final int LETTERS = 26;
    /** How many numbers and paths an item may have, and how many characters ! and (. */
    private static final int MAX_OPERANDS = 6;
    private static final int MAX_MARKS = 6;
    /** An expression's operands, its marks, and the signs between its operands. */
    private static final int MAX_CODE = MAX_OPERANDS + MAX_MARKS + MAX_OPERANDS - 1;

    private static final int MAX_TIME = 999;
    private static final int MAX_PASS = 99;
    private static final int MAX_BLOCKS = 6;
    private static final int MAX_SIZE = 8;
    private static final int FIRST_SIZE = 4;
    private static final int MAX_UNDO = 6;
    private static final int IMAGES = 2;
    private static final int MAX_OBSERVATIONS = 6;
    private static final int MAX_DELAY = 50;
    /** Time 0, and the begin, the time after the end and the changes of each block. */
    private static final int MAX_MOMENTS = 1 + MAX_BLOCKS * (2 + MAX_SIZE);

    private static final int WIRE = 0, ALIAS = 1, DERIVED = 2;
    /** Where a signal or scope at the top level is, and where nothing is. */
    private static final int TOP = -1, NOWHERE = -2;
    /** What is added to the number of a scope where signals and scopes stand together. */
    private static final int SCOPES_FROM = 100;
    /** What is added to the number of a signal in the code of an expression. */
    private static final int SIGNALS_FROM = 1000;
    private static final int ERRORS_FROM = -10;

    private final Text text = new Text();
    private Design design = new Design();
    /** What tells() reads into: the design stays as it is until the text has proved correct. */
    private Design draft = new Design();
    private final Reader reader = new Reader(text, draft);
    private final Recording recording = new Recording();
    private final Past past = new Past();
    private final Recording[] images = new Recording[IMAGES];
    private final boolean[] kept = new boolean[IMAGES];
    private final int[] seenTimes = new int[MAX_OBSERVATIONS];
    private final int[] seenValues = new int[MAX_OBSERVATIONS];
    private int observations;
    private final History history = new History();
    /** The changes of a group of blocks, one behind the other. */
    private final Changes gathered = new Changes(MAX_BLOCKS * MAX_SIZE);
    /** A value for each signal, made anew by every call that needs it. */
    private final int[] row = new int[MAX_SIGNALS];

    public SignalWaves() {
        for (int i = 0; i < images.length; i++) {
            images[i] = new Recording();
        }
    }

    // ---- Description

    public int type(int letter) {
        if (letter < 0 || letter > MAX_BYTE) {
            return BAD;
        }
        if (text.length >= MAX_TEXT) {
            return FULL;
        }
        text.add(letter);
        return text.length;
    }

    public int clear() {
        int length = text.length;
        text.empty();
        return length;
    }

    public int tells() {
        int items = reader.read(draft);
        if (items == NONE) {
            return ERRORS_FROM - text.start;
        }
        Design old = design;
        design = draft;
        draft = old;
        recording.restart();
        past.count = 0;
        for (int i = 0; i < kept.length; i++) {
            kept[i] = false;
        }
        observations = 0;
        text.empty();
        return items;
    }

    public int node() {
        int home = TOP;
        text.toFirst();
        for (int i = 0; i < MAX_TEXT; i++) {
            int name = text.letter();
            if (name == NONE) {
                return ERRORS_FROM - text.start;
            }
            int found = design.named(home, name);
            text.toNext();
            if (text.sign == NONE) {
                text.empty();
                return found < SCOPES_FROM ? found : NONE;
            }
            if (text.sign != '.') {
                return ERRORS_FROM - text.start;
            }
            text.toNext();
            home = found >= SCOPES_FROM ? found - SCOPES_FROM : NOWHERE;
        }
        return ERRORS_FROM - text.start;
    }

    public int about(int n, int what) {
        if (!isSignal(n)) {
            return BAD;
        }
        switch (what) {
            case 0:
                return design.kinds[n];
            case 1:
                return design.kinds[n] == WIRE ? design.details[n] : NONE;
            case 2:
                return design.kinds[n] == ALIAS ? design.details[n] : NONE;
            case 3:
                return orNone(design.homes[n]);
            case 4:
                return design.names[n];
            case 5:
                System.arraycopy(recording.values, 0, row, 0, MAX_SIGNALS);
                design.complete(row);
                return row[n];
            default:
                return BAD;
        }
    }

    public int scope(int s, int what) {
        if (s < 0 || s >= design.scopes) {
            return BAD;
        }
        switch (what) {
            case 0:
                return orNone(design.scopeHomes[s]);
            case 1:
                return design.scopeNames[s];
            default:
                return BAD;
        }
    }

    public int listed(int s, int k) {
        if (s < TOP || s >= design.scopes || k < 0) {
            return BAD;
        }
        int before = 0;
        for (int name = 0; name < LETTERS; name++) {
            int found = design.named(s, name);
            if (found != NONE && before == k) {
                return found;
            }
            if (found != NONE) {
                before++;
            }
        }
        return NONE;
    }

    public int path(int n, int k) {
        if (!isSignal(n) || k < 0) {
            return BAD;
        }
        return design.pathName(n, k);
    }

    // ---- Recording

    public int sets(int n, int v) {
        if (!isWire(n) || v < 0 || v >= 1 << design.details[n]) {
            return BAD;
        }
        if (recording.values[n] == v) {
            return STATE;
        }
        past.remember(recording);
        recording.give(n, v);
        return recording.on ? 1 : 0;
    }

    public int passes(int n) {
        if (n < 1 || n > MAX_PASS) {
            return BAD;
        }
        if (recording.time + n > MAX_TIME) {
            return STATE;
        }
        past.remember(recording);
        recording.time += n;
        return recording.time;
    }

    public int dumps(int on) {
        if (on != 0 && on != 1) {
            return BAD;
        }
        if (recording.on == (on == 1)) {
            return STATE;
        }
        past.remember(recording);
        recording.turn(on == 1);
        return recording.count;
    }

    public int sizes(int n) {
        if (n < 1 || n > MAX_SIZE) {
            return BAD;
        }
        if (n == recording.size) {
            return STATE;
        }
        past.remember(recording);
        int previous = recording.size;
        recording.size = n;
        return previous;
    }

    public int undo() {
        if (past.count == 0) {
            return STATE;
        }
        past.bringBack(recording);
        return past.count;
    }

    // ---- Recorded values

    public int at(int n, int t) {
        if (!isSignal(n) || !isPast(t)) {
            return BAD;
        }
        fillRow(t);
        return row[n];
    }

    public int edges(int n, int kind, int from, int to) {
        if (!isSignal(n) || !isKind(kind) || !isPast(from) || !isPast(to) || from > to) {
            return BAD;
        }
        history.read(design, recording);
        int found = 0;
        for (int i = 0; i < history.count; i++) {
            int time = history.times[i];
            if (time >= from && time <= to && history.isEdge(n, kind, i)) {
                found++;
            }
        }
        return found;
    }

    public int next(int n, int kind, int t) {
        if (!isSignal(n) || !isKind(kind) || !isPast(t)) {
            return BAD;
        }
        history.read(design, recording);
        for (int i = 0; i < history.count; i++) {
            if (history.times[i] > t && history.isEdge(n, kind, i)) {
                return history.times[i];
            }
        }
        return NONE;
    }

    public int previous(int n, int kind, int t) {
        if (!isSignal(n) || !isKind(kind) || !isPast(t)) {
            return BAD;
        }
        history.read(design, recording);
        for (int i = history.count - 1; i >= 0; i--) {
            if (history.times[i] < t && history.isEdge(n, kind, i)) {
                return history.times[i];
            }
        }
        return NONE;
    }

    public int first(int n, int v, int t) {
        if (!isSignal(n) || !isRecordable(v) || !isPast(t)) {
            return BAD;
        }
        history.read(design, recording);
        for (int i = 0; i < history.count; i++) {
            if (history.after(i) > t && history.values[i][n] == v) {
                return Math.max(t, history.times[i]);
            }
        }
        return NONE;
    }

    public int holds(int n, int m, int t) {
        if (!isSignal(n) || m < 1 || m > MAX_TIME || !isPast(t)) {
            return BAD;
        }
        history.read(design, recording);
        int start = NONE;
        for (int i = 0; i < history.count; i++) {
            int value = history.values[i][n];
            if (value == UNKNOWN || value == 0) {
                start = NONE;
            } else if (start == NONE) {
                start = Math.max(t, history.times[i]);
            }
            if (start != NONE && history.after(i) - start >= m) {
                return start;
            }
        }
        return NONE;
    }

    public int ticks(int set, int k) {
        if (set < 0 || set >= 1 << design.signals || k < -1) {
            return BAD;
        }
        history.read(design, recording);
        int before = 0;
        for (int i = 0; i < history.count; i++) {
            if (history.hasEdgeOf(set, i)) {
                if (before == k) {
                    return history.times[i];
                }
                before++;
            }
        }
        return k == -1 ? before : NONE;
    }

    public int delay(int a, int b) {
        if (!isSignal(a) || !isSignal(b)) {
            return BAD;
        }
        history.read(design, recording);
        for (int d = 0; d <= MAX_DELAY; d++) {
            if (history.follows(a, b, d)) {
                return d;
            }
        }
        return NONE;
    }

    // ---- Blocks

    public int jump(int t) {
        return isPast(t) ? recording.blockAt(t) : BAD;
    }

    public int block(int b, int what) {
        if (!isBlock(b)) {
            return BAD;
        }
        Block block = recording.blocks[b];
        switch (what) {
            case 0:
                return block.begin;
            case 1:
                return block.end;
            case 2:
                return block.changes.count;
            case 3:
                return block.changes.different(0, block.changes.count);
            case 4:
                return roomOf(block);
            default:
                return BAD;
        }
    }

    public int frame(int b, int n) {
        return isBlock(b) && isWire(n) ? recording.blocks[b].frame[n] : BAD;
    }

    public int change(int b, int i, int what) {
        if (!isBlock(b) || i < 0 || what < 0 || what > 3) {
            return BAD;
        }
        Changes changes = recording.blocks[b].changes;
        if (i >= changes.count) {
            return NONE;
        }
        switch (what) {
            case 0:
                return changes.times[i];
            case 1:
                return changes.wires[i];
            case 2:
                return changes.values[i];
            default:
                return changes.indexOf(i, 0);
        }
    }

    public int packed(int s) {
        return s < 1 || s > MAX_SIZE ? BAD : roomDivided(s);
    }

    public int best() {
        int best = 1;
        int least = roomDivided(1);
        for (int s = 2; s <= MAX_SIZE; s++) {
            int room = roomDivided(s);
            if (room < least) {
                least = room;
                best = s;
            }
        }
        return best;
    }

    // ---- Observations

    public int sees(int t, int v) {
        if (t < 0 || t > MAX_TIME || !isRecordable(v)) {
            return BAD;
        }
        if (observations >= MAX_OBSERVATIONS) {
            return FULL;
        }
        seenTimes[observations] = t;
        seenValues[observations] = v;
        observations++;
        return observations;
    }

    public int forget() {
        int before = observations;
        observations = 0;
        return before;
    }

    public int which() {
        return agreeing();
    }

    public int look() {
        int set = agreeing();
        if (Integer.bitCount(set) < 2) {
            return NONE;
        }
        history.read(design, recording);
        int best = 0;
        int least = MAX_SIGNALS + 1;
        for (int i = 0; i < history.count; i++) {
            int greatest = history.greatestGroup(set, i);
            if (greatest < least) {
                least = greatest;
                best = history.times[i];
            }
        }
        return best;
    }

    // ---- Images and numbers

    public int keep(int image) {
        if (image < 0 || image >= IMAGES) {
            return BAD;
        }
        images[image].copyFrom(recording);
        kept[image] = true;
        return recording.time;
    }

    public int back(int image) {
        if (image < 0 || image >= IMAGES) {
            return BAD;
        }
        if (!kept[image]) {
            return STATE;
        }
        recording.copyFrom(images[image]);
        past.count = 0;
        return recording.time;
    }

    public int count(int what) {
        switch (what) {
            case 0:
                return design.signals;
            case 1:
                return design.wires;
            case 2:
                return design.scopes;
            case 3:
                return recording.time;
            case 4:
                return recording.on ? 1 : 0;
            case 5:
                return recording.size;
            case 6:
                return recording.count;
            case 7:
                return recording.lost;
            case 8:
                return changesInAll();
            case 9:
                return roomOfAll();
            case 10:
                return observations;
            case 11:
                return text.length;
            case 12:
                return past.count;
            default:
                return BAD;
        }
    }

    // ---- What the calls share

    private boolean isSignal(int n) {
        return n >= 0 && n < design.signals;
    }

    private boolean isWire(int n) {
        return isSignal(n) && design.kinds[n] == WIRE;
    }

    private boolean isBlock(int b) {
        return b >= 0 && b < recording.count;
    }

    private boolean isPast(int t) {
        return t >= 0 && t <= recording.time;
    }

    private static boolean isKind(int kind) {
        return kind >= 0 && kind <= 2;
    }

    private static boolean isRecordable(int v) {
        return v == UNKNOWN || (v >= 0 && v <= MAX_BYTE);
    }

    private static int orNone(int home) {
        return home == TOP ? NONE : home;
    }

    private void fillRow(int t) {
        recording.fillWires(row, t);
        design.complete(row);
    }

    private int roomOf(Block block) {
        return block.changes.room(design.wires, block.begin, 0, block.changes.count);
    }

    private int roomOfAll() {
        int room = 0;
        for (int b = 0; b < recording.count; b++) {
            room += roomOf(recording.blocks[b]);
        }
        return room;
    }

    private int changesInAll() {
        int changes = 0;
        for (int b = 0; b < recording.count; b++) {
            changes += recording.blocks[b].changes.count;
        }
        return changes;
    }

    private int roomDivided(int s) {
        int room = 0;
        int begin = NONE;
        for (int b = 0; b < recording.count; b++) {
            Block block = recording.blocks[b];
            if (begin == NONE) {
                begin = block.begin;
                gathered.count = 0;
            }
            gathered.addAll(block.changes);
            if (block.end != NONE || b == recording.count - 1) {
                room += roomOfGroup(begin, s);
                begin = NONE;
            }
        }
        return room;
    }

    private int roomOfGroup(int begin, int s) {
        int room = 0;
        int from = 0;
        int start = begin;
        for (int to = 1; to < gathered.count; to++) {
            if (to - from == s) {
                room += gathered.room(design.wires, start, from, to);
                from = to;
                start = gathered.times[to];
            }
        }
        return room + gathered.room(design.wires, start, from, gathered.count);
    }

    private int agreeing() {
        int set = (1 << design.signals) - 1;
        for (int i = 0; i < observations; i++) {
            if (!isPast(seenTimes[i])) {
                return 0;
            }
            fillRow(seenTimes[i]);
            for (int n = 0; n < design.signals; n++) {
                if (row[n] != seenValues[i]) {
                    set &= ~(1 << n);
                }
            }
        }
        return set;
    }

    /** The text buffer, and the token in it that is read at present. */
    private static final class Text {
        private final int[] bytes = new int[MAX_TEXT];
        private int length;
        /** The first byte of the token; the length of the text if there is no more token. */
        private int start;
        /** The byte behind the token. */
        private int end;
        /** The byte with which the token begins, NONE if there is no more token. */
        private int sign;

        void add(int letter) {
            if (length < bytes.length) {
                bytes[length] = letter;
                length++;
            }
        }

        void empty() {
            length = 0;
        }

        void toFirst() {
            end = 0;
            toNext();
        }

        void toNext() {
            start = end;
            while (start < length && bytes[start] == ' ') {
                start++;
            }
            sign = start < length ? bytes[start] : NONE;
            end = start < length ? start + 1 : length;
            if (sign >= '0' && sign <= '9') {
                while (end < length && bytes[end] >= '0' && bytes[end] <= '9') {
                    end++;
                }
            }
        }

        /** 0 for a to 25 for z, or NONE if the token is no name. */
        int letter() {
            return sign >= 'a' && sign <= 'z' ? sign - 'a' : NONE;
        }

        /** The number that the token is, or NONE if it is none, or not written as one must be. */
        int number() {
            int digits = end - start;
            if (sign < '0' || sign > '9' || digits > 3 || (sign == '0' && digits > 1)) {
                return NONE;
            }
            int number = 0;
            for (int i = start; i < end; i++) {
                number = 10 * number + bytes[i] - '0';
            }
            return number <= MAX_BYTE ? number : NONE;
        }
    }

    /**
     * Reads signals and scopes from a text. Each method looks at the token at which the text
     * stands and goes on behind what it has read; if it refuses, the text still stands at the
     * token that is not allowed, whose start is the error position.
     */
    private static final class Reader {
        private final Text text;
        private Design design;
        private int open;
        private int operands;
        private int marks;

        Reader(Text text, Design design) {
            this.text = text;
            this.design = design;
        }

        /** Returns how many items there are, or NONE if the text has an error. */
        int read(Design into) {
            design = into;
            design.empty();
            open = TOP;
            text.toFirst();
            int items = 0;
            while (items < MAX_TEXT && text.sign != NONE) {
                if (!readItem()) {
                    return NONE;
                }
                items++;
            }
            return items;
        }

        private boolean readItem() {
            operands = 0;
            marks = 0;
            boolean fine;
            if (text.sign == '[') {
                fine = readOpening();
            } else if (text.sign == ']') {
                fine = readClosing();
            } else {
                fine = readSignal();
            }
            return fine && readSign(';');
        }

        private boolean readSign(int sign) {
            if (text.sign != sign) {
                return false;
            }
            text.toNext();
            return true;
        }

        private boolean readOpening() {
            if (design.depth(open) >= MAX_DEPTH) {
                return false;
            }
            text.toNext();
            int name = text.letter();
            if (name == NONE) {
                return false;
            }
            int found = design.named(open, name);
            if (found == NONE && design.scopes < MAX_SCOPES) {
                found = SCOPES_FROM + design.addScope(open, name);
            }
            if (found < SCOPES_FROM) {
                return false;
            }
            open = found - SCOPES_FROM;
            text.toNext();
            return true;
        }

        private boolean readClosing() {
            if (open < 0) {
                return false;
            }
            open = design.scopeHomes[open];
            text.toNext();
            return true;
        }

        private boolean readSignal() {
            int name = text.letter();
            if (name == NONE || design.signals >= MAX_SIGNALS || design.named(open, name) != NONE) {
                return false;
            }
            text.toNext();
            int kind;
            int detail;
            if (text.sign == ':' && design.wires < MAX_WIRES) {
                text.toNext();
                kind = WIRE;
                detail = readWidth();
            } else if (text.sign == '@') {
                text.toNext();
                kind = ALIAS;
                detail = readPath();
            } else if (text.sign == '=' && design.derived < MAX_DERIVED) {
                text.toNext();
                kind = DERIVED;
                design.beginCode();
                detail = readExpression() ? 0 : NONE;
            } else {
                return false;
            }
            if (detail == NONE) {
                return false;
            }
            design.addSignal(kind, open, name, detail);
            return true;
        }

        private int readWidth() {
            int width = text.number();
            if (width < 1 || width > MAX_WIDTH) {
                return NONE;
            }
            text.toNext();
            return width;
        }

        private boolean readExpression() {
            if (!readTerm()) {
                return false;
            }
            // The limit of operands ends this long before the text can.
            for (int i = 0; i < MAX_TEXT && isOperator(text.sign); i++) {
                int sign = text.sign;
                text.toNext();
                if (!readTerm()) {
                    return false;
                }
                design.addCode(-sign);
            }
            return true;
        }

        private static boolean isOperator(int sign) {
            return sign == '&' || sign == '|' || sign == '^' || sign == '+' || sign == '-';
        }

        /** Goes never deeper than an item may have characters ! and (. */
        private boolean readTerm() {
            int sign = text.sign;
            if (sign == '!' || sign == '(') {
                if (marks >= MAX_MARKS) {
                    return false;
                }
                marks++;
                text.toNext();
                if (sign == '(') {
                    return readExpression() && readSign(')');
                }
                if (!readTerm()) {
                    return false;
                }
                design.addCode(-sign);
                return true;
            }
            if (operands >= MAX_OPERANDS) {
                return false;
            }
            operands++;
            int code = text.number();
            if (code != NONE) {
                text.toNext();
            } else {
                int signal = readPath();
                if (signal == NONE) {
                    return false;
                }
                code = SIGNALS_FROM + signal;
            }
            design.addCode(code);
            return true;
        }

        /** Returns the signal, or NONE. A dot behind it is refused by what reads on there. */
        private int readPath() {
            int home = TOP;
            for (int i = 0; i <= MAX_DEPTH; i++) {
                int name = text.letter();
                int found = name == NONE ? NONE : design.named(home, name);
                if (found == NONE) {
                    return NONE;
                }
                text.toNext();
                if (found < SCOPES_FROM) {
                    return found;
                }
                if (text.sign != '.') {
                    return NONE;
                }
                text.toNext();
                home = found - SCOPES_FROM;
            }
            return NONE;
        }
    }

    /** Signals and scopes. */
    private static final class Design {
        private int signals;
        private int wires;
        private int derived;
        private int scopes;
        private final int[] kinds = new int[MAX_SIGNALS];
        /** The width of a wire, the original of an alias. */
        private final int[] details = new int[MAX_SIGNALS];
        private final int[] homes = new int[MAX_SIGNALS];
        private final int[] names = new int[MAX_SIGNALS];
        private final int[] scopeHomes = new int[MAX_SCOPES];
        private final int[] scopeNames = new int[MAX_SCOPES];
        /**
         * The expressions, operands first: a number, SIGNALS_FROM and a signal, or a sign with
         * a minus, which takes its operands from those before it.
         */
        private final int[][] codes = new int[MAX_SIGNALS][MAX_CODE];
        private final int[] codeLengths = new int[MAX_SIGNALS];
        private final int[] stack = new int[MAX_OPERANDS];

        void empty() {
            signals = 0;
            wires = 0;
            derived = 0;
            scopes = 0;
        }

        int addScope(int home, int name) {
            int s = scopes;
            if (s < MAX_SCOPES) {
                scopeHomes[s] = home;
                scopeNames[s] = name;
                scopes++;
            }
            return s;
        }

        void addSignal(int kind, int home, int name, int detail) {
            int n = signals;
            if (n >= MAX_SIGNALS) {
                return;
            }
            kinds[n] = kind;
            homes[n] = home;
            names[n] = name;
            details[n] = detail;
            signals++;
            if (kind == WIRE) {
                wires++;
            } else if (kind == DERIVED) {
                derived++;
            }
        }

        /** Begins the code of the signal that is added next. */
        void beginCode() {
            if (signals < MAX_SIGNALS) {
                codeLengths[signals] = 0;
            }
        }

        void addCode(int code) {
            if (signals < MAX_SIGNALS && codeLengths[signals] < MAX_CODE) {
                codes[signals][codeLengths[signals]] = code;
                codeLengths[signals]++;
            }
        }

        /** The signal with this name directly there, or SCOPES_FROM and the scope, or NONE. */
        int named(int home, int name) {
            for (int n = 0; n < signals; n++) {
                if (homes[n] == home && names[n] == name) {
                    return n;
                }
            }
            for (int s = 0; s < scopes; s++) {
                if (scopeHomes[s] == home && scopeNames[s] == name) {
                    return SCOPES_FROM + s;
                }
            }
            return NONE;
        }

        /** How many scopes are open one in another if this one is. */
        int depth(int s) {
            int depth = 0;
            for (int around = s; around >= 0 && depth < MAX_DEPTH; around = scopeHomes[around]) {
                depth++;
            }
            return depth;
        }

        int pathName(int n, int k) {
            int depth = depth(homes[n]);
            if (k > depth) {
                return NONE;
            }
            if (k == depth) {
                return names[n];
            }
            int s = homes[n];
            for (int i = depth - 1; i > k && s >= 0; i--) {
                s = scopeHomes[s];
            }
            return s >= 0 ? scopeNames[s] : NONE;
        }

        /** Computes aliases and derived signals; what they refer to stands before them. */
        void complete(int[] values) {
            for (int n = 0; n < signals; n++) {
                if (kinds[n] == ALIAS) {
                    values[n] = values[details[n]];
                } else if (kinds[n] == DERIVED) {
                    values[n] = computed(n, values);
                }
            }
        }

        private int computed(int n, int[] values) {
            int height = 0;
            for (int i = 0; i < codeLengths[n]; i++) {
                int code = codes[n][i];
                if (code >= 0 && height < stack.length) {
                    stack[height] = code < SIGNALS_FROM ? code : values[code - SIGNALS_FROM];
                    height++;
                } else if (code == -'!' && height >= 1) {
                    stack[height - 1] = negated(stack[height - 1]);
                } else if (code < 0 && height >= 2) {
                    height--;
                    stack[height - 1] = joined(-code, stack[height - 1], stack[height]);
                }
            }
            return stack[0];
        }

        private static int negated(int x) {
            if (x == UNKNOWN) {
                return UNKNOWN;
            }
            return x == 0 ? 1 : 0;
        }

        private static int joined(int sign, int x, int y) {
            if (sign == '&' && (x == 0 || y == 0)) {
                return 0;
            }
            if (x == UNKNOWN || y == UNKNOWN) {
                return UNKNOWN;
            }
            switch (sign) {
                case '&':
                    return x & y;
                case '|':
                    return x | y;
                case '^':
                    return x ^ y;
                case '+':
                    return (x + y) & MAX_BYTE;
                default:
                    return (x - y) & MAX_BYTE;
            }
        }
    }

    /** A list of changes, in the order in which they were made. */
    private static final class Changes {
        private int count;
        private final int[] times;
        private final int[] wires;
        private final int[] values;

        Changes(int most) {
            times = new int[most];
            wires = new int[most];
            values = new int[most];
        }

        void add(int time, int wire, int value) {
            if (count < times.length) {
                times[count] = time;
                wires[count] = wire;
                values[count] = value;
                count++;
            }
        }

        void addAll(Changes other) {
            for (int i = 0; i < other.count; i++) {
                add(other.times[i], other.wires[i], other.values[i]);
            }
        }

        void copyFrom(Changes other) {
            count = 0;
            addAll(other);
        }

        /** Whether no change from there on, before this one, has the same value. */
        private boolean isNew(int i, int from) {
            for (int j = from; j < i; j++) {
                if (values[j] == values[i]) {
                    return false;
                }
            }
            return true;
        }

        /** How many values a dictionary of these changes has. */
        int different(int from, int to) {
            int different = 0;
            for (int i = from; i < to; i++) {
                if (isNew(i, from)) {
                    different++;
                }
            }
            return different;
        }

        /** The index of this change's value in a dictionary that begins with the change there. */
        int indexOf(int i, int from) {
            int place = from;
            while (place < i && values[place] != values[i]) {
                place++;
            }
            return different(from, place);
        }

        /** The room of a block with these changes. */
        int room(int wireCount, int begin, int from, int to) {
            int room = 2 + wireCount + 2 * different(from, to);
            int before = begin;
            for (int i = from; i < to; i++) {
                int passed = times[i] - before;
                room += 1;
                if (indexOf(i, from) >= 2) {
                    room += 1;
                }
                if (passed > 0) {
                    room += passed < 16 ? 1 : 2;
                }
                before = times[i];
            }
            return room;
        }
    }

    /** A block of the record; its end is NONE if it has none. */
    private static final class Block {
        private int begin;
        private int end;
        private final int[] frame = new int[MAX_SIGNALS];
        private final Changes changes = new Changes(MAX_SIZE);

        void restart(int time, int[] values) {
            begin = time;
            end = NONE;
            System.arraycopy(values, 0, frame, 0, MAX_SIGNALS);
            changes.count = 0;
        }

        void copyFrom(Block other) {
            restart(other.begin, other.frame);
            end = other.end;
            changes.copyFrom(other.changes);
        }
    }

    /** Time, current values and the record; what an undo or an image brings back. */
    private static final class Recording {
        private int time;
        private boolean on;
        private int size;
        private int lost;
        /** How many blocks are in the list; there is always one at least. */
        private int count;
        private final Block[] blocks = new Block[MAX_BLOCKS];
        /** A value for each signal, of which those of the wires are meant. */
        private final int[] values = new int[MAX_SIGNALS];

        Recording() {
            for (int b = 0; b < blocks.length; b++) {
                blocks[b] = new Block();
            }
            restart();
        }

        void restart() {
            time = 0;
            on = true;
            size = FIRST_SIZE;
            lost = 0;
            count = 0;
            Arrays.fill(values, 0);
            beginBlock();
        }

        void copyFrom(Recording other) {
            time = other.time;
            on = other.on;
            size = other.size;
            lost = other.lost;
            count = other.count;
            System.arraycopy(other.values, 0, values, 0, MAX_SIGNALS);
            for (int b = 0; b < count; b++) {
                blocks[b].copyFrom(other.blocks[b]);
            }
        }

        void give(int n, int v) {
            if (on) {
                if (blocks[count - 1].changes.count >= size) {
                    beginBlock();
                }
                blocks[count - 1].changes.add(time, n, v);
            }
            values[n] = v;
        }

        void turn(boolean toOn) {
            on = toOn;
            if (on) {
                beginBlock();
            } else {
                blocks[count - 1].end = time;
            }
        }

        private void beginBlock() {
            if (count == MAX_BLOCKS) {
                loseOldest();
            }
            blocks[count].restart(time, values);
            count++;
        }

        private void loseOldest() {
            Block oldest = blocks[0];
            for (int b = 1; b < MAX_BLOCKS; b++) {
                blocks[b - 1] = blocks[b];
            }
            blocks[MAX_BLOCKS - 1] = oldest;
            count--;
            lost++;
        }

        /** The block from which the recorded values are taken, NONE if they are UNKNOWN. */
        int blockAt(int t) {
            for (int b = count - 1; b >= 0; b--) {
                if (blocks[b].begin <= t) {
                    boolean ended = blocks[b].end != NONE && blocks[b].end < t;
                    return ended ? NONE : b;
                }
            }
            return NONE;
        }

        void fillWires(int[] into, int t) {
            int b = blockAt(t);
            if (b == NONE) {
                Arrays.fill(into, UNKNOWN);
                return;
            }
            System.arraycopy(blocks[b].frame, 0, into, 0, MAX_SIGNALS);
            Changes changes = blocks[b].changes;
            for (int i = 0; i < changes.count && changes.times[i] <= t; i++) {
                into[changes.wires[i]] = changes.values[i];
            }
        }
    }

    /** What the recording was before the latest calls that can be undone. */
    private static final class Past {
        private int count;
        private final Recording[] before = new Recording[MAX_UNDO];

        Past() {
            for (int i = 0; i < before.length; i++) {
                before[i] = new Recording();
            }
        }

        void remember(Recording recording) {
            if (count == MAX_UNDO) {
                Recording oldest = before[0];
                for (int i = 1; i < MAX_UNDO; i++) {
                    before[i - 1] = before[i];
                }
                before[MAX_UNDO - 1] = oldest;
                count--;
            }
            before[count].copyFrom(recording);
            count++;
        }

        void bringBack(Recording recording) {
            if (count > 0) {
                count--;
                recording.copyFrom(before[count]);
            }
        }
    }

    /**
     * The recorded values of all signals at the moments, the only times at which they can be
     * others than at the time before: a value holds from its moment to the next one.
     */
    private static final class History {
        private int count;
        private int lastTime;
        private final int[] times = new int[MAX_MOMENTS];
        private final int[][] values = new int[MAX_MOMENTS][MAX_SIGNALS];

        void read(Design design, Recording recording) {
            lastTime = recording.time;
            count = 0;
            addMoment(0);
            for (int b = 0; b < recording.count; b++) {
                Block block = recording.blocks[b];
                addMoment(block.begin);
                for (int i = 0; i < block.changes.count; i++) {
                    addMoment(block.changes.times[i]);
                }
                if (block.end != NONE) {
                    addMoment(block.end + 1);
                }
            }
            for (int i = 0; i < count; i++) {
                recording.fillWires(values[i], times[i]);
                design.complete(values[i]);
            }
        }

        /** Keeps the times in ascending order, each of them once. */
        private void addMoment(int time) {
            int place = count;
            while (place > 0 && times[place - 1] >= time) {
                place--;
            }
            boolean isNew = place == count || times[place] != time;
            if (isNew && time <= lastTime && count < times.length) {
                System.arraycopy(times, place, times, place + 1, count - place);
                times[place] = time;
                count++;
            }
        }

        /** The time after the last one at which the values of this moment hold. */
        int after(int i) {
            return i + 1 < count ? times[i + 1] : lastTime + 1;
        }

        boolean isEdge(int n, int kind, int i) {
            if (i == 0) {
                return false;
            }
            int from = values[i - 1][n];
            int to = values[i][n];
            if (from == UNKNOWN || to == UNKNOWN || from == to) {
                return false;
            }
            return kind == 0 || (kind == 1) == (to > from);
        }

        boolean hasEdgeOf(int set, int i) {
            for (int n = 0; n < MAX_SIGNALS; n++) {
                if ((set >> n & 1) == 1 && isEdge(n, 0, i)) {
                    return true;
                }
            }
            return false;
        }

        private boolean hasEdgeAt(int n, int time) {
            for (int i = 0; i < count; i++) {
                if (times[i] == time) {
                    return isEdge(n, 0, i);
                }
            }
            return false;
        }

        /** Whether a has edges that count for this delay, and b follows each of them by it. */
        boolean follows(int a, int b, int d) {
            boolean any = false;
            for (int i = 0; i < count; i++) {
                if (times[i] + d <= lastTime && isEdge(a, 0, i)) {
                    if (!hasEdgeAt(b, times[i] + d)) {
                        return false;
                    }
                    any = true;
                }
            }
            return any;
        }

        /** How many signals of the set have the most frequent value among them. */
        int greatestGroup(int set, int i) {
            int greatest = 0;
            for (int n = 0; n < MAX_SIGNALS; n++) {
                int group = 0;
                for (int m = 0; m < MAX_SIGNALS; m++) {
                    boolean both = (set >> n & 1) == 1 && (set >> m & 1) == 1;
                    if (both && values[i][n] == values[i][m]) {
                        group++;
                    }
                }
                greatest = Math.max(greatest, group);
            }
            return greatest;
        }
    }
}

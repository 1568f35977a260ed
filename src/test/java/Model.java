import java.util.ArrayDeque;
import java.util.ArrayList;
import java.util.Arrays;
import java.util.Deque;
import java.util.LinkedHashSet;
import java.util.List;
import java.util.Map;
import java.util.TreeMap;

/**
 * The document once more, written in the most literal way and without a thought for speed:
 * every question is answered by looking at every time. The random runs compare with it.
 */
final class Model {
    static final int BAD = -1, STATE = -2, FULL = -3, UNKNOWN = -7, NONE = -9;

    interface Expression {
        int value(State state, int t);
    }

    static final class Scope {
        int number;
        int name;
        int depth;
        Scope around;
        final Map<Integer, Object> members = new TreeMap<>();
    }

    static final class Signal {
        int number;
        int name;
        int kind;
        int width;
        Signal original;
        Scope home;
        /** t is a time, or -1 for the current values. */
        Expression expression;
    }

    static final class Change {
        final int time;
        final Signal wire;
        final int value;

        Change(int time, Signal wire, int value) {
            this.time = time;
            this.wire = wire;
            this.value = value;
        }
    }

    static final class Block {
        int begin;
        Integer end;
        Map<Integer, Integer> frame = new TreeMap<>();
        List<Change> changes = new ArrayList<>();

        Block copy() {
            Block block = new Block();
            block.begin = begin;
            block.end = end;
            block.frame = new TreeMap<>(frame);
            block.changes = new ArrayList<>(changes);
            return block;
        }
    }

    static final class State {
        int time = 0;
        boolean on = true;
        int size = 4;
        int lost = 0;
        Map<Integer, Integer> current = new TreeMap<>();
        List<Block> blocks = new ArrayList<>();

        State copy() {
            State state = new State();
            state.time = time;
            state.on = on;
            state.size = size;
            state.lost = lost;
            state.current = new TreeMap<>(current);
            for (Block block : blocks) {
                state.blocks.add(block.copy());
            }
            return state;
        }

        void begin() {
            Block block = new Block();
            block.begin = time;
            block.frame = new TreeMap<>(current);
            blocks.add(block);
            if (blocks.size() > 6) {
                blocks.remove(0);
                lost++;
            }
        }

        int wire(Signal wire, int t) {
            if (t == -1) {
                return current.get(wire.number);
            }
            Block block = source(t);
            if (block == null) {
                return UNKNOWN;
            }
            int value = block.frame.get(wire.number);
            for (Change change : block.changes) {
                if (change.wire == wire && change.time <= t) {
                    value = change.value;
                }
            }
            return value;
        }

        Block source(int t) {
            Block last = null;
            for (Block block : blocks) {
                if (block.begin <= t) {
                    last = block;
                }
            }
            return last == null || (last.end != null && last.end < t) ? null : last;
        }
    }

    static final class Refused extends Exception {
        private static final long serialVersionUID = 1L;
        final int position;

        Refused(int position) {
            super(null, null, false, false);
            this.position = position;
        }
    }

    static final class Token {
        final int start;
        final String text;

        Token(int start, String text) {
            this.start = start;
            this.text = text;
        }

        boolean isName() {
            return text.length() == 1 && text.charAt(0) >= 'a' && text.charAt(0) <= 'z';
        }

        boolean isNumber() {
            return !text.isEmpty() && text.charAt(0) >= '0' && text.charAt(0) <= '9';
        }
    }

    static List<Token> tokens(String text) {
        List<Token> tokens = new ArrayList<>();
        int i = 0;
        while (i < text.length()) {
            int j = i + 1;
            if (Character.digit(text.charAt(i), 10) >= 0 && text.charAt(i) < 128) {
                while (j < text.length() && text.charAt(j) >= '0' && text.charAt(j) <= '9') {
                    j++;
                }
            }
            if (text.charAt(i) != ' ') {
                tokens.add(new Token(i, text.substring(i, j)));
            }
            i = j;
        }
        tokens.add(new Token(text.length(), ""));
        return tokens;
    }

    /** All that a text describes. */
    static final class World {
        final Scope top = new Scope();
        final List<Signal> signals = new ArrayList<>();
        final List<Scope> scopes = new ArrayList<>();
        int items = 0;

        private List<Token> tokens;
        private int place;
        private int operands;
        private int marks;

        World() {
        }

        World(String text) throws Refused {
            tokens = tokens(text);
            Scope open = top;
            while (!now().text.isEmpty()) {
                open = item(open);
                need(";");
                items++;
            }
        }

        private Token now() {
            return tokens.get(place);
        }

        private void demand(boolean allowed) throws Refused {
            if (!allowed) {
                throw new Refused(now().start);
            }
        }

        private void need(String sign) throws Refused {
            demand(now().text.equals(sign));
            place++;
        }

        private long kinds(int kind) {
            return signals.stream().filter(s -> s.kind == kind).count();
        }

        private Scope item(Scope open) throws Refused {
            operands = 0;
            marks = 0;
            if (now().text.equals("]")) {
                demand(open != top);
                place++;
                return open.around;
            }
            if (now().text.equals("[")) {
                demand(open.depth < 4);
                place++;
                return opened(open);
            }
            demand(now().isName());
            int name = now().text.charAt(0) - 'a';
            demand(signals.size() < 12 && !open.members.containsKey(name));
            place++;
            Signal signal = new Signal();
            signal.name = name;
            signal.home = open;
            if (now().text.equals(":")) {
                demand(kinds(0) < 6);
                place++;
                signal.width = number(1, 8);
                signal.expression = (state, t) -> state.wire(signal, t);
            } else if (now().text.equals("@")) {
                place++;
                signal.kind = 1;
                signal.original = path();
                signal.expression = signal.original.expression;
            } else {
                demand(now().text.equals("=") && kinds(2) < 4);
                place++;
                signal.kind = 2;
                signal.expression = expression();
            }
            signal.number = signals.size();
            signals.add(signal);
            open.members.put(name, signal);
            return open;
        }

        private Scope opened(Scope open) throws Refused {
            demand(now().isName());
            int name = now().text.charAt(0) - 'a';
            Object there = open.members.get(name);
            demand(!(there instanceof Signal));
            if (there == null) {
                demand(scopes.size() < 6);
                Scope made = new Scope();
                made.number = scopes.size();
                made.name = name;
                made.depth = open.depth + 1;
                made.around = open;
                scopes.add(made);
                open.members.put(name, made);
                there = made;
            }
            place++;
            return (Scope) there;
        }

        private int number(int least, int greatest) throws Refused {
            String text = now().text;
            demand(now().isNumber() && text.length() <= 3 && !text.matches("0[0-9]+"));
            int number = Integer.parseInt(text);
            demand(number >= least && number <= greatest);
            place++;
            return number;
        }

        private Signal path() throws Refused {
            Object there = top;
            while (true) {
                demand(now().isName());
                there = ((Scope) there).members.get(now().text.charAt(0) - 'a');
                demand(there != null);
                place++;
                if (there instanceof Signal) {
                    return (Signal) there;
                }
                need(".");
            }
        }

        private Expression expression() throws Refused {
            Expression left = term();
            while ("&|^+-".contains(now().text) && !now().text.isEmpty()) {
                char sign = now().text.charAt(0);
                place++;
                Expression before = left;
                Expression right = term();
                left = (state, t) -> joined(sign, before.value(state, t), right.value(state, t));
            }
            return left;
        }

        private static int joined(char sign, int x, int y) {
            if (sign == '&' && x == 0 || sign == '&' && y == 0) {
                return 0;
            }
            if (x == UNKNOWN || y == UNKNOWN) {
                return UNKNOWN;
            }
            if (sign == '+' || sign == '-') {
                return Math.floorMod(sign == '+' ? x + y : x - y, 256);
            }
            int result = 0;
            for (int bit = 1; bit < 256; bit *= 2) {
                int ones = (x / bit % 2) + (y / bit % 2);
                boolean set = sign == '&' ? ones == 2 : sign == '|' ? ones > 0 : ones == 1;
                result += set ? bit : 0;
            }
            return result;
        }

        private Expression term() throws Refused {
            String text = now().text;
            if (text.equals("!") || text.equals("(")) {
                marks++;
                demand(marks <= 6);
                place++;
                if (text.equals("(")) {
                    Expression inner = expression();
                    need(")");
                    return inner;
                }
                Expression inner = term();
                return (state, t) -> {
                    int x = inner.value(state, t);
                    return x == UNKNOWN ? UNKNOWN : x == 0 ? 1 : 0;
                };
            }
            operands++;
            demand(operands <= 6);
            if (now().isNumber()) {
                int number = number(0, 255);
                return (state, t) -> number;
            }
            return path().expression;
        }
    }

    private final StringBuilder text = new StringBuilder();
    private World world = new World();
    private State state = fresh();
    private final Deque<State> past = new ArrayDeque<>();
    private final State[] images = new State[2];
    private final List<int[]> seen = new ArrayList<>();

    private State fresh() {
        State state = new State();
        for (Signal signal : world.signals) {
            if (signal.kind == 0) {
                state.current.put(signal.number, 0);
            }
        }
        state.begin();
        return state;
    }

    private boolean isSignal(int n) {
        return n >= 0 && n < world.signals.size();
    }

    private boolean isWire(int n) {
        return isSignal(n) && world.signals.get(n).kind == 0;
    }

    private boolean isTime(int t) {
        return t >= 0 && t <= state.time;
    }

    private boolean isBlock(int b) {
        return b >= 0 && b < state.blocks.size();
    }

    private int value(int n, int t) {
        return world.signals.get(n).expression.value(state, t);
    }

    private boolean edge(int n, int kind, int t) {
        if (t < 1 || t > state.time) {
            return false;
        }
        int x = value(n, t - 1);
        int y = value(n, t);
        if (x == UNKNOWN || y == UNKNOWN || x == y) {
            return false;
        }
        return kind == 0 || kind == 1 && x < y || kind == 2 && x > y;
    }

    int type(int letter) {
        if (letter < 0 || letter > 255) {
            return BAD;
        }
        if (text.length() == 160) {
            return FULL;
        }
        text.append((char) letter);
        return text.length();
    }

    int clear() {
        int length = text.length();
        text.setLength(0);
        return length;
    }

    int tells() {
        try {
            world = new World(text.toString());
        } catch (Refused refused) {
            return -10 - refused.position;
        }
        text.setLength(0);
        state = fresh();
        past.clear();
        Arrays.fill(images, null);
        seen.clear();
        return world.items;
    }

    int node() {
        List<Token> tokens = tokens(text.toString());
        for (int i = 0; i < tokens.size() - 1 || i % 2 == 0; i++) {
            Token token = tokens.get(i);
            if (i % 2 == 0 ? !token.isName() : !token.text.equals(".")) {
                return -10 - token.start;
            }
        }
        text.setLength(0);
        Object there = world.top;
        for (int i = 0; i < tokens.size() - 1; i += 2) {
            int name = tokens.get(i).text.charAt(0) - 'a';
            there = there instanceof Scope ? ((Scope) there).members.get(name) : null;
        }
        return there instanceof Signal ? ((Signal) there).number : NONE;
    }

    private int home(Scope scope) {
        return scope == world.top ? NONE : scope.number;
    }

    int about(int n, int what) {
        if (!isSignal(n) || what < 0 || what > 5) {
            return BAD;
        }
        Signal signal = world.signals.get(n);
        int[] answers = {signal.kind, signal.kind == 0 ? signal.width : NONE,
            signal.kind == 1 ? signal.original.number : NONE, home(signal.home), signal.name,
            value(n, -1)};
        return answers[what];
    }

    int scope(int s, int what) {
        if (s < 0 || s >= world.scopes.size() || what < 0 || what > 1) {
            return BAD;
        }
        Scope scope = world.scopes.get(s);
        return what == 0 ? home(scope.around) : scope.name;
    }

    int listed(int s, int k) {
        if (s < -1 || s >= world.scopes.size() || k < 0) {
            return BAD;
        }
        Scope scope = s == -1 ? world.top : world.scopes.get(s);
        List<Object> members = new ArrayList<>(scope.members.values());
        if (k >= members.size()) {
            return NONE;
        }
        Object member = members.get(k);
        return member instanceof Signal ? ((Signal) member).number : 100 + ((Scope) member).number;
    }

    int path(int n, int k) {
        if (!isSignal(n) || k < 0) {
            return BAD;
        }
        List<Integer> names = new ArrayList<>();
        names.add(world.signals.get(n).name);
        for (Scope scope = world.signals.get(n).home; scope != world.top; scope = scope.around) {
            names.add(0, scope.name);
        }
        return k < names.size() ? names.get(k) : NONE;
    }

    private void remember(State before) {
        past.addLast(before);
        if (past.size() > 6) {
            past.removeFirst();
        }
    }

    int sets(int n, int v) {
        if (!isWire(n) || v < 0 || v >= Math.pow(2, world.signals.get(n).width)) {
            return BAD;
        }
        if (state.current.get(n) == v) {
            return STATE;
        }
        remember(state.copy());
        if (state.on) {
            if (state.blocks.get(state.blocks.size() - 1).changes.size() >= state.size) {
                state.begin();
            }
            Change change = new Change(state.time, world.signals.get(n), v);
            state.blocks.get(state.blocks.size() - 1).changes.add(change);
        }
        state.current.put(n, v);
        return state.on ? 1 : 0;
    }

    int passes(int n) {
        if (n < 1 || n > 99) {
            return BAD;
        }
        if (state.time + n > 999) {
            return STATE;
        }
        remember(state.copy());
        state.time += n;
        return state.time;
    }

    int dumps(int on) {
        if (on < 0 || on > 1) {
            return BAD;
        }
        if (state.on == (on == 1)) {
            return STATE;
        }
        remember(state.copy());
        state.on = on == 1;
        if (state.on) {
            state.begin();
        } else {
            state.blocks.get(state.blocks.size() - 1).end = state.time;
        }
        return state.blocks.size();
    }

    int sizes(int n) {
        if (n < 1 || n > 8) {
            return BAD;
        }
        if (n == state.size) {
            return STATE;
        }
        remember(state.copy());
        int before = state.size;
        state.size = n;
        return before;
    }

    int undo() {
        if (past.isEmpty()) {
            return STATE;
        }
        state = past.removeLast();
        return past.size();
    }

    int at(int n, int t) {
        return isSignal(n) && isTime(t) ? value(n, t) : BAD;
    }

    int edges(int n, int kind, int from, int to) {
        if (!isSignal(n) || kind < 0 || kind > 2 || !isTime(from) || !isTime(to) || to < from) {
            return BAD;
        }
        int edges = 0;
        for (int t = from; t <= to; t++) {
            edges += edge(n, kind, t) ? 1 : 0;
        }
        return edges;
    }

    int next(int n, int kind, int t) {
        if (!isSignal(n) || kind < 0 || kind > 2 || !isTime(t)) {
            return BAD;
        }
        for (int u = t + 1; u <= state.time; u++) {
            if (edge(n, kind, u)) {
                return u;
            }
        }
        return NONE;
    }

    int previous(int n, int kind, int t) {
        if (!isSignal(n) || kind < 0 || kind > 2 || !isTime(t)) {
            return BAD;
        }
        for (int u = t - 1; u >= 0; u--) {
            if (edge(n, kind, u)) {
                return u;
            }
        }
        return NONE;
    }

    int first(int n, int v, int t) {
        if (!isSignal(n) || v != UNKNOWN && (v < 0 || v > 255) || !isTime(t)) {
            return BAD;
        }
        for (int u = t; u <= state.time; u++) {
            if (value(n, u) == v) {
                return u;
            }
        }
        return NONE;
    }

    int holds(int n, int m, int t) {
        if (!isSignal(n) || m < 1 || m > 999 || !isTime(t)) {
            return BAD;
        }
        int run = 0;
        for (int u = t; u <= state.time; u++) {
            run = value(n, u) > 0 ? run + 1 : 0;
            if (run == m) {
                return u - m + 1;
            }
        }
        return NONE;
    }

    int ticks(int set, int k) {
        if (set < 0 || set >= Math.pow(2, world.signals.size()) || k < -1) {
            return BAD;
        }
        List<Integer> times = new ArrayList<>();
        for (int t = 1; t <= state.time; t++) {
            boolean any = false;
            for (int n = 0; n < world.signals.size(); n++) {
                any |= set / (1 << n) % 2 == 1 && edge(n, 0, t);
            }
            if (any) {
                times.add(t);
            }
        }
        return k == -1 ? times.size() : k < times.size() ? times.get(k) : NONE;
    }

    int delay(int a, int b) {
        if (!isSignal(a) || !isSignal(b)) {
            return BAD;
        }
        for (int d = 0; d <= 50; d++) {
            int all = 0;
            int followed = 0;
            for (int t = 1; t + d <= state.time; t++) {
                if (edge(a, 0, t)) {
                    all++;
                    followed += edge(b, 0, t + d) ? 1 : 0;
                }
            }
            if (all > 0 && all == followed) {
                return d;
            }
        }
        return NONE;
    }

    int jump(int t) {
        if (!isTime(t)) {
            return BAD;
        }
        Block source = state.source(t);
        return source == null ? NONE : state.blocks.indexOf(source);
    }

    private List<Integer> dictionary(Block block) {
        LinkedHashSet<Integer> values = new LinkedHashSet<>();
        for (Change change : block.changes) {
            values.add(change.value);
        }
        return new ArrayList<>(values);
    }

    private int room(Block block) {
        List<Integer> dictionary = dictionary(block);
        int room = 2 + state.current.size() + 2 * dictionary.size();
        int before = block.begin;
        for (Change change : block.changes) {
            int passed = change.time - before;
            room += 1;
            room += dictionary.indexOf(change.value) >= 2 ? 1 : 0;
            room += passed == 0 ? 0 : passed <= 15 ? 1 : 2;
            before = change.time;
        }
        return room;
    }

    int block(int b, int what) {
        if (!isBlock(b) || what < 0 || what > 4) {
            return BAD;
        }
        Block block = state.blocks.get(b);
        int[] answers = {block.begin, block.end == null ? NONE : block.end, block.changes.size(),
            dictionary(block).size(), room(block)};
        return answers[what];
    }

    int frame(int b, int n) {
        return isBlock(b) && isWire(n) ? state.blocks.get(b).frame.get(n) : BAD;
    }

    int change(int b, int i, int what) {
        if (!isBlock(b) || i < 0 || what < 0 || what > 3) {
            return BAD;
        }
        Block block = state.blocks.get(b);
        if (i >= block.changes.size()) {
            return NONE;
        }
        Change change = block.changes.get(i);
        int[] answers = {change.time, change.wire.number, change.value,
            dictionary(block).indexOf(change.value)};
        return answers[what];
    }

    int packed(int s) {
        if (s < 1 || s > 8) {
            return BAD;
        }
        int room = 0;
        List<Block> group = new ArrayList<>();
        for (Block block : state.blocks) {
            group.add(block);
            if (block.end != null || block == state.blocks.get(state.blocks.size() - 1)) {
                room += divided(group, s);
                group.clear();
            }
        }
        return room;
    }

    private int divided(List<Block> group, int s) {
        List<Block> divided = new ArrayList<>();
        Block last = new Block();
        last.begin = group.get(0).begin;
        divided.add(last);
        for (Block block : group) {
            for (Change change : block.changes) {
                if (last.changes.size() == s) {
                    last = new Block();
                    last.begin = change.time;
                    divided.add(last);
                }
                last.changes.add(change);
            }
        }
        return divided.stream().mapToInt(this::room).sum();
    }

    int best() {
        int best = 8;
        for (int s = 7; s >= 1; s--) {
            best = packed(s) <= packed(best) ? s : best;
        }
        return best;
    }

    int sees(int t, int v) {
        if (t < 0 || t > 999 || v != UNKNOWN && (v < 0 || v > 255)) {
            return BAD;
        }
        if (seen.size() == 6) {
            return FULL;
        }
        seen.add(new int[] {t, v});
        return seen.size();
    }

    int forget() {
        int before = seen.size();
        seen.clear();
        return before;
    }

    int which() {
        int set = 0;
        for (int n = 0; n < world.signals.size(); n++) {
            boolean agrees = true;
            for (int[] one : seen) {
                agrees &= one[0] <= state.time && value(n, one[0]) == one[1];
            }
            set += agrees ? 1 << n : 0;
        }
        return set;
    }

    int look() {
        int set = which();
        if (Integer.bitCount(set) < 2) {
            return NONE;
        }
        int best = NONE;
        int least = 100;
        for (int t = 0; t <= state.time; t++) {
            Map<Integer, Integer> groups = new TreeMap<>();
            for (int n = 0; n < world.signals.size(); n++) {
                if (set / (1 << n) % 2 == 1) {
                    groups.merge(value(n, t), 1, Integer::sum);
                }
            }
            int greatest = groups.values().stream().mapToInt(g -> g).max().getAsInt();
            if (greatest < least) {
                least = greatest;
                best = t;
            }
        }
        return best;
    }

    int keep(int image) {
        if (image < 0 || image > 1) {
            return BAD;
        }
        images[image] = state.copy();
        return state.time;
    }

    int back(int image) {
        if (image < 0 || image > 1) {
            return BAD;
        }
        if (images[image] == null) {
            return STATE;
        }
        state = images[image].copy();
        past.clear();
        return state.time;
    }

    int count(int what) {
        int changes = 0;
        int room = 0;
        for (Block block : state.blocks) {
            changes += block.changes.size();
            room += room(block);
        }
        int[] answers = {world.signals.size(), state.current.size(), world.scopes.size(),
            state.time, state.on ? 1 : 0, state.size, state.blocks.size(), state.lost, changes,
            room, seen.size(), text.length(), past.size()};
        return what >= 0 && what < answers.length ? answers[what] : BAD;
    }
}

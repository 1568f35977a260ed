import java.util.Arrays;
import java.util.Random;

/** Random runs, the same at every start, of at most 512 calls; the model says what is due. */
public final class ModelTests {
    private static final int RUNS = 12000;
    private static final int CALLS = 512;
    private static final int[] FAR = {Integer.MIN_VALUE, Integer.MAX_VALUE, -1, -2, -7, -9, 256, 1000,
        4096, 100, 1 << 30};

    private final Random random;
    private final StringBuilder run = new StringBuilder();
    private final Model model = new Model();
    private final SignalWaves waves = new SignalWaves();
    private int calls = 0;

    private ModelTests(long seed) {
        random = new Random(seed);
    }

    public static void main(String[] args) {
        for (int seed = 0; seed < RUNS && !Check.hasFailed(); seed++) {
            new ModelTests(seed).go();
        }
        Check.close();
    }

    private void go() {
        while (calls < CALLS && !Check.hasFailed()) {
            if (calls == 0 || random.nextInt(90) == 0) {
                describe();
            }
            if (random.nextInt(100) < 45) {
                records();
            } else {
                asks();
            }
        }
    }

    private int pick(int... from) {
        return from[random.nextInt(from.length)];
    }

    /** From least to greatest, or now and then just outside of them, or far away. */
    private int near(int least, int greatest) {
        int kind = random.nextInt(40);
        if (kind == 0) {
            return pick(FAR);
        }
        if (kind == 1) {
            return pick(least - 1, greatest + 1, least, greatest);
        }
        return least + random.nextInt(Math.max(1, greatest - least + 1));
    }

    // ---- Texts

    private void describe() {
        String text = text();
        if (random.nextInt(4) == 0) {
            text = spoilt(text);
        }
        if (calls + text.length() + 20 > CALLS) {
            return;
        }
        send(text);
        call("tells");
        for (int i = random.nextInt(4); i > 0; i--) {
            if (random.nextInt(3) > 0) {
                call("clear");
            }
            send(path(new StringBuilder(), 5).toString());
            call("node");
        }
        if (random.nextInt(2) == 0) {
            call("clear");
        }
    }

    private void send(String text) {
        for (int i = 0; i < text.length(); i++) {
            call("type", text.charAt(i));
        }
    }

    /** Mostly correct: an item that makes it incorrect is seldom taken. */
    private String text() {
        int most = pick(4, 8, 12, 20, 30);
        int letters = pick(3, 6, 26);
        String text = "";
        for (int i = 0; i < most; i++) {
            String longer = text + item(letters);
            if (longer.length() <= 164 && (isCorrect(longer) || random.nextInt(60) == 0)) {
                text = longer;
            }
        }
        return text;
    }

    private static boolean isCorrect(String text) {
        try {
            return new Model.World(text).items > 0;
        } catch (Model.Refused refused) {
            return false;
        }
    }

    private String item(int letters) {
        StringBuilder item = new StringBuilder();
        int kind = random.nextInt(12);
        if (kind < 2) {
            token(item, "[");
            token(item, name(letters));
        } else if (kind == 2) {
            token(item, "]");
        } else if (kind < 7) {
            token(item, name(letters));
            token(item, ":");
            token(item, "" + (1 + random.nextInt(8)));
        } else if (kind < 9) {
            token(item, name(letters));
            token(item, "@");
            path(item, letters);
        } else {
            token(item, name(letters));
            token(item, "=");
            expression(item, letters, 0);
        }
        token(item, ";");
        return item.toString();
    }

    private void token(StringBuilder item, String token) {
        if (random.nextInt(25) == 0) {
            item.append(random.nextInt(3) == 0 ? "  " : " ");
        }
        item.append(token);
    }

    private String name(int letters) {
        return "" + (char) ('a' + random.nextInt(letters));
    }

    private StringBuilder path(StringBuilder item, int letters) {
        token(item, name(letters));
        while (random.nextInt(3) == 0) {
            token(item, ".");
            token(item, name(letters));
        }
        return item;
    }

    private void expression(StringBuilder item, int letters, int depth) {
        term(item, letters, depth);
        while (random.nextInt(2 + depth) == 0) {
            token(item, "" + "&|^+-".charAt(random.nextInt(5)));
            term(item, letters, depth);
        }
    }

    private void term(StringBuilder item, int letters, int depth) {
        int kind = random.nextInt(10);
        if (kind < 2) {
            token(item, "!");
            term(item, letters, depth + 1);
        } else if (kind < 4 && depth < 7) {
            token(item, "(");
            expression(item, letters, depth + 1);
            token(item, ")");
        } else if (kind < 6) {
            token(item, "" + pick(0, 1, 2, 15, 128, 255, random.nextInt(300)));
        } else {
            path(item, letters);
        }
    }

    private String spoilt(String text) {
        StringBuilder spoilt = new StringBuilder(text);
        for (int i = random.nextInt(3); i >= 0; i--) {
            int place = random.nextInt(spoilt.length() + 1);
            String signs = "abcxyz[]:;@=.!()&|^+-0123456789 AZ~\t\n\u0000\u00ff\u00b2{}`";
            char sign = signs.charAt(random.nextInt(signs.length()));
            int kind = random.nextInt(4);
            if (kind == 0 || place == spoilt.length()) {
                spoilt.insert(place, sign);
            } else if (kind == 1) {
                spoilt.setCharAt(place, sign);
            } else if (kind == 2) {
                spoilt.deleteCharAt(place);
            } else {
                spoilt.setLength(place);
            }
        }
        return spoilt.length() > 165 ? spoilt.substring(0, 165) : spoilt.toString();
    }

    // ---- Calls

    private int signal() {
        return near(0, model.count(0) - 1);
    }

    private int time() {
        return near(0, model.count(3));
    }

    private int changing(int n) {
        int width = model.about(n, 1);
        return near(0, width < 1 ? 255 : random.nextInt(3) == 0 ? 1 : (1 << width) - 1);
    }

    private void records() {
        int kind = random.nextInt(100);
        if (kind < 55) {
            int n = signal();
            for (int i = 0; i < 6 && model.about(n, 0) != 0 && random.nextInt(30) > 0; i++) {
                n = signal();
            }
            call("sets", n, changing(n));
        } else if (kind < 78) {
            call("passes", random.nextInt(3) == 0 ? near(1, 99) : near(1, pick(2, 5, 17)));
        } else if (kind < 85) {
            call("dumps", random.nextInt(5) == 0 ? near(0, 1) : 1 - model.count(4));
        } else if (kind < 90) {
            call("sizes", near(1, 8));
        } else if (kind < 95) {
            for (int i = random.nextInt(3); i >= 0; i--) {
                call("undo");
            }
        } else if (kind < 97) {
            call("keep", near(0, 1));
        } else if (kind < 98) {
            call("back", near(0, 1));
        } else if (kind < 99) {
            observes();
        } else {
            call("forget");
        }
    }

    private void observes() {
        int n = signal();
        int t = random.nextInt(20) == 0 ? near(0, 999) : time();
        int v = model.at(n, t);
        call("sees", t, v == Model.BAD || random.nextInt(10) == 0 ? near(0, 255) : v);
        call("which");
        call("look");
    }

    private void asks() {
        switch (random.nextInt(12)) {
            case 0:
                call("about", signal(), near(0, 5));
                call("path", signal(), near(0, 5));
                break;
            case 1:
                call("scope", near(0, model.count(2) - 1), near(0, 1));
                call("listed", near(-1, model.count(2) - 1), near(0, 6));
                break;
            case 2:
                call("at", signal(), time());
                break;
            case 3:
                call("edges", signal(), near(0, 2), time(), time());
                call("edges", signal(), near(0, 2), 0, model.count(3));
                break;
            case 4:
                call("next", signal(), near(0, 2), time());
                call("previous", signal(), near(0, 2), time());
                break;
            case 5:
                int n = signal();
                int v = model.at(n, time());
                call("first", n, v == Model.BAD ? near(0, 255) : v, time());
                call("holds", n, pick(1, 2, near(1, 20), near(1, 999)), time());
                break;
            case 6:
                int set = near(0, (1 << model.count(0)) - 1);
                call("ticks", set, near(-1, 12));
                break;
            case 7:
                call("delay", signal(), signal());
                break;
            case 8:
                call("jump", time());
                call("block", near(0, model.count(6) - 1), near(0, 4));
                call("frame", near(0, model.count(6) - 1), signal());
                break;
            case 9:
                call("change", near(0, model.count(6) - 1), near(0, 8), near(0, 3));
                break;
            case 10:
                call("packed", near(1, 8));
                call("best");
                break;
            default:
                call("count", near(0, 12));
                call("which");
                call("look");
        }
    }

    private void call(String name, int... with) {
        if (calls == CALLS) {
            return;
        }
        calls++;
        run.append(name).append(Arrays.toString(with)).append(' ');
        Check.due(name + Arrays.toString(with), answer(name, with), due(name, with));
        if (Check.hasFailed()) {
            System.out.println(run);
            run.setLength(0);
        }
    }

    private int answer(String name, int[] w) {
        switch (name) {
            case "type": return waves.type(w[0]);
            case "clear": return waves.clear();
            case "tells": return waves.tells();
            case "node": return waves.node();
            case "about": return waves.about(w[0], w[1]);
            case "scope": return waves.scope(w[0], w[1]);
            case "listed": return waves.listed(w[0], w[1]);
            case "path": return waves.path(w[0], w[1]);
            case "sets": return waves.sets(w[0], w[1]);
            case "passes": return waves.passes(w[0]);
            case "dumps": return waves.dumps(w[0]);
            case "sizes": return waves.sizes(w[0]);
            case "undo": return waves.undo();
            case "at": return waves.at(w[0], w[1]);
            case "edges": return waves.edges(w[0], w[1], w[2], w[3]);
            case "next": return waves.next(w[0], w[1], w[2]);
            case "previous": return waves.previous(w[0], w[1], w[2]);
            case "first": return waves.first(w[0], w[1], w[2]);
            case "holds": return waves.holds(w[0], w[1], w[2]);
            case "ticks": return waves.ticks(w[0], w[1]);
            case "delay": return waves.delay(w[0], w[1]);
            case "jump": return waves.jump(w[0]);
            case "block": return waves.block(w[0], w[1]);
            case "frame": return waves.frame(w[0], w[1]);
            case "change": return waves.change(w[0], w[1], w[2]);
            case "packed": return waves.packed(w[0]);
            case "best": return waves.best();
            case "sees": return waves.sees(w[0], w[1]);
            case "forget": return waves.forget();
            case "which": return waves.which();
            case "look": return waves.look();
            case "keep": return waves.keep(w[0]);
            case "back": return waves.back(w[0]);
            case "count": return waves.count(w[0]);
            default: throw new IllegalArgumentException(name);
        }
    }

    private int due(String name, int[] w) {
        switch (name) {
            case "type": return model.type(w[0]);
            case "clear": return model.clear();
            case "tells": return model.tells();
            case "node": return model.node();
            case "about": return model.about(w[0], w[1]);
            case "scope": return model.scope(w[0], w[1]);
            case "listed": return model.listed(w[0], w[1]);
            case "path": return model.path(w[0], w[1]);
            case "sets": return model.sets(w[0], w[1]);
            case "passes": return model.passes(w[0]);
            case "dumps": return model.dumps(w[0]);
            case "sizes": return model.sizes(w[0]);
            case "undo": return model.undo();
            case "at": return model.at(w[0], w[1]);
            case "edges": return model.edges(w[0], w[1], w[2], w[3]);
            case "next": return model.next(w[0], w[1], w[2]);
            case "previous": return model.previous(w[0], w[1], w[2]);
            case "first": return model.first(w[0], w[1], w[2]);
            case "holds": return model.holds(w[0], w[1], w[2]);
            case "ticks": return model.ticks(w[0], w[1]);
            case "delay": return model.delay(w[0], w[1]);
            case "jump": return model.jump(w[0]);
            case "block": return model.block(w[0], w[1]);
            case "frame": return model.frame(w[0], w[1]);
            case "change": return model.change(w[0], w[1], w[2]);
            case "packed": return model.packed(w[0]);
            case "best": return model.best();
            case "sees": return model.sees(w[0], w[1]);
            case "forget": return model.forget();
            case "which": return model.which();
            case "look": return model.look();
            case "keep": return model.keep(w[0]);
            case "back": return model.back(w[0]);
            case "count": return model.count(w[0]);
            default: throw new IllegalArgumentException(name);
        }
    }
}

import java.util.ArrayDeque;
import java.util.ArrayList;
import java.util.HashSet;
import java.util.List;
import java.util.Set;

/**
 * The document said once more in the plainest way, with lists and texts and without regard to speed, so that the
 * program can be compared with it. It shares no code with the program but the constants.
 */
final class Plain {
    record Step(int what, int a, int b) { }

    record Op(int what, int a, int b) { }

    record Channel(int protocol, int left, int right) { }

    final List<List<Step>> protocols = new ArrayList<>();
    final List<List<Op>> codes = new ArrayList<>();
    final List<Channel> channels = new ArrayList<>();
    Run run = null;
    int made = 0;
    List<Integer> drops = new ArrayList<>();

    Plain() {
        for (int i = 0; i < 3; i++) {
            protocols.add(new ArrayList<>());
            codes.add(new ArrayList<>());
        }
    }

    private static void in(int number, int bound) {
        if (number < 0 || number >= bound) {
            throw new IndexOutOfBoundsException();
        }
    }

    private static void fit(boolean fits) {
        if (!fits) {
            throw new IllegalArgumentException();
        }
    }

    private static void can(boolean can) {
        if (!can) {
            throw new IllegalStateException();
        }
    }

    int step(int protocol, int what, int a, int b) {
        in(protocol, 3);
        fit(what >= 0 && what <= 4);
        if (what <= 1) {
            fit(a >= 0 && a <= 2 && b >= 0 && b <= 7);
        } else if (what <= 3) {
            fit(a >= 0 && a <= 7 && b >= 0 && b <= 7);
        }
        can(protocols.get(protocol).size() < 8);
        can(channels.stream().noneMatch(c -> c.protocol == protocol));
        protocols.get(protocol).add(new Step(what, a, b));
        return protocols.get(protocol).size() - 1;
    }

    int channel(int protocol, int left, int right) {
        in(protocol, 3);
        in(left, 3);
        in(right, 3);
        fit(left != right);
        List<Step> steps = protocols.get(protocol);
        can(channels.size() < 3 && !steps.isEmpty());
        for (Step s : steps) {
            can(s.what == 4 || s.b < steps.size());
            can(s.what != 2 && s.what != 3 || s.a < steps.size());
        }
        channels.add(new Channel(protocol, left, right));
        run = null;
        return channels.size() - 1;
    }

    int op(int process, int what, int a, int b) {
        in(process, 3);
        fit(what >= 0 && what <= 13);
        int[] mostA = {5, 5, 5, 5, 5, 5, 5, 2, 2, 2, 2, -1, -1, -1};
        int[] mostB = {2, 5, -1, -1, -1, 5, 5, 5, 5, 1, 15, 15, 15, -1};
        fit(mostA[what] < 0 || a >= 0 && a <= mostA[what]);
        fit(mostB[what] < 0 || b >= 0 && b <= mostB[what]);
        fit(what != 5 && what != 6 || a != b);
        can(codes.get(process).size() < 16);
        codes.get(process).add(new Op(what, a, b));
        run = null;
        return codes.get(process).size() - 1;
    }

    int unop(int process) {
        in(process, 3);
        can(!codes.get(process).isEmpty());
        codes.get(process).remove(codes.get(process).size() - 1);
        run = null;
        return codes.get(process).size();
    }

    // ---- what is told

    Op opAt(int process, int op) {
        return op < codes.get(process).size() ? codes.get(process).get(op) : new Op(Lineartide.STOP, 0, 0);
    }

    static int used(Op op) {
        return switch (op.what) {
            case Lineartide.MOVE, Lineartide.SHARE, Lineartide.LEND, Lineartide.SEND -> op.b;
            case Lineartide.FREE, Lineartide.READ, Lineartide.WRITE -> op.a;
            default -> -1;
        };
    }

    static int target(Op op) {
        return switch (op.what) {
            case Lineartide.MAKE, Lineartide.MOVE, Lineartide.SHARE, Lineartide.LEND -> op.a;
            case Lineartide.TAKE -> op.b;
            default -> -1;
        };
    }

    static boolean talks(Op op) {
        return op.what >= Lineartide.SEND && op.what <= Lineartide.WAIT;
    }

    List<Integer> nexts(int process, int op) {
        Op o = opAt(process, op);
        int n = codes.get(process).size();
        List<Integer> all = new ArrayList<>();
        if (o.what == Lineartide.STOP) {
            return all;
        }
        if (o.what != Lineartide.JUMP) {
            all.add(op + 1);
        }
        if (o.what == Lineartide.JUMP || o.what == Lineartide.MAYBE || o.what == Lineartide.WAIT) {
            all.add(Math.min(o.b, n));
        }
        return all;
    }

    /** What the step of a channel asks of a process: GIVES to ENDS; -1 if the channel is none of it. */
    int asks(int process, int channel, int step) {
        if (channel >= channels.size() || step < 0) {
            return -1;
        }
        Channel c = channels.get(channel);
        int what = protocols.get(c.protocol).get(step).what;
        int[] other = {1, 0, 3, 2, 4};
        return c.left == process ? what : c.right == process ? other[what] : -1;
    }

    boolean fitsStep(int process, Op op, int step) {
        int[] wants = {Lineartide.GIVES, Lineartide.GETS, Lineartide.PICKS, Lineartide.OFFERS};
        return asks(process, op.a, step) == wants[op.what - Lineartide.SEND];
    }

    int next(int channel, int step, int way) {
        Step s = protocols.get(channels.get(channel).protocol).get(step);
        return s.what <= 1 ? s.b : way == 0 ? s.a : s.b;
    }

    int kind(int channel, int step) {
        return protocols.get(channels.get(channel).protocol).get(step).a;
    }

    boolean has(int process, int channel) {
        return channel < channels.size() && (channels.get(channel).left == process || channels.get(channel).right == process);
    }

    // ---- what is found

    record Ahead(List<Integer> names, List<Integer> steps) { }

    /** What is ahead of each op; null where no way comes. Begun anew each time until nothing changes. */
    List<Ahead> flow(int process) {
        int n = codes.get(process).size();
        List<Ahead> now = new ArrayList<>();
        for (int i = 0; i <= n; i++) {
            now.add(null);
        }
        while (true) {
            List<Ahead> then = new ArrayList<>();
            for (int i = 0; i <= n; i++) {
                then.add(null);
            }
            List<Integer> steps = new ArrayList<>();
            for (int c = 0; c < 3; c++) {
                steps.add(has(process, c) ? 0 : -1);
            }
            then.set(0, new Ahead(List.of(0, 0, 0, 0, 0, 0), steps));
            for (int i = 0; i < n; i++) {
                if (now.get(i) == null) {
                    continue;
                }
                List<Integer> nexts = nexts(process, i);
                for (int k = 0; k < nexts.size(); k++) {
                    Op o = opAt(process, i);
                    int way = o.what == Lineartide.WAIT ? k : o.b;
                    Ahead out = behind(process, o, now.get(i), way);
                    int to = nexts.get(k);
                    then.set(to, then.get(to) == null ? out : join(then.get(to), out));
                }
            }
            if (then.equals(now)) {
                return now;
            }
            now = then;
        }
    }

    static Ahead join(Ahead x, Ahead y) {
        List<Integer> names = new ArrayList<>();
        List<Integer> steps = new ArrayList<>();
        for (int i = 0; i < 6; i++) {
            names.add(join(x.names.get(i), y.names.get(i)));
        }
        for (int i = 0; i < 3; i++) {
            steps.add(x.steps.get(i).equals(y.steps.get(i)) ? x.steps.get(i) : Integer.valueOf(-2));
        }
        return new Ahead(names, steps);
    }

    static int join(int x, int y) {
        Set<Integer> both = Set.copyOf(List.of(x, y));
        if (both.size() == 1) {
            return x;
        }
        if (both.contains(3) || both.contains(5)) {
            return 5;
        }
        boolean mild = both.stream().allMatch(s -> s == 0 || s == 1 || s >= 10);
        return mild ? 0 : 4;
    }

    Ahead behind(int process, Op o, Ahead in, int way) {
        List<Integer> names = new ArrayList<>(in.names);
        List<Integer> steps = new ArrayList<>(in.steps);
        int used = used(o);
        int target = target(o);
        int is = used < 0 ? -1 : in.names.get(used);
        boolean leaves = is == 2 || is == 3 || is == 4 || is == 5 || is >= 20;
        int step = talks(o) ? in.steps.get(o.a) : -1;
        boolean fits = talks(o) && fitsStep(process, o, step);
        switch (o.what) {
            case Lineartide.MAKE -> names.set(target, o.b + 1);
            case Lineartide.MOVE -> {
                if (target != used) {
                    names.set(target, is);
                    if (leaves) {
                        names.set(used, 0);
                    }
                }
            }
            case Lineartide.FREE -> names.set(used, 0);
            case Lineartide.SHARE -> names.set(target, is >= 10 && is < 20 ? is : is >= 1 && is <= 3 ? 10 + used : 0);
            case Lineartide.LEND -> names.set(target, is >= 1 && is <= 3 ? 20 + used : 0);
            case Lineartide.SEND -> {
                if (leaves) {
                    names.set(used, 0);
                }
            }
            case Lineartide.TAKE -> names.set(target, step == -2 ? 5 : fits ? kind(o.a, step) + 1 : 1);
            default -> { }
        }
        if (fits) {
            steps.set(o.a, next(o.a, step, way));
        }
        return new Ahead(names, steps);
    }

    /** Whether there is a way from an op on which a variable is used ahead of being a target. */
    boolean lives(int process, int op, int name) {
        Set<Integer> seen = new HashSet<>();
        ArrayDeque<Integer> open = new ArrayDeque<>(List.of(op));
        while (!open.isEmpty()) {
            int i = open.pop();
            Op o = opAt(process, i);
            if (!seen.add(i)) {
                continue;
            }
            if (used(o) == name) {
                return true;
            }
            if (target(o) != name) {
                open.addAll(nexts(process, i));
            }
        }
        return false;
    }

    boolean livesBehind(int process, int op, int name) {
        return nexts(process, op).stream().anyMatch(i -> lives(process, i, name));
    }

    /** The op, its error and the variable in the way; null without an error. */
    int[] first(int process) {
        List<Ahead> flow = flow(process);
        for (int i = 0; i < flow.size(); i++) {
            int error = flow.get(i) == null ? 0 : errorOf(process, i, flow.get(i));
            if (error != 0) {
                return new int[] {i, error, borrower(process, i, flow.get(i))};
            }
        }
        return null;
    }

    int errorOf(int process, int op, Ahead in) {
        Op o = opAt(process, op);
        if (in.names.contains(5) || in.steps.contains(-2)) {
            return Lineartide.UNLIKE;
        }
        if (o.what == Lineartide.STOP) {
            if (in.names.contains(3)) {
                return Lineartide.KEPT;
            }
            for (int c = 0; c < 3; c++) {
                if (has(process, c) && asks(process, c, in.steps.get(c)) != Lineartide.ENDS) {
                    return Lineartide.OPEN;
                }
            }
            return 0;
        }
        int used = used(o);
        int target = target(o);
        int is = used < 0 ? 99 : in.names.get(used);
        if (is == 0 || is == 4) {
            return Lineartide.EMPTY;
        }
        boolean shared = used >= 0 && is >= 10 && is < 20;
        boolean lent = used >= 0 && is >= 20;
        int step = talks(o) ? in.steps.get(o.a) : -1;
        if (wrongWay(o, shared, lent) || o.what == Lineartide.SEND && fitsStep(process, o, step) && is != kind(o.a, step) + 1) {
            return Lineartide.KIND;
        }
        if (target >= 0 && target != used && in.names.get(target) == 3) {
            return Lineartide.FULL;
        }
        if (borrower(process, op, in) >= 0) {
            return Lineartide.BORROWED;
        }
        return talks(o) && !fitsStep(process, o, step) ? Lineartide.SESSION : 0;
    }

    static boolean wrongWay(Op o, boolean shared, boolean lent) {
        return switch (o.what) {
            case Lineartide.FREE, Lineartide.LEND, Lineartide.SEND -> shared || lent;
            case Lineartide.WRITE -> shared;
            case Lineartide.SHARE -> lent;
            default -> false;
        };
    }

    int borrower(int process, int op, Ahead in) {
        Op o = opAt(process, op);
        int used = used(o);
        int target = target(o);
        for (int v = 0; v < 6; v++) {
            boolean inTheWay = target >= 0 && target != used && in.names.get(target) != 0;
            boolean counts = (livesBehind(process, op, v) || v == used) && v != target;
            if (inTheWay && counts && (in.names.get(v) == 10 + target || in.names.get(v) == 20 + target)) {
                return v;
            }
        }
        for (int v = 0; v < 6; v++) {
            if (used < 0 || in.names.get(used) >= 10 || v == target || !livesBehind(process, op, v)) {
                continue;
            }
            boolean copies = (o.what == Lineartide.MOVE || o.what == Lineartide.SEND) && in.names.get(used) == 1;
            boolean lentOnly = o.what == Lineartide.READ || o.what == Lineartide.SHARE || copies;
            if (in.names.get(v) == 20 + used || !lentOnly && in.names.get(v) == 10 + used) {
                return v;
            }
        }
        return -1;
    }

    int check(int process) {
        in(process, 3);
        int[] first = first(process);
        return first == null ? -1 : first[0];
    }

    int error(int process) {
        in(process, 3);
        int[] first = first(process);
        return first == null ? 0 : first[1];
    }

    int borrower(int process) {
        in(process, 3);
        int[] first = first(process);
        can(first != null && first[1] == Lineartide.BORROWED);
        return first[2];
    }

    int holds(int process, int op, int name) {
        in(process, 3);
        in(op, codes.get(process).size() + 1);
        in(name, 6);
        Ahead in = flow(process).get(op);
        return in == null ? -1 : in.names.get(name);
    }

    int at(int process, int op, int channel) {
        in(process, 3);
        in(op, codes.get(process).size() + 1);
        in(channel, channels.size());
        Ahead in = flow(process).get(op);
        return in == null ? -1 : in.steps.get(channel);
    }

    int lives(int process, int op) {
        in(process, 3);
        in(op, codes.get(process).size() + 1);
        int set = 0;
        for (int v = 0; v < 6; v++) {
            set += lives(process, op, v) ? 1 << v : 0;
        }
        return set;
    }

    // ---- being stuck

    /** Places, ends and queues; the steps of the channels go along, but do not tell layouts apart. */
    static final class Layout {
        int[] place = new int[3];
        boolean[] ended = new boolean[3];
        int[][] steps = new int[3][3];
        List<List<String>> queues = new ArrayList<>();

        Layout() {
            for (int i = 0; i < 9; i++) {
                queues.add(new ArrayList<>());
            }
        }

        Layout copy() {
            Layout l = new Layout();
            l.place = place.clone();
            l.ended = ended.clone();
            for (int i = 0; i < 3; i++) {
                l.steps[i] = steps[i].clone();
            }
            for (int i = 0; i < 9; i++) {
                l.queues.get(i).addAll(queues.get(i));
            }
            return l;
        }

        String name() {
            return java.util.Arrays.toString(place) + java.util.Arrays.toString(ended) + queues;
        }
    }

    /** How many layouts were come to by the latest question; at most 1001. */
    int layouts = 0;

    int stuck() {
        for (int p = 0; p < 3; p++) {
            can(first(p) == null);
        }
        Set<String> seen = new HashSet<>();
        ArrayDeque<Layout> open = new ArrayDeque<>();
        open.add(new Layout());
        seen.add(new Layout().name());
        boolean stuck = false;
        while (!open.isEmpty() && seen.size() <= 1000) {
            Layout l = open.pop();
            List<Layout> nexts = new ArrayList<>();
            for (int p = 0; p < 3; p++) {
                nexts.addAll(moves(l, p));
            }
            stuck |= nexts.isEmpty() && !(l.ended[0] && l.ended[1] && l.ended[2]);
            for (Layout next : nexts) {
                if (seen.add(next.name())) {
                    open.add(next);
                }
            }
        }
        layouts = seen.size();
        return seen.size() > 1000 ? -1 : stuck ? 1 : 0;
    }

    int other(int process, int channel) {
        Channel c = channels.get(channel);
        return c.left == process ? c.right : c.left;
    }

    List<Layout> moves(Layout l, int p) {
        List<Layout> all = new ArrayList<>();
        if (l.ended[p]) {
            return all;
        }
        Op o = opAt(p, l.place[p]);
        if (o.what == Lineartide.STOP) {
            Layout next = l.copy();
            next.ended[p] = true;
            all.add(next);
            return all;
        }
        if (!talks(o)) {
            for (int to : nexts(p, l.place[p])) {
                Layout next = l.copy();
                next.place[p] = to;
                all.add(next);
            }
            return all;
        }
        Layout next = l.copy();
        int way = o.b;
        boolean puts = o.what == Lineartide.SEND || o.what == Lineartide.PICK;
        List<String> queue = next.queues.get(3 * o.a + (puts ? other(p, o.a) : p));
        if (puts && queue.size() == 2 || !puts && queue.isEmpty()) {
            return all;
        }
        if (puts) {
            queue.add(o.what == Lineartide.PICK ? "way" + way : "kind" + kind(o.a, l.steps[p][o.a]));
        } else {
            String came = queue.remove(0);
            way = came.equals("way1") ? 1 : 0;
        }
        List<Integer> to = nexts(p, l.place[p]);
        next.place[p] = o.what == Lineartide.WAIT ? to.get(way) : to.get(0);
        next.steps[p][o.a] = next(o.a, l.steps[p][o.a], way);
        all.add(next);
        return all;
    }

    // ---- runs

    enum How { OWNS, SHARES, LENT }

    enum Use { READ, CHANGED, MOVED, COPIED, SENT, SHARED, LENT }

    record Event(int time, Use use, int process, int name) { }

    static final class Value {
        final int number;
        final int kind;
        boolean gone;
        final List<Event> events = new ArrayList<>();

        Value(int number, int kind) {
            this.number = number;
            this.kind = kind;
        }
    }

    record Held(How how, Value value, int since) { }

    /** A value or, if that is null, a way. */
    record Message(Value value, int way) { }

    static final class Run {
        final int[] life = new int[3];
        final int[] fault = new int[3];
        final int[] place = new int[3];
        final int[][] steps = new int[3][3];
        final Held[][] held = new Held[3][6];
        final List<List<Message>> queues = new ArrayList<>();
        int time = 0;

        Run() {
            for (int i = 0; i < 9; i++) {
                queues.add(new ArrayList<>());
            }
        }
    }

    void begin() {
        run = new Run();
        made = 0;
        drops = new ArrayList<>();
    }

    private Value newValue(int kind) {
        return new Value(made++, kind);
    }

    private void drop(Value value) {
        value.gone = true;
        if (drops.size() < 200) {
            drops.add(value.number);
        }
    }

    private boolean lapsed(int p, int name) {
        Held h = run.held[p][name];
        if (h.value.gone) {
            return true;
        }
        for (Event e : h.value.events) {
            boolean other = e.process != p || e.name != name;
            boolean breaks = e.use == Use.CHANGED || e.use == Use.MOVED || e.use == Use.SENT || e.use == Use.LENT;
            if (e.time > h.since && (h.how == How.LENT ? other : breaks)) {
                return true;
            }
        }
        return false;
    }

    boolean waits(int p) {
        Op o = opAt(p, run.place[p]);
        if (!talks(o) || !fitsStep(p, o, run.steps[p][o.a]) || run.life[other(p, o.a)] == Lineartide.DEAD) {
            return false;
        }
        boolean puts = o.what == Lineartide.SEND || o.what == Lineartide.PICK;
        return puts ? run.queues.get(3 * o.a + other(p, o.a)).size() == 2 : run.queues.get(3 * o.a + p).isEmpty();
    }

    boolean go(int process, boolean coin) {
        in(process, 3);
        can(run != null && run.life[process] == Lineartide.RUNNING);
        if (waits(process)) {
            return false;
        }
        run.time++;
        Op o = opAt(process, run.place[process]);
        int fault = breaks(process, o);
        if (fault != 0) {
            run.life[process] = Lineartide.DEAD;
            run.fault[process] = fault;
            dropOwned(process, false);
            dropWaiting(process);
        } else if (o.what == Lineartide.STOP) {
            run.life[process] = Lineartide.DONE;
            dropOwned(process, true);
        } else {
            act(process, o, coin);
        }
        return true;
    }

    private int breaks(int p, Op o) {
        if (o.what == Lineartide.STOP) {
            for (Held h : run.held[p]) {
                if (h != null && h.how == How.OWNS && h.value.kind == Lineartide.LINEAR) {
                    return Lineartide.KEPT;
                }
            }
            for (int c = 0; c < 3; c++) {
                if (has(p, c) && asks(p, c, run.steps[p][c]) != Lineartide.ENDS) {
                    return Lineartide.OPEN;
                }
            }
            return 0;
        }
        int used = used(o);
        int target = target(o);
        Held u = used < 0 ? null : run.held[p][used];
        if (used >= 0 && u == null) {
            return Lineartide.EMPTY;
        }
        boolean fits = talks(o) && fitsStep(p, o, run.steps[p][o.a]);
        if (u != null && wrongWay(o, u.how == How.SHARES, u.how == How.LENT)) {
            return Lineartide.KIND;
        }
        if (o.what == Lineartide.SEND && fits && u.value.kind != kind(o.a, run.steps[p][o.a])) {
            return Lineartide.KIND;
        }
        if (u != null && u.how != How.OWNS && lapsed(p, used)) {
            return Lineartide.BORROWED;
        }
        Held t = target < 0 ? null : run.held[p][target];
        if (t != null && target != used && t.how == How.OWNS && t.value.kind == Lineartide.LINEAR) {
            return Lineartide.FULL;
        }
        if (talks(o) && !fits) {
            return Lineartide.SESSION;
        }
        if (o.what == Lineartide.TAKE || o.what == Lineartide.WAIT) {
            List<Message> queue = run.queues.get(3 * o.a + p);
            if (queue.isEmpty()) {
                return Lineartide.CANCELLED;
            }
            Value v = queue.get(0).value;
            boolean right = o.what == Lineartide.TAKE ? v != null && v.kind == kind(o.a, run.steps[p][o.a]) : v == null;
            return right ? 0 : Lineartide.SESSION;
        }
        return 0;
    }

    private void note(Value value, Use use, int p, int name) {
        value.events.add(new Event(run.time, use, p, name));
    }

    private void goes(int p, int name) {
        Held h = run.held[p][name];
        if (h != null && h.how == How.OWNS) {
            h.value.gone = true;
            if (h.value.kind == Lineartide.AFFINE) {
                drop(h.value);
            }
        }
        run.held[p][name] = null;
    }

    private void act(int p, Op o, boolean coin) {
        int used = used(o);
        int target = target(o);
        Held u = used < 0 ? null : run.held[p][used];
        int way = o.what == Lineartide.MAYBE && coin ? 1 : 0;
        switch (o.what) {
            case Lineartide.MAKE -> {
                goes(p, target);
                run.held[p][target] = new Held(How.OWNS, newValue(o.b), run.time);
            }
            case Lineartide.MOVE -> {
                if (target != used) {
                    move(p, target, used, u);
                }
            }
            case Lineartide.FREE -> {
                drop(u.value);
                run.held[p][used] = null;
            }
            case Lineartide.READ -> note(u.value, Use.READ, p, used);
            case Lineartide.WRITE -> note(u.value, Use.CHANGED, p, used);
            case Lineartide.SHARE -> {
                goes(p, target);
                if (u.how == How.OWNS) {
                    note(u.value, Use.SHARED, p, used);
                }
                run.held[p][target] = new Held(How.SHARES, u.value, run.time);
            }
            case Lineartide.LEND -> {
                goes(p, target);
                note(u.value, Use.LENT, p, used);
                run.held[p][target] = new Held(How.LENT, u.value, run.time);
            }
            case Lineartide.SEND -> {
                boolean many = u.value.kind == Lineartide.MANY;
                note(u.value, many ? Use.COPIED : Use.SENT, p, used);
                Value sent = many ? newValue(Lineartide.MANY) : u.value;
                if (!many) {
                    run.held[p][used] = null;
                }
                put(p, o.a, new Message(sent, -1));
            }
            case Lineartide.PICK -> put(p, o.a, new Message(null, o.b));
            case Lineartide.TAKE, Lineartide.WAIT -> {
                Message m = run.queues.get(3 * o.a + p).remove(0);
                if (o.what == Lineartide.TAKE) {
                    goes(p, target);
                    run.held[p][target] = new Held(How.OWNS, m.value, run.time);
                } else {
                    way = m.way;
                }
            }
            default -> { }
        }
        if (talks(o)) {
            run.steps[p][o.a] = next(o.a, run.steps[p][o.a], o.what == Lineartide.PICK ? o.b : way);
        }
        run.place[p] = nexts(p, run.place[p]).get(way);
    }

    private void move(int p, int target, int used, Held u) {
        goes(p, target);
        if (u.how == How.OWNS && u.value.kind == Lineartide.MANY) {
            note(u.value, Use.COPIED, p, used);
            run.held[p][target] = new Held(How.OWNS, newValue(Lineartide.MANY), run.time);
        } else if (u.how == How.OWNS) {
            note(u.value, Use.MOVED, p, used);
            run.held[p][target] = new Held(How.OWNS, u.value, run.time);
            run.held[p][used] = null;
        } else if (u.how == How.SHARES) {
            run.held[p][target] = u;
        } else {
            // the loan held until now (that was asked), so it may begin anew with the other variable
            run.held[p][target] = new Held(How.LENT, u.value, run.time);
            run.held[p][used] = null;
        }
    }

    private void put(int p, int channel, Message m) {
        int other = other(p, channel);
        if (run.life[other] != Lineartide.DEAD) {
            run.queues.get(3 * channel + other).add(m);
        } else if (m.value != null) {
            drop(m.value);
        }
    }

    private void dropOwned(int p, boolean affineOnly) {
        List<Integer> names = new ArrayList<>();
        for (int v = 0; v < 6; v++) {
            Held h = run.held[p][v];
            if (h != null && h.how == How.OWNS && (!affineOnly || h.value.kind == Lineartide.AFFINE)) {
                names.add(v);
            }
        }
        names.sort((x, y) -> run.held[p][y].since - run.held[p][x].since);
        for (int v : names) {
            drop(run.held[p][v].value);
            run.held[p][v] = null;
        }
    }

    private void dropWaiting(int p) {
        for (int c = 0; c < 3; c++) {
            for (Message m : run.queues.get(3 * c + p)) {
                if (m.value != null) {
                    drop(m.value);
                }
            }
            run.queues.get(3 * c + p).clear();
        }
    }

    int run(int seed, int steps) {
        fit(steps >= 1 && steps <= 200);
        can(run != null);
        int state = seed;
        int done = 0;
        while (done < steps) {
            List<Integer> ready = new ArrayList<>();
            for (int p = 0; p < 3; p++) {
                if (run.life[p] == Lineartide.RUNNING && !waits(p)) {
                    ready.add(p);
                }
            }
            if (ready.isEmpty()) {
                break;
            }
            state = state * 1103515245 + 12345;
            go(ready.get((state >>> 16) % ready.size()), state < 0);
            done++;
        }
        return done;
    }

    int state(int process) {
        in(process, 3);
        can(run != null);
        return run.life[process];
    }

    int fault(int process) {
        in(process, 3);
        can(run != null);
        return run.fault[process];
    }

    int place(int process) {
        in(process, 3);
        can(run != null);
        return run.place[process];
    }

    int value(int process, int name) {
        in(process, 3);
        in(name, 6);
        can(run != null);
        Held h = run.held[process][name];
        return h == null ? -1 : h.value.number;
    }

    int waiting(int process, int channel) {
        in(process, 3);
        in(channel, 3);
        can(run != null);
        return run.queues.get(3 * channel + process).size();
    }

    int made() {
        return made;
    }

    int drops() {
        return drops.size();
    }

    int dropped(int place) {
        in(place, drops.size());
        return drops.get(place);
    }
}

import java.util.ArrayList;
import java.util.List;
import java.util.function.Supplier;

/**
 * The boundary cases of what is told: "What it is", "Terms" up to the processes, and the promises 1 to 5. Each test
 * says by its first line for which words of the document it stands.
 */
final class TellingEdges implements Words {
    private static final Edges EDGES = new Edges();
    private static final int LOW = Integer.MIN_VALUE, HIGH = Integer.MAX_VALUE;

    // ---- What it is

    private static void lastOf512Calls() {
        EDGES.says("What it is", "An object is used for at most 512 calls after it has been made; what later calls answer is free.");
        Lineartide x = new Lineartide();
        x.op(0, JUMP, 0, 0);
        x.begin();
        for (int call = 3; call < 512; call++) {
            EDGES.due("go as the call " + call, true, x.go(0, false));
        }
        EDGES.due("state as the call 512", RUNNING, x.state(0));
        Lineartide y = new Lineartide();
        for (int call = 1; call < 512; call++) {
            EDGES.argument("a refused op as the call " + call, () -> y.op(0, MAKE, 6, 0));
        }
        EDGES.due("op as the call 512", 0, y.op(0, MAKE, 0, 0));
        Lineartide z = new Lineartide();
        for (int call = 1; call < 511; call += 2) {
            EDGES.due("op as the call " + call, 0, z.op(2, MAKE, 5, LINEAR));
            EDGES.due("unop as the call " + (call + 1), 0, z.unop(2));
        }
        z.op(2, READ, 5, 0);
        EDGES.due("error as the call 512", EMPTY, z.error(2));
    }

    // ---- The public face

    private static void constants() {
        EDGES.says("Runs", "`NONE = -1`: None.");
        EDGES.due("NONE", -1, NONE);
        EDGES.says("Runs", "`MANY = 0, AFFINE = 1, LINEAR = 2`: Kinds of values.");
        number(0, MANY, AFFINE, LINEAR);
        EDGES.says("Runs", "`GIVES = 0, GETS = 1, PICKS = 2, OFFERS = 3, ENDS = 4`: Steps.");
        number(0, GIVES, GETS, PICKS, OFFERS, ENDS);
        EDGES.says("Runs", "`MAKE = 0, MOVE = 1, FREE = 2, READ = 3, WRITE = 4, SHARE = 5, LEND = 6, SEND = 7, TAKE = 8, PICK = 9, WAIT = 10, MAYBE = 11, JUMP = 12, STOP = 13`: Ops.");
        number(0, MAKE, MOVE, FREE, READ, WRITE, SHARE, LEND, SEND, TAKE, PICK, WAIT, MAYBE, JUMP, STOP);
        EDGES.says("Runs", "`UNLIKE = 1, EMPTY = 2, KIND = 3, FULL = 4, BORROWED = 5, SESSION = 6, KEPT = 7, OPEN = 8, CANCELLED = 9`: Errors and faults.");
        number(1, UNLIKE, EMPTY, KIND, FULL, BORROWED, SESSION, KEPT, OPEN, CANCELLED);
        EDGES.says("Runs", "`RUNNING = 0, DONE = 1, DEAD = 2`: What processes are in a run.");
        number(0, RUNNING, DONE, DEAD);
    }

    private static void number(int first, int... all) {
        for (int i = 0; i < all.length; i++) {
            EDGES.due("constant " + i, first + i, all[i]);
        }
    }

    // ---- Terms

    private interface Told {
        long by(Lineartide x);
    }

    private static Lineartide told() {
        Lineartide x = Edges.steps(GIVES, MANY, 1, PICKS, 0, 2, ENDS, 0, 0);
        Edges.tell(x, 1, GETS, AFFINE, 0, OFFERS, 7, 0);
        Edges.add(x, 0, MAKE, 0, MANY, SEND, 0, 0, PICK, 0, 1);
        Edges.add(x, 1, TAKE, 0, 0, WAIT, 0, 2);
        return Edges.add(x, 2, MAKE, 0, AFFINE, SHARE, 1, 0, WRITE, 0, 0, READ, 1, 0);
    }

    private static Lineartide runs() {
        Lineartide x = Edges.steps(GIVES, AFFINE, 1, GIVES, MANY, 1, ENDS, 0, 0, ENDS, 0, 0, ENDS, 0, 0, ENDS, 0, 0, ENDS, 0, 0, ENDS, 0, 0);
        x.channel(0, 2, 1);
        x.channel(0, 1, 0);
        Edges.add(x, 0, MAKE, 0, AFFINE, MAKE, 1, MANY, SEND, 0, 0, SEND, 0, 1, LEND, 2, 1, FREE, 5, 0);
        Edges.add(x, 1, MAKE, 0, AFFINE, TAKE, 0, 0, SHARE, 1, 0, READ, 1, 0, READ, 1, 0, READ, 1, 0, READ, 1, 0, READ, 1, 0,
            READ, 1, 0, READ, 1, 0, READ, 1, 0, READ, 1, 0, READ, 1, 0, READ, 1, 0, READ, 1, 0, READ, 1, 0);
        x.begin();
        for (int i = 0; i < 5; i++) {
            x.go(0, false);
        }
        for (int i = 0; i < 4; i++) {
            x.go(1, false);
        }
        x.go(2, false);
        return x;
    }

    /** Calls of which some are refused by each of the objects above. */
    private static List<Told> calls() {
        List<Told> all = new ArrayList<>();
        for (int p : new int[] {-1, 0, 1, 2, 3}) {
            all.add(x -> x.step(p, ENDS, 0, 0));
            all.add(x -> x.step(p, GIVES, 3, 0));
            all.add(x -> x.step(p, OFFERS, 8, 0));
            all.add(x -> x.step(p, 5, 0, 0));
            all.add(x -> x.channel(p, 0, 1));
            all.add(x -> x.channel(p, 1, 1));
            all.add(x -> x.channel(0, p, 3));
            all.add(x -> x.channel(0, 2, p));
            all.add(x -> x.op(p, STOP, 0, 0));
            all.add(x -> x.op(p, MAKE, 0, 3));
            all.add(x -> x.op(p, LEND, 2, 2));
            all.add(x -> x.op(p, 14, 0, 0));
            all.add(x -> x.unop(p));
            all.add(x -> x.check(p));
            all.add(x -> x.error(p));
            all.add(x -> x.borrower(p));
            all.add(x -> x.holds(p, 17, 0));
            all.add(x -> x.holds(p, 0, 6));
            all.add(x -> x.at(p, 0, 3));
            all.add(x -> x.at(p, -1, 0));
            all.add(x -> x.lives(p, 17));
            all.add(x -> x.go(p, true) ? 1 : 0);
            all.add(x -> x.state(p));
            all.add(x -> x.fault(p));
            all.add(x -> x.place(p));
            all.add(x -> x.value(p, 6));
            all.add(x -> x.value(p, 0));
            all.add(x -> x.waiting(p, 3));
            all.add(x -> x.waiting(p, 0));
        }
        for (int steps : new int[] {0, 1, 201}) {
            all.add(x -> x.run(1, steps));
        }
        all.add(x -> x.stuck());
        all.add(x -> x.dropped(-1));
        all.add(x -> x.dropped(x.drops()));
        return all;
    }

    private static boolean isRefused(Lineartide x, Told call) {
        try {
            call.by(x);
            return false;
        } catch (RuntimeException e) {
            return true;
        }
    }

    private static Lineartide behind(Lineartide x, Told call) {
        isRefused(x, call);
        return x;
    }

    /** What it is asked of later on shows that nothing was changed that can't be asked of at once. */
    private static Lineartide later(Lineartide x) {
        isRefused(x, y -> y.go(0, true) ? 1 : 0);
        isRefused(x, y -> y.run(5, 3));
        for (int p = 0; p < 3; p++) {
            int q = p;
            isRefused(x, y -> y.step(q, ENDS, 0, 0));
            isRefused(x, y -> y.channel(q, 0, 2));
        }
        isRefused(x, y -> y.op(0, MAKE, 3, LINEAR));
        isRefused(x, y -> y.op(1, TAKE, 0, 5));
        x.begin();
        x.run(77, 10);
        return x;
    }

    private static void refusedCalls() {
        EDGES.says("Terms", "A call that throws an exception changes nothing.");
        int[] least = {100, 90, 90};
        for (int i = 0; i < 3; i++) {
            int which = i;
            Supplier<Lineartide> object = () -> which == 0 ? new Lineartide() : which == 1 ? told() : runs();
            String now = Edges.answers(object);
            String later = Edges.answers(() -> later(object.get()));
            int refused = 0;
            List<Told> calls = calls();
            for (int k = 0; k < calls.size(); k++) {
                Told call = calls.get(k);
                if (isRefused(object.get(), call)) {
                    refused++;
                    EDGES.same("object " + i + ", call " + k, now, Edges.answers(() -> behind(object.get(), call)));
                    EDGES.same("object " + i + ", call " + k + ", later", later, Edges.answers(() -> later(behind(object.get(), call))));
                }
            }
            EDGES.due("so many calls are refused by object " + i, true, refused >= least[i] && refused < calls.size());
        }
    }

    private static void noSuchThing() {
        EDGES.says("Terms", "IndexOutOfBoundsException: there is no such protocol, process, channel, op, name or place.");
        for (int none : Edges.beside(3)) {
            Lineartide x = told();
            EDGES.bounds("step of protocol " + none, () -> x.step(none, ENDS, 0, 0));
            EDGES.bounds("channel of protocol " + none, () -> x.channel(none, 0, 1));
            EDGES.bounds("channel of left process " + none, () -> x.channel(0, none, 1));
            EDGES.bounds("channel of right process " + none, () -> x.channel(0, 0, none));
            for (Told call : ofProcess(none)) {
                EDGES.bounds("process " + none, () -> call.by(x));
            }
            x.begin();
            for (Told call : ofProcess(none)) {
                EDGES.bounds("process " + none + " in a run", () -> call.by(x));
            }
            EDGES.bounds("waiting at channel " + none, () -> x.waiting(0, none));
        }
        for (int none : Edges.beside(1)) {
            Lineartide x = told();
            EDGES.bounds("at of channel " + none + " where one is", () -> x.at(0, 0, none));
        }
        for (int none : Edges.beside(6)) {
            Lineartide x = told();
            EDGES.bounds("holds of name " + none, () -> x.holds(0, 0, none));
            x.begin();
            EDGES.bounds("value of name " + none, () -> x.value(0, none));
        }
        for (int none : Edges.beside(5)) {
            Lineartide x = told();
            EDGES.bounds("holds of op " + none + " where 4 are", () -> x.holds(2, none, 0));
            EDGES.bounds("at of op " + none + " where 4 are", () -> x.at(2, none, 0));
            EDGES.bounds("lives of op " + none + " where 4 are", () -> x.lives(2, none));
        }
        Lineartide y = runs();
        y.go(0, false);
        for (int none : Edges.beside(y.drops())) {
            EDGES.bounds("dropped at place " + none + " of " + y.drops(), () -> y.dropped(none));
        }
    }

    private static List<Told> ofProcess(int p) {
        return List.of(x -> x.op(p, STOP, 0, 0), x -> x.unop(p), x -> x.check(p), x -> x.error(p), x -> x.borrower(p),
            x -> x.holds(p, 0, 0), x -> x.at(p, 0, 0), x -> x.lives(p, 0), x -> x.go(p, false) ? 1 : 0, x -> x.state(p),
            x -> x.fault(p), x -> x.place(p), x -> x.value(p, 0), x -> x.waiting(p, 0));
    }

    private static void outOfRange() {
        EDGES.says("Terms", "IllegalArgumentException: another argument is out of its range.");
        Lineartide x = told();
        for (int wrong : Edges.beside(5)) {
            EDGES.argument("step " + wrong, () -> x.step(2, wrong, 0, 0));
        }
        for (int wrong : Edges.beside(14)) {
            EDGES.argument("op " + wrong, () -> x.op(0, wrong, 0, 0));
        }
        x.begin();
        for (int wrong : new int[] {0, -1, 201, 202, 256, 65536, LOW, LOW + 1, HIGH}) {
            EDGES.argument("run of " + wrong, () -> x.run(0, wrong));
        }
    }

    private static void whatStateRefuses() {
        EDGES.says("Terms", "IllegalStateException: as the method says.");
        Lineartide x = new Lineartide();
        EDGES.state("unop of none", () -> x.unop(0));
        EDGES.state("channel without steps", () -> x.channel(0, 0, 1));
        EDGES.state("borrower without an error", () -> x.borrower(0));
        EDGES.state("go without a run", () -> x.go(0, false) ? 1 : 0);
        EDGES.state("run without a run", () -> x.run(0, 1));
    }

    private static void theFirstOfSeveral() {
        EDGES.says("Terms", "If several apply, the one that the throws clause names first is thrown.");
        Lineartide x = runs();
        EDGES.bounds("step: protocol, what and full", () -> x.step(3, 5, 0, 0));
        EDGES.bounds("step: protocol, a and full", () -> x.step(-1, GIVES, 3, 0));
        EDGES.argument("step: a and full", () -> x.step(0, GIVES, 3, 0));
        EDGES.argument("step: what and full", () -> x.step(0, 5, 0, 0));
        EDGES.argument("step: b and a channel", () -> told().step(0, GIVES, 0, 8));
        EDGES.bounds("channel: process, same and 3 channels", () -> x.channel(0, 3, 3));
        EDGES.bounds("channel: protocol, same and 3 channels", () -> x.channel(3, 0, 0));
        EDGES.argument("channel: same and 3 channels", () -> x.channel(0, 0, 0));
        EDGES.argument("channel: same and no steps", () -> told().channel(2, 1, 1));
        EDGES.argument("channel: same and a step that is missing", () -> told().channel(1, 1, 1));
        EDGES.bounds("channel: right process, and no steps", () -> told().channel(2, 0, 3));
        EDGES.bounds("op: process, what and full", () -> x.op(3, 14, 0, 0));
        EDGES.argument("op: a and full", () -> x.op(1, MAKE, 6, 0));
        EDGES.argument("op: what and full", () -> x.op(1, -1, 0, 0));
        EDGES.argument("op: the same variable and full", () -> x.op(1, SHARE, 1, 1));
        EDGES.bounds("unop: process", () -> new Lineartide().unop(3));
        EDGES.bounds("borrower: process", () -> new Lineartide().borrower(3));
        EDGES.bounds("go: process and no run", () -> new Lineartide().go(3, true) ? 1 : 0);
        EDGES.argument("run: steps and no run", () -> new Lineartide().run(0, 201));
        EDGES.bounds("state: process and no run", () -> new Lineartide().state(-1));
        EDGES.bounds("fault: process and no run", () -> new Lineartide().fault(3));
        EDGES.bounds("place: process and no run", () -> new Lineartide().place(-1));
        EDGES.bounds("value: process and no run", () -> new Lineartide().value(3, 0));
        EDGES.bounds("value: name and no run", () -> new Lineartide().value(0, -1));
        EDGES.bounds("waiting: process and no run", () -> new Lineartide().waiting(-1, 0));
        EDGES.bounds("waiting: channel and no run", () -> new Lineartide().waiting(0, 3));
    }

    // ---- Protocols, channels

    private static void protocols() {
        EDGES.says("Terms", "There are the protocols 0 to 2.");
        Lineartide x = new Lineartide();
        for (int p = 0; p < 3; p++) {
            EDGES.due("the first step of " + p, 0, x.step(p, PICKS, p, 0));
            EDGES.due("the second step of " + p, 1, x.step(p, ENDS, 0, 0));
        }
        EDGES.bounds("protocol -1", () -> x.step(-1, ENDS, 0, 0));
        EDGES.bounds("protocol 3", () -> x.step(3, ENDS, 0, 0));
        EDGES.due("a channel of 0", 0, x.channel(0, 0, 1));
        EDGES.due("a channel of 1", 1, x.channel(1, 0, 1));
        EDGES.state("2 goes on with a step 2, which is not there", () -> x.channel(2, 0, 1));
        Edges.add(x, 0, PICK, 0, 0, PICK, 1, 0);
        EDGES.due("0 goes on with the step 0", 0, x.at(0, 2, 0));
        EDGES.due("1 goes on with the step 1", 1, x.at(0, 2, 1));
    }

    private static void atMost8Steps() {
        EDGES.says("Terms", "A protocol is told in steps, numbered from 0, at most 8;");
        for (int p = 0; p < 3; p++) {
            int q = p;
            Lineartide x = new Lineartide();
            for (int i = 0; i < 7; i++) {
                EDGES.due("step " + i, i, x.step(p, GIVES, MANY, i + 1));
            }
            EDGES.state("the step 7 is missing", () -> x.channel(q, 0, 1));
            EDGES.due("the eighth step", 7, x.step(p, ENDS, 0, 0));
            EDGES.state("a ninth step", () -> x.step(q, ENDS, 0, 0));
            EDGES.due("a channel of 8 steps", 0, x.channel(p, 0, 1));
            Edges.add(x, 0, MAKE, 0, MANY);
            for (int i = 0; i < 7; i++) {
                EDGES.due("at step " + i, i, x.at(0, 1 + i, 0));
                x.op(0, SEND, 0, 0);
            }
            EDGES.due("at the last step", 7, x.at(0, 8, 0));
            EDGES.fine("all 8 steps", x);
        }
    }

    private static void kindsAndNext() {
        EDGES.says("Terms", "a step is GIVES or GETS, with a kind of values and the step that is next;");
        for (int kind = MANY; kind <= LINEAR; kind++) {
            for (int next = 0; next <= 7; next++) {
                Lineartide x = filled(next, GETS, kind, next);
                Edges.add(x, 0, TAKE, 0, 0);
                EDGES.due("the kind " + kind, 1 + kind, x.holds(0, 1, 0));
                EDGES.due("the next step " + next, next, x.at(0, 1, 0));
                Lineartide y = filled(next, GIVES, kind, next);
                Edges.add(y, 0, MAKE, 0, kind, SEND, 0, 0);
                EDGES.due("the next step " + next, next, y.at(0, 2, 0));
                EDGES.due("SEND of the kind " + kind, next == 0 ? OPEN : 0, y.error(0));
            }
        }
    }

    /** A channel whose step 0 is as told, with ENDS behind it up to a step. */
    private static Lineartide filled(int last, int what, int a, int b) {
        Lineartide x = new Lineartide();
        x.step(0, what, a, b);
        for (int i = 1; i <= last; i++) {
            x.step(0, ENDS, 0, 0);
        }
        x.channel(0, 0, 1);
        return x;
    }

    private static void waysOfSteps() {
        EDGES.says("Terms", "PICKS or OFFERS, with the steps that are next by the way 0 and by the way 1;");
        for (int a = 0; a <= 7; a++) {
            for (int b = 0; b <= 7; b++) {
                Lineartide x = filled(7, PICKS, a, b);
                Edges.add(x, 0, PICK, 0, 0);
                EDGES.due("the way 0 to " + a, a, x.at(0, 1, 0));
                x.unop(0);
                Edges.add(x, 0, PICK, 0, 1);
                EDGES.due("the way 1 to " + b, b, x.at(0, 1, 0));
                Lineartide y = filled(7, OFFERS, a, b);
                Edges.add(y, 0, WAIT, 0, 2, STOP, 0, 0);
                EDGES.due("the way 0 comes to " + a, a, y.at(0, 1, 0));
                EDGES.due("the way 1 comes to " + b, b, y.at(0, 2, 0));
            }
        }
    }

    private static void endingSteps() {
        EDGES.says("Terms", "or ENDS.");
        for (int last = 0; last <= 7; last++) {
            Lineartide x = new Lineartide();
            for (int i = 0; i <= last; i++) {
                EDGES.due("ENDS as the step " + i, i, x.step(0, ENDS, LOW + i, HIGH - i));
            }
            EDGES.due("a channel of ENDS alone", 0, x.channel(0, 0, 1));
            EDGES.fine("at ENDS", x);
        }
    }

    private static void atMost3Channels() {
        EDGES.says("Terms", "There are at most 3 channels, numbered from 0;");
        Lineartide x = Edges.tell(new Lineartide(), 0, ENDS, 0, 0);
        Edges.tell(x, 1, ENDS, 0, 0);
        for (int i = 0; i < 3; i++) {
            int count = i;
            EDGES.bounds("at of the channel " + i + ", not yet there", () -> x.at(0, 0, count));
            EDGES.due("the channel " + i, i, x.channel(i % 2, 0, 1));
            EDGES.due("at of the channel " + i, 0, x.at(0, 0, i));
        }
        EDGES.state("a fourth channel", () -> x.channel(0, 0, 1));
        EDGES.state("a fourth channel between others", () -> x.channel(1, 2, 1));
        EDGES.bounds("at of the channel 3", () -> x.at(0, 0, 3));
    }

    private static void leftAndRight() {
        EDGES.says("Terms", "one is between a left process and a right one.");
        for (int left = 0; left < 3; left++) {
            for (int right = 0; right < 3; right++) {
                if (left != right) {
                    Lineartide x = Edges.tell(new Lineartide(), 0, ENDS, 0, 0);
                    x.channel(0, left, right);
                    EDGES.due("the left one has it", 0, x.at(left, 0, 0));
                    EDGES.due("the right one has it", 0, x.at(right, 0, 0));
                    EDGES.due("the third one does not", NONE, x.at(3 - left - right, 0, 0));
                }
            }
        }
    }

    private static void eachSide() {
        int[] other = {GETS, GIVES, OFFERS, PICKS, ENDS};
        for (int step = GIVES; step <= ENDS; step++) {
            for (int side = 0; side < 2; side++) {
                EDGES.says("Terms", side == 0 ? "The left one follows the protocol as it is told;"
                    : "for the right one GIVES is GETS, PICKS is OFFERS, and the other way round.");
                int asked = side == 0 ? step : other[step];
                Lineartide x = Edges.steps(step, 1, 1, ENDS, 0, 0);
                EDGES.due("OPEN at step " + step, step == ENDS ? 0 : OPEN, x.error(side));
                for (int what = SEND; what <= WAIT; what++) {
                    Lineartide y = Edges.steps(step, 1, 1, ENDS, 0, 0);
                    Edges.add(y, side, MAKE, 1, AFFINE, what, 0, what == WAIT ? 2 : 1);
                    EDGES.due("op " + what + " of side " + side + " at step " + step, asked == what - SEND ? 0 : SESSION, y.error(side));
                }
            }
        }
    }

    private static void beginningSteps() {
        EDGES.says("Terms", "Each begins at the step 0.");
        Lineartide x = Edges.tell(new Lineartide(), 0, GIVES, MANY, 1, ENDS, 0, 0);
        Edges.tell(x, 1, ENDS, 0, 0, GIVES, MANY, 0);
        x.channel(0, 0, 1);
        x.channel(0, 0, 1);
        x.channel(1, 1, 2);
        Edges.add(x, 0, MAKE, 0, MANY, SEND, 0, 0);
        EDGES.due("channel 0 goes on", 1, x.at(0, 2, 0));
        EDGES.due("channel 1 of the same protocol is at its own beginning", 0, x.at(0, 2, 1));
        EDGES.due("and so is the right side of 0", 0, x.at(1, 0, 0));
        EDGES.due("channel 2 begins at ENDS", 0, x.at(2, 0, 2));
        EDGES.error("which is right", x, 2, NONE, 0);
    }

    // ---- Processes

    private static void processes() {
        EDGES.says("Processes", "There are the processes 0 to 2, each with the variables 0 to 5 and at most 16 ops, numbered from 0.");
        for (int p = 0; p < 3; p++) {
            int q = p;
            Lineartide x = new Lineartide();
            for (int i = 0; i < 16; i++) {
                EDGES.due("op " + i, i, x.op(p, MAKE, i % 6, i < 6 ? i % 3 : MANY));
                EDGES.due("others have none", 0, x.holds((p + 1) % 3, 0, 0));
            }
            EDGES.state("a 17th op", () -> x.op(q, MAKE, 0, 0));
            for (int v = 0; v < 6; v++) {
                EDGES.due("the variable " + v + " behind 6 ops", 1 + v % 3, x.holds(p, 6, v));
                EDGES.due("the variable " + v + " at the end", 1, x.holds(p, 16, v));
            }
            EDGES.bounds("the end is the last op's next", () -> x.holds(q, 17, 0));
            EDGES.due("the 16th op is taken away", 15, x.unop(p));
            EDGES.due("and another one told", 15, x.op(p, MAKE, 5, LINEAR));
            EDGES.due("which is done", 3, x.holds(p, 16, 5));
            EDGES.state("and is the last one", () -> x.op(q, MAKE, 0, 0));
        }
    }

    private static void behindTheLastOp() {
        EDGES.says("Processes", "Behind the last op, or by going on with one that there is not, a process ends.");
        for (int what : new int[] {MAYBE, JUMP, WAIT}) {
            for (int b = 0; b < 16; b++) {
                Lineartide x = Edges.steps(OFFERS, 1, 1, ENDS, 0, 0);
                Edges.add(x, 0, what, 0, b, MAKE, 5, LINEAR);
                int end = Math.min(b, 2);
                EDGES.due("op " + what + " to " + b + " comes to " + end, true, x.holds(0, end, 0) == 0);
                EDGES.due("the end is come to with " + b, true, x.holds(0, 2, 0) == 0 || what == JUMP && b == 0);
                if (what != WAIT) {
                    x.begin();
                    x.go(0, true);
                    EDGES.due("goes on with " + b, end, x.place(0));
                    EDGES.due("and is not yet DONE", RUNNING, x.state(0));
                    if (end == 2) {
                        // MAKE was passed by, so there is nothing that is kept; the channel is open all the same
                        EDGES.go(x, 0, 1);
                        EDGES.is("ends", x, 0, DEAD, OPEN, 2);
                    }
                }
            }
        }
        Lineartide x = new Lineartide();
        x.begin();
        EDGES.go(x, 0, 1);
        EDGES.is("without ops it ends at once", x, 0, DONE, 0, 0);
        Lineartide y = Edges.ops(JUMP, 0, 2, STOP, 0, 0);
        EDGES.due("the op 2 is the end", 0, y.holds(0, 2, 0));
        EDGES.due("the op 1 can't be come to", NONE, y.holds(0, 1, 0));
        y.op(0, READ, 0, 0);
        EDGES.error("it is an op when there is one", y, 0, 2, EMPTY);
        y.unop(0);
        EDGES.fine("and the end again", y);
        Lineartide full = new Lineartide();
        for (int i = 0; i < 16; i++) {
            full.op(0, MAKE, 0, MANY);
        }
        full.begin();
        EDGES.go(full, 0, 16);
        EDGES.is("behind the 16th op", full, 0, RUNNING, 0, 16);
        EDGES.go(full, 0, 1);
        EDGES.is("it ends", full, 0, DONE, 0, 16);
    }

    // ---- the promises 1 to 5

    private static void newObject() {
        EDGES.says("Promise 1", "Protocols without steps, processes without ops; no channels, no run.");
        Lineartide x = new Lineartide();
        for (int p = 0; p < 3; p++) {
            int q = p;
            EDGES.state("a channel of the protocol " + p, () -> x.channel(q, 0, 1));
            EDGES.state("unop of the process " + p, () -> x.unop(q));
            EDGES.due("the end is the op 0", 0, x.holds(p, 0, 5));
            EDGES.bounds("and there is none behind it", () -> x.lives(q, 1));
            EDGES.bounds("no channel 0", () -> x.at(q, 0, 0));
            EDGES.state("no run", () -> x.state(q));
        }
        EDGES.state("no run", () -> x.run(1, 1));
        EDGES.due("none made", 0, x.made());
        EDGES.due("none dropped", 0, x.drops());
        EDGES.bounds("none told as dropped", () -> x.dropped(0));
        EDGES.due("the first step", 0, x.step(0, ENDS, 0, 0));
        EDGES.due("the first op", 0, x.op(0, STOP, 0, 0));
        EDGES.due("the first channel", 0, x.channel(0, 0, 1));
        EDGES.due("two objects know nothing of each other", 0, new Lineartide().step(0, ENDS, 0, 0));
    }

    private static void stepArguments() {
        EDGES.says("Promise 2", "`protocol`: 0 to 2");
        for (int p = 0; p < 3; p++) {
            EDGES.due("protocol " + p, 0, new Lineartide().step(p, ENDS, 0, 0));
        }
        EDGES.says("Promise 2", "`what`: GIVES to ENDS");
        for (int what = GIVES; what <= ENDS; what++) {
            EDGES.due("step " + what, 0, new Lineartide().step(0, what, 0, 0));
        }
        EDGES.says("Promise 2", "`a`: GIVES, GETS: a kind; PICKS, OFFERS: the next step by the way 0, 0 to 7; it does not matter for ENDS");
        takes(GIVES, 3, 8);
        takes(PICKS, 8, 8);
        EDGES.says("Promise 2", "`b`: GIVES, GETS: the next step, 0 to 7; PICKS, OFFERS: that by the way 1, 0 to 7; it does not matter for ENDS");
        takes(GETS, 3, 8);
        takes(OFFERS, 8, 8);
        for (int any : new int[] {LOW, -1, 0, 7, 8, HIGH}) {
            EDGES.due("ENDS of " + any, 0, new Lineartide().step(0, ENDS, any, -any));
        }
        Lineartide x = Edges.tell(new Lineartide(), 0, ENDS, 1, 7, ENDS, LOW, HIGH);
        EDGES.due("its a and b are no next steps", 0, x.channel(0, 0, 1));
    }

    /** The ranges of a and of b begin at 0, and end ahead of these. */
    private static void takes(int what, int a, int b) {
        for (int i = 0; i < a; i++) {
            EDGES.due("step " + what + " of a " + i, 0, new Lineartide().step(0, what, i, b - 1));
        }
        for (int i = 0; i < b; i++) {
            EDGES.due("step " + what + " of b " + i, 0, new Lineartide().step(0, what, a - 1, i));
        }
        Lineartide x = new Lineartide();
        for (int wrong : Edges.beside(a)) {
            EDGES.argument("step " + what + " of a " + wrong, () -> x.step(0, what, wrong, 0));
        }
        for (int wrong : Edges.beside(b)) {
            EDGES.argument("step " + what + " of b " + wrong, () -> x.step(0, what, 0, wrong));
        }
    }

    private static void stepAnswers() {
        EDGES.says("Promise 2", "Returns its number.");
        Lineartide x = new Lineartide();
        for (int i = 0; i < 8; i++) {
            EDGES.due("step " + i, i, x.step(1, i % 5, 0, 0));
        }
        EDGES.says("Promise 2", "Adds a step to a protocol.");
        EDGES.due("others have none of it", 0, x.step(2, ENDS, 0, 0));
        EDGES.says("Promise 2", "Throws `IndexOutOfBoundsException` if there is no such protocol");
        for (int none : Edges.beside(3)) {
            EDGES.bounds("protocol " + none, () -> x.step(none, ENDS, 0, 0));
        }
        EDGES.says("Promise 2", "Throws `IllegalArgumentException` if what, a or b is out of range");
        EDGES.argument("what -1", () -> x.step(2, GIVES - 1, 0, 0));
        EDGES.argument("what 5", () -> x.step(2, ENDS + 1, 0, 0));
        EDGES.argument("a 3 of GETS", () -> x.step(2, GETS, 3, 0));
        EDGES.argument("b 8 of PICKS", () -> x.step(2, PICKS, 7, 8));
        EDGES.says("Promise 2", "Throws `IllegalStateException` if there are 8, or a channel has the protocol");
        EDGES.state("there are 8", () -> x.step(1, ENDS, 0, 0));
        for (int i = 1; i < 8; i++) {
            Lineartide y = new Lineartide();
            for (int k = 0; k < i; k++) {
                y.step(0, ENDS, 0, 0);
                y.step(1, ENDS, 0, 0);
            }
            y.channel(0, 0, 1);
            EDGES.state("a channel has the protocol of " + i, () -> y.step(0, ENDS, 0, 0));
            EDGES.due("none has the other one", i, y.step(1, ENDS, 0, 0));
            y.channel(1, 0, 1);
            EDGES.state("a second channel has it", () -> y.step(1, ENDS, 0, 0));
            EDGES.due("none has the third one", 0, y.step(2, ENDS, 0, 0));
        }
    }

    private static void stepsInARun() {
        EDGES.says("Promise 3", "Makes a channel; a run is over by that.");
        Lineartide x = new Lineartide();
        x.begin();
        x.step(0, ENDS, 0, 0);
        EDGES.due("not by a step", RUNNING, x.state(0));
        EDGES.argument("nor by a channel that is refused", () -> x.channel(0, 0, 0));
        EDGES.state("nor by one without steps", () -> x.channel(1, 0, 1));
        EDGES.due("the run goes on", RUNNING, x.state(2));
        x.channel(0, 0, 1);
        for (int p = 0; p < 3; p++) {
            int q = p;
            EDGES.state("state of " + p, () -> x.state(q));
            EDGES.state("go of " + p, () -> x.go(q, true) ? 1 : 0);
        }
        EDGES.state("run", () -> x.run(1, 1));
    }

    private static void channelArguments() {
        EDGES.says("Promise 3", "`protocol`: 0 to 2");
        for (int p = 0; p < 3; p++) {
            Lineartide x = Edges.tell(new Lineartide(), p, ENDS, 0, 0);
            EDGES.due("protocol " + p, 0, x.channel(p, 0, 1));
        }
        for (String words : new String[] {"`left`: 0 to 2", "`right`: 0 to 2"}) {
            EDGES.says("Promise 3", words);
            for (int left = 0; left < 3; left++) {
                for (int right = 0; right < 3; right++) {
                    int from = left;
                    int to = right;
                    Lineartide x = Edges.tell(new Lineartide(), 0, ENDS, 0, 0);
                    if (left == right) {
                        EDGES.argument(left + " to itself", () -> x.channel(0, from, to));
                    } else {
                        EDGES.due(left + " to " + right, 0, x.channel(0, left, right));
                    }
                }
            }
        }
        EDGES.says("Promise 3", "Returns its number.");
        Lineartide x = Edges.tell(new Lineartide(), 0, ENDS, 0, 0);
        for (int i = 0; i < 3; i++) {
            EDGES.due("channel " + i, i, x.channel(0, i, (i + 1) % 3));
        }
    }

    private static void channelRefused() {
        EDGES.says("Promise 3", "Throws `IndexOutOfBoundsException` if there is no such protocol or process");
        Lineartide x = Edges.tell(new Lineartide(), 0, ENDS, 0, 0);
        for (int none : Edges.beside(3)) {
            EDGES.bounds("protocol " + none, () -> x.channel(none, 0, 1));
            EDGES.bounds("left " + none, () -> x.channel(0, none, 1));
            EDGES.bounds("right " + none, () -> x.channel(0, 0, none));
            EDGES.bounds("both " + none, () -> x.channel(0, none, none));
        }
        EDGES.says("Promise 3", "Throws `IllegalArgumentException` if both are the same");
        for (int p = 0; p < 3; p++) {
            int q = p;
            EDGES.argument("both are " + p, () -> x.channel(0, q, q));
        }
        EDGES.says("Promise 3", "Throws `IllegalStateException` if there are 3, the protocol has no steps, or one goes on with a step that there is not");
        EDGES.state("no steps", () -> x.channel(1, 0, 1));
        for (int what = GIVES; what <= OFFERS; what++) {
            for (int count = 1; count < 8; count++) {
                // the last of so many steps goes on with the one behind it, and another one by the way 0
                Lineartide y = new Lineartide();
                for (int i = 1; i < count; i++) {
                    y.step(2, ENDS, count, count);
                }
                y.step(2, what, 0, count);
                EDGES.state("step " + what + ", the last of " + count, () -> y.channel(2, 0, 1));
                y.step(2, ENDS, 0, 0);
                EDGES.due("one more", 0, y.channel(2, 0, 1));
                Lineartide z = new Lineartide();
                z.step(2, what, what <= GETS ? 2 : count, what <= GETS ? count : 0);
                for (int i = 1; i < count; i++) {
                    z.step(2, ENDS, count, count);
                }
                EDGES.state("step " + what + ", the first of " + count, () -> z.channel(2, 0, 1));
                z.step(2, ENDS, 0, 0);
                EDGES.due("one more", 0, z.channel(2, 0, 1));
            }
        }
        for (int i = 0; i < 3; i++) {
            x.channel(0, 2, 0);
        }
        EDGES.state("there are 3", () -> x.channel(0, 1, 0));
    }

    private static void opArguments() {
        EDGES.says("Promise 4", "`process`: 0 to 2");
        for (int p = 0; p < 3; p++) {
            EDGES.due("process " + p, 0, new Lineartide().op(p, STOP, 0, 0));
        }
        EDGES.says("Promise 4", "`what`: MAKE to STOP");
        for (int what = MAKE; what <= STOP; what++) {
            EDGES.due("op " + what, 0, new Lineartide().op(0, what, 0, 1));
        }
        EDGES.argument("below MAKE", () -> new Lineartide().op(0, MAKE - 1, 0, 1));
        EDGES.argument("above STOP", () -> new Lineartide().op(0, STOP + 1, 0, 1));
        EDGES.says("Promise 4", "`a`: as told: a variable, 0 to 5, or a channel, 0 to 2, also one that is not there;");
        ranges(MAKE, 6, 3);
        ranges(MOVE, 6, 6);
        ranges(SHARE, 6, 6);
        ranges(LEND, 6, 6);
        ranges(SEND, 3, 6);
        ranges(TAKE, 3, 6);
        EDGES.says("Promise 4", "`b`: as told: a kind, a variable, a way, or an op, 0 to 15;");
        ranges(PICK, 3, 2);
        ranges(WAIT, 3, 16);
        EDGES.says("Promise 4", "it does not matter for MAYBE, JUMP and STOP");
        ranges(MAYBE, 0, 16);
        ranges(JUMP, 0, 16);
        EDGES.says("Promise 4", "it does not matter for FREE, READ, WRITE and STOP");
        ranges(FREE, 6, 0);
        ranges(READ, 6, 0);
        ranges(WRITE, 6, 0);
        ranges(STOP, 0, 0);
    }

    /** The ranges of a and b begin at 0, and end ahead of these; 0 for one that does not matter. */
    private static void ranges(int what, int a, int b) {
        boolean unlike = what == SHARE || what == LEND;
        int[] anyA = a == 0 ? new int[] {LOW, -1, 0, 16, HIGH} : range(a);
        int[] anyB = b == 0 ? new int[] {LOW, -1, 0, 16, HIGH} : range(b);
        for (int i : anyA) {
            for (int k : anyB) {
                if (unlike && i == k) {
                    EDGES.argument("op " + what + " of " + i + " twice", () -> new Lineartide().op(0, what, i, k));
                } else {
                    EDGES.due("op " + what + " of " + i + ", " + k, 0, new Lineartide().op(0, what, i, k));
                }
            }
        }
        Lineartide x = new Lineartide();
        for (int wrong : a == 0 ? new int[0] : Edges.beside(a)) {
            EDGES.argument("op " + what + " of a " + wrong, () -> x.op(0, what, wrong, 0));
            EDGES.argument("op " + what + " of a " + wrong + ", and b", () -> x.op(0, what, wrong, b == 0 ? 0 : b - 1));
        }
        for (int wrong : b == 0 ? new int[0] : Edges.beside(b)) {
            EDGES.argument("op " + what + " of b " + wrong, () -> x.op(0, what, 0, wrong));
            EDGES.argument("op " + what + " of b " + wrong + ", and a", () -> x.op(0, what, a == 0 ? 0 : a - 1, wrong));
        }
        EDGES.due("none was told", 0, x.op(0, STOP, 0, 0));
    }

    private static int[] range(int count) {
        int[] all = new int[count];
        for (int i = 0; i < count; i++) {
            all[i] = i;
        }
        return all;
    }

    private static void opAnswers() {
        EDGES.says("Promise 4", "Returns its number.");
        Lineartide x = new Lineartide();
        for (int i = 0; i < 16; i++) {
            EDGES.due("op " + i, i, x.op(2, i % 14, 0, 1));
        }
        EDGES.says("Promise 4", "Throws `IndexOutOfBoundsException` if there is no such process");
        for (int none : Edges.beside(3)) {
            EDGES.bounds("process " + none, () -> x.op(none, STOP, 0, 0));
        }
        EDGES.says("Promise 4", "Throws `IllegalArgumentException` if what, a or b is out of range, or a and b are the same variable of SHARE or LEND");
        for (int v = 0; v < 6; v++) {
            int same = v;
            EDGES.argument("SHARE of " + v, () -> x.op(0, SHARE, same, same));
            EDGES.argument("LEND of " + v, () -> x.op(0, LEND, same, same));
            EDGES.due("MOVE of " + v + " to itself", 0, new Lineartide().op(0, MOVE, v, v));
            EDGES.due("a channel and a variable of the same number", 0, new Lineartide().op(0, SEND, v % 3, v % 3));
        }
        EDGES.says("Promise 4", "Throws `IllegalStateException` if there are 16");
        for (int what = MAKE; what <= STOP; what++) {
            int w = what;
            EDGES.state("op " + what + " as the 17th", () -> x.op(2, w, 0, 1));
        }
        EDGES.due("others have room", 0, x.op(1, STOP, 0, 0));
        EDGES.says("Promise 4", "Adds an op to a process; a run is over by that.");
        x.begin();
        EDGES.state("a refused op", () -> x.op(2, STOP, 0, 0));
        EDGES.due("leaves the run", RUNNING, x.state(0));
        x.op(0, STOP, 0, 0);
        EDGES.state("an op ends it for its process", () -> x.state(0));
        EDGES.state("and for the others", () -> x.go(2, false) ? 1 : 0);
    }

    private static void unops() {
        EDGES.says("Promise 5", "Takes the last op of a process away; a run is over by that.");
        Lineartide x = Edges.ops(MAKE, 0, MANY, MAKE, 1, AFFINE, MAKE, 0, LINEAR);
        x.begin();
        x.unop(0);
        EDGES.state("the run is over", () -> x.state(1));
        EDGES.due("the last one is away", 1, x.holds(0, 2, 0));
        EDGES.due("the others stay", 2, x.holds(0, 2, 1));
        x.begin();
        EDGES.state("a refused unop", () -> x.unop(1));
        EDGES.due("leaves the run", RUNNING, x.state(1));
        EDGES.says("Promise 5", "`process`: 0 to 2");
        for (int p = 0; p < 3; p++) {
            Lineartide y = Edges.add(new Lineartide(), p, STOP, 0, 0);
            EDGES.due("process " + p, 0, y.unop(p));
        }
        EDGES.says("Promise 5", "Returns how many it has then.");
        Lineartide z = new Lineartide();
        for (int i = 0; i < 16; i++) {
            z.op(1, MAKE, 0, 0);
        }
        for (int left = 15; left >= 0; left--) {
            EDGES.due("of 16", left, z.unop(1));
            EDGES.due("the end is there", left == 0 ? 0 : 1, z.holds(1, left, 0));
            int behind = left + 1;
            EDGES.bounds("and nothing behind it", () -> z.lives(1, behind));
        }
        EDGES.says("Promise 5", "Throws `IndexOutOfBoundsException` if there is no such process");
        for (int none : Edges.beside(3)) {
            EDGES.bounds("process " + none, () -> z.unop(none));
        }
        EDGES.says("Promise 5", "Throws `IllegalStateException` if it has none");
        EDGES.state("none is left", () -> z.unop(1));
        EDGES.state("none was told", () -> z.unop(0));
        EDGES.due("the next one is the first", 0, z.op(1, STOP, 0, 0));
    }

    static void all() {
        lastOf512Calls();
        constants();
        refusedCalls();
        noSuchThing();
        outOfRange();
        whatStateRefuses();
        theFirstOfSeveral();
        protocols();
        atMost8Steps();
        kindsAndNext();
        waysOfSteps();
        endingSteps();
        atMost3Channels();
        leftAndRight();
        eachSide();
        beginningSteps();
        processes();
        behindTheLastOp();
        newObject();
        stepArguments();
        stepAnswers();
        stepsInARun();
        channelArguments();
        channelRefused();
        opArguments();
        opAnswers();
        unops();
    }
}

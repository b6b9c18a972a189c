/** Promises 6 to 11: what is found ahead of ops, the first error, and who is in the way. */
public final class FoundTest {
    private static final Expect EXPECT = new Expect();
    private static final int MAKE = Lineartide.MAKE, MOVE = Lineartide.MOVE, FREE = Lineartide.FREE, READ = Lineartide.READ,
        WRITE = Lineartide.WRITE, SHARE = Lineartide.SHARE, LEND = Lineartide.LEND, SEND = Lineartide.SEND, TAKE = Lineartide.TAKE,
        PICK = Lineartide.PICK, WAIT = Lineartide.WAIT, MAYBE = Lineartide.MAYBE, JUMP = Lineartide.JUMP, STOP = Lineartide.STOP;
    private static final int GIVES = Lineartide.GIVES, GETS = Lineartide.GETS, PICKS = Lineartide.PICKS, OFFERS = Lineartide.OFFERS,
        ENDS = Lineartide.ENDS;

    /** An object whose process 0 does these ops: what, a and b of each. */
    private static Lineartide ops(int... ops) {
        return add(new Lineartide(), 0, ops);
    }

    private static Lineartide add(Lineartide x, int process, int... ops) {
        for (int i = 0; i + 2 < ops.length; i += 3) {
            x.op(process, ops[i], ops[i + 1], ops[i + 2]);
        }
        return x;
    }

    /** An object with a channel 0 of these steps, between the left process 0 and the right process 1. */
    private static Lineartide steps(int... steps) {
        Lineartide x = new Lineartide();
        for (int i = 0; i + 2 < steps.length; i += 3) {
            x.step(0, steps[i], steps[i + 1], steps[i + 2]);
        }
        x.channel(0, 0, 1);
        return x;
    }

    private static void holds(String what, Lineartide x, int op, int... names) {
        for (int i = 0; i < names.length; i++) {
            EXPECT.due(what + ": holds " + i, names[i], x.holds(0, op, i));
        }
    }

    private static void error(String what, Lineartide x, int op, int error) {
        EXPECT.due(what + ": check", op, x.check(0));
        EXPECT.due(what + ": error", error, x.error(0));
        if (error != Lineartide.BORROWED) {
            EXPECT.state(what + ": borrower", () -> x.borrower(0));
        }
    }

    private static void borrowed(String what, Lineartide x, int op, int borrower) {
        error(what, x, op, Lineartide.BORROWED);
        EXPECT.due(what + ": borrower", borrower, x.borrower(0));
    }

    private static void fine(String what, Lineartide x) {
        error(what, x, -1, 0);
    }

    private static void whatOpsChange() {
        Lineartide x = ops(MAKE, 0, 0, MAKE, 1, 1, MAKE, 2, 2, SHARE, 3, 1, SHARE, 4, 3, LEND, 5, 2);
        holds("at the beginning", x, 0, 0, 0, 0, 0, 0, 0);
        holds("owners, shares and loans", x, 6, 1, 2, 3, 11, 11, 22);
        holds("MOVE copies MANY", ops(MAKE, 0, 0, MOVE, 1, 0), 2, 1, 1);
        holds("MOVE takes AFFINE away", ops(MAKE, 0, 1, MOVE, 1, 0), 2, 0, 2);
        holds("MOVE takes LINEAR away", ops(MAKE, 0, 2, MOVE, 1, 0), 2, 0, 3);
        holds("MOVE shares both", ops(MAKE, 0, 1, SHARE, 1, 0, MOVE, 2, 1), 3, 2, 10, 10);
        holds("MOVE takes what is lent away", ops(MAKE, 0, 1, LEND, 1, 0, MOVE, 2, 1), 3, 2, 0, 20);
        holds("MOVE of nothing", ops(MAKE, 1, 1, MOVE, 1, 0), 2, 0, 0);
        holds("MOVE of the same", ops(MAKE, 0, 1, MOVE, 0, 0), 2, 2);
        holds("FREE", ops(MAKE, 0, 1, SHARE, 1, 0, FREE, 1, 0, FREE, 0, 0), 4, 0, 0);
        holds("shares stay whatever becomes", ops(MAKE, 0, 1, SHARE, 1, 0, FREE, 0, 0), 3, 0, 10);
        holds("SHARE of nothing", ops(MAKE, 1, 0, SHARE, 1, 0), 2, 0, 0);
        holds("SHARE of what is lent", ops(MAKE, 0, 0, LEND, 1, 0, SHARE, 2, 1), 3, 1, 20, 0);
        holds("LEND of what is shared", ops(MAKE, 0, 0, SHARE, 1, 0, LEND, 2, 1), 3, 1, 10, 0);
        holds("LEND of what is lent", ops(MAKE, 0, 0, LEND, 1, 0, LEND, 2, 1), 3, 1, 20, 0);
        holds("a share of itself", ops(MAKE, 0, 0, SHARE, 1, 0, MOVE, 0, 1), 3, 10, 10);
        holds("READ and WRITE change nothing", ops(MAKE, 0, 1, READ, 0, 0, WRITE, 0, 0), 3, 2);
        holds("SEND without a channel takes AFFINE away", ops(MAKE, 0, 1, SEND, 0, 0), 2, 0);
        holds("SEND copies MANY", ops(MAKE, 0, 0, SEND, 2, 0), 2, 1);
        holds("SEND lets shares be", ops(MAKE, 0, 1, SHARE, 1, 0, SEND, 0, 1), 3, 2, 10);
        holds("SEND takes what is lent away", ops(MAKE, 0, 1, LEND, 1, 0, SEND, 0, 1), 3, 2, 0);
        holds("TAKE without a channel", ops(TAKE, 1, 4), 1, 0, 0, 0, 0, 1);
        for (int kind = 0; kind < 3; kind++) {
            holds("TAKE of the kind", add(steps(GETS, kind, 1, ENDS, 0, 0), 0, TAKE, 0, 0), 1, kind + 1);
        }
        holds("TAKE at another step", add(steps(GIVES, 2, 1, ENDS, 0, 0), 0, TAKE, 0, 0), 1, 1);
        holds("4 moves on", ops(MAYBE, 0, 2, MAKE, 0, 1, MOVE, 1, 0), 3, 0, 4);
        holds("5 moves on", ops(MAYBE, 0, 2, MAKE, 0, 2, MOVE, 1, 0), 3, 0, 5);
        holds("4 is sent away", ops(MAYBE, 0, 2, MAKE, 0, 1, SEND, 0, 0), 3, 0);
        holds("5 is freed", ops(MAYBE, 0, 2, MAKE, 0, 2, FREE, 0, 0), 3, 0);
        holds("no share of 4", ops(MAYBE, 0, 2, MAKE, 0, 1, SHARE, 1, 0), 3, 4, 0);
        holds("no loan of 5", ops(MAYBE, 0, 2, MAKE, 0, 2, LEND, 1, 0), 3, 5, 0);
    }

    /** What comes together of one op on the way 0 and another one on the way 1, each for the variable 2. */
    private static int together(int[] one, int[] other) {
        Lineartide x = ops(MAKE, 0, 0, MAKE, 1, 0, MAYBE, 0, 5, one[0], one[1], one[2], JUMP, 0, 6, other[0], other[1], other[2]);
        int got = x.holds(0, 6, 2);
        Lineartide y = ops(MAKE, 0, 0, MAKE, 1, 0, MAYBE, 0, 5, other[0], other[1], other[2], JUMP, 0, 6, one[0], one[1], one[2]);
        EXPECT.due("the ways may be told the other way round", got, y.holds(0, 6, 2));
        return got;
    }

    private static void waysComeTogether() {
        int[][] what = {{READ, 0, 0}, {MAKE, 2, 0}, {MAKE, 2, 1}, {MAKE, 2, 2}, {SHARE, 2, 0}, {SHARE, 2, 1}, {LEND, 2, 0}, {LEND, 2, 1}};
        int[] alone = {0, 1, 2, 3, 10, 11, 20, 21};
        for (int i = 0; i < what.length; i++) {
            for (int k = 0; k < what.length; k++) {
                boolean linear = i == 3 || k == 3;
                boolean affine = i == 2 || k == 2;
                int want = i == k ? alone[i] : linear ? 5 : affine ? 4 : 0;
                EXPECT.due(alone[i] + " and " + alone[k], want, together(what[i], what[k]));
            }
        }
        // three ways: 4 with 0, 1, 3, and 5 with 2
        int[][] more = {{MAKE, 0, 4}, {MAKE, 1, 4}, {MAKE, 2, 5}};
        for (int[] m : more) {
            Lineartide x = ops(MAYBE, 0, 2, JUMP, 0, 3, MAKE, 0, 1, MAYBE, 0, 5, MAKE, 0, m[1]);
            EXPECT.due("4 and " + (m[1] + 1), m[2], x.holds(0, 5, 0));
        }
        EXPECT.due("5 and 2", 5, ops(MAYBE, 0, 2, MAKE, 0, 2, MAYBE, 0, 4, MAKE, 0, 1).holds(0, 4, 0));
    }

    private static void loopsAndReach() {
        Lineartide x = ops(MAKE, 0, 1, MAYBE, 0, 4, FREE, 0, 0, JUMP, 0, 1, STOP, 0, 0, MAKE, 3, 0);
        holds("a loop comes back with nothing", x, 1, 4);
        error("freed twice by a loop", x, 2, Lineartide.EMPTY);
        EXPECT.due("what cannot be come to", -1, x.holds(0, 5, 0));
        EXPECT.due("an end that cannot be come to", -1, x.holds(0, 6, 0));
        EXPECT.due("lives ahead of what cannot be come to", 0, x.lives(0, 5));
        fine("what cannot be come to has no error", ops(STOP, 0, 0, READ, 0, 0));
        fine("an end that cannot be come to has no error", ops(JUMP, 0, 0));
        fine("past the end", ops(JUMP, 0, 15, FREE, 0, 0));
        holds("a loop to the beginning", ops(MAKE, 0, 0, MAYBE, 0, 0), 0, 0);
        EXPECT.due("AFFINE back at the beginning", 4, ops(MAKE, 0, 1, JUMP, 0, 0).holds(0, 0, 0));
        EXPECT.due("LINEAR back at the beginning", 5, ops(MAKE, 0, 2, JUMP, 0, 0).holds(0, 0, 0));
        error("unlike at the beginning", ops(MAKE, 0, 2, JUMP, 0, 0), 0, Lineartide.UNLIKE);
        error("a loop to the beginning, used", ops(MAYBE, 0, 2, READ, 0, 0, MAKE, 0, 0, JUMP, 0, 0), 1, Lineartide.EMPTY);
        EXPECT.due("a use that cannot be come to lives", 1, ops(STOP, 0, 0, READ, 0, 0).lives(0, 1));
        EXPECT.bounds("holds of an op -1", () -> x.holds(0, -1, 0));
        EXPECT.bounds("holds of an op too far", () -> x.holds(0, 7, 0));
        EXPECT.bounds("holds of a name -1", () -> x.holds(0, 0, -1));
        EXPECT.bounds("holds of a name 6", () -> x.holds(0, 0, 6));
        for (int process : new int[] {-1, 3}) {
            EXPECT.bounds("check", () -> x.check(process));
            EXPECT.bounds("error", () -> x.error(process));
            EXPECT.bounds("borrower", () -> x.borrower(process));
            EXPECT.bounds("holds", () -> x.holds(process, 0, 0));
            EXPECT.bounds("lives", () -> x.lives(process, 0));
        }
    }

    private static void lives() {
        Lineartide x = ops(MAKE, 0, 0, MAKE, 1, 0, MAYBE, 0, 5, MOVE, 2, 0, JUMP, 0, 1, READ, 1, 0, LEND, 3, 2, WRITE, 3, 0);
        int[] want = {0b0100, 0b0101, 0b0111, 0b0001, 0b0101, 0b0110, 0b0100, 0b1000, 0};
        // ahead of op 3 the variable 0 is used, and lives again by the loop; 2 is the target there
        for (int i = 0; i < want.length; i++) {
            EXPECT.due("lives ahead of op " + i, want[i], x.lives(0, i));
        }
        EXPECT.due("used ahead of being the target", 0b1, ops(MOVE, 0, 0).lives(0, 0));
        EXPECT.due("a target does not live", 0b10, ops(MOVE, 0, 1, READ, 0, 0).lives(0, 0));
        EXPECT.due("SEND uses", 0b100000, ops(SEND, 0, 5).lives(0, 0));
        EXPECT.due("TAKE gets", 0, ops(TAKE, 0, 5, READ, 5, 0).lives(0, 0));
        EXPECT.due("FREE uses", 0b10, ops(FREE, 1, 0).lives(0, 0));
        EXPECT.due("both ways of WAIT", 0b110, ops(WAIT, 0, 3, READ, 1, 0, STOP, 0, 0, READ, 2, 0).lives(0, 0));
        EXPECT.due("nothing behind STOP", 0, ops(STOP, 0, 0, READ, 2, 0).lives(0, 0));
        EXPECT.due("only the way of JUMP", 0b100, ops(JUMP, 0, 2, READ, 1, 0, READ, 2, 0).lives(0, 0));
        EXPECT.bounds("lives of an op -1", () -> x.lives(0, -1));
        EXPECT.bounds("lives of an op too far", () -> x.lives(0, 9));
    }

    private static void channelsAhead() {
        Lineartide x = steps(GIVES, 0, 1, GETS, 1, 2, PICKS, 0, 3, OFFERS, 0, 4, ENDS, 0, 0);
        add(x, 0, MAKE, 0, 0, SEND, 0, 0, TAKE, 0, 1, PICK, 0, 1, WAIT, 0, 6, JUMP, 0, 1);
        int[] left = {0, 0, 1, 2, 3, 0, 4};
        for (int i = 0; i < left.length; i++) {
            EXPECT.due("left ahead of op " + i, left[i], x.at(0, i, 0));
        }
        fine("the left process", x);
        add(x, 1, TAKE, 0, 0, MAKE, 1, 1, SEND, 0, 1, WAIT, 0, 5, JUMP, 0, 0, PICK, 0, 1);
        int[] right = {0, 1, 1, 2, 0, 3, 4};
        for (int i = 0; i < right.length; i++) {
            EXPECT.due("right ahead of op " + i, right[i], x.at(1, i, 0));
        }
        EXPECT.due("the right process", 0, x.error(1));
        EXPECT.due("none of the process", -1, x.at(2, 0, 0));
        EXPECT.bounds("a channel that is not there", () -> x.at(0, 0, 1));
        EXPECT.bounds("a channel -1", () -> x.at(0, 0, -1));
        EXPECT.bounds("an op -1", () -> x.at(0, -1, 0));
        EXPECT.bounds("an op too far", () -> x.at(0, 7, 0));
        EXPECT.bounds("no process", () -> x.at(3, 0, 0));
        Lineartide y = add(steps(GIVES, 0, 1, ENDS, 0, 0), 0, MAKE, 0, 0, MAYBE, 0, 3, SEND, 0, 0, MAKE, 0, 0, TAKE, 0, 1, STOP, 0, 0, STOP, 0, 0);
        EXPECT.due("unlike steps", -2, y.at(0, 3, 0));
        EXPECT.due("stays unlike", -2, y.at(0, 5, 0));
        EXPECT.due("TAKE of a channel that is unlike", 5, y.holds(0, 5, 1));
        EXPECT.due("cannot be come to", -1, y.at(0, 6, 0));
        error("a channel is unlike", y, 3, Lineartide.UNLIKE);
        Lineartide z = add(steps(GIVES, 0, 1, ENDS, 0, 0), 0, MAKE, 0, 1, TAKE, 0, 1, PICK, 0, 1, WAIT, 0, 5, MAKE, 5, 0, SEND, 0, 0);
        for (int i = 0; i <= 5; i++) {
            EXPECT.due("stays where ops do not fit", 0, z.at(0, i, 0));
        }
        EXPECT.due("goes on by SEND of another kind", 1, z.at(0, 6, 0));
    }

    private static void plainErrors() {
        error("READ of nothing", ops(READ, 0, 0), 0, Lineartide.EMPTY);
        error("MOVE of nothing to itself", ops(MOVE, 0, 0), 0, Lineartide.EMPTY);
        error("SHARE of 4", ops(MAYBE, 0, 2, MAKE, 0, 1, SHARE, 1, 0), 2, Lineartide.EMPTY);
        error("the first error counts", ops(MAKE, 0, 0, READ, 1, 0, READ, 2, 0), 1, Lineartide.EMPTY);
        error("5 anywhere", ops(MAYBE, 0, 2, MAKE, 0, 2, READ, 3, 0), 2, Lineartide.UNLIKE);
        error("5 at STOP", ops(MAYBE, 0, 2, MAKE, 0, 2, STOP, 0, 0), 2, Lineartide.UNLIKE);
        error("KEPT at STOP", ops(MAKE, 0, 2, STOP, 0, 0), 1, Lineartide.KEPT);
        error("KEPT at the end", ops(MAKE, 5, 2), 1, Lineartide.KEPT);
        fine("MANY and AFFINE may be kept", ops(MAKE, 0, 0, MAKE, 1, 1));
        error("FULL by MAKE", ops(MAKE, 0, 2, MAKE, 0, 0), 1, Lineartide.FULL);
        error("FULL by MOVE", ops(MAKE, 0, 2, MAKE, 1, 0, MOVE, 0, 1), 2, Lineartide.FULL);
        error("FULL by SHARE", ops(MAKE, 0, 2, MAKE, 1, 0, SHARE, 0, 1), 2, Lineartide.FULL);
        error("FULL by LEND", ops(MAKE, 0, 2, MAKE, 1, 0, LEND, 0, 1), 2, Lineartide.FULL);
        error("FULL by TAKE", ops(MAKE, 0, 2, TAKE, 0, 0), 1, Lineartide.FULL);
        fine("not FULL by itself", ops(MAKE, 0, 2, MOVE, 0, 0, FREE, 0, 0));
        fine("AFFINE and MANY may go", ops(MAKE, 0, 1, MAKE, 0, 0, MAKE, 0, 1));
        for (int lend = SHARE; lend <= LEND; lend++) {
            error("FREE of a borrow", ops(MAKE, 0, 1, lend, 1, 0, FREE, 1, 0), 2, Lineartide.KIND);
            error("LEND of a borrow", ops(MAKE, 0, 1, lend, 1, 0, LEND, 2, 1), 2, Lineartide.KIND);
            error("SEND of a borrow", ops(MAKE, 0, 1, lend, 1, 0, SEND, 0, 1), 2, Lineartide.KIND);
            fine("READ of a borrow", ops(MAKE, 0, 1, lend, 1, 0, READ, 1, 0));
            fine("MOVE of a borrow", ops(MAKE, 0, 1, lend, 1, 0, MOVE, 2, 1, READ, 2, 0));
        }
        error("WRITE of what is shared", ops(MAKE, 0, 1, SHARE, 1, 0, WRITE, 1, 0), 2, Lineartide.KIND);
        fine("WRITE of what is lent", ops(MAKE, 0, 1, LEND, 1, 0, WRITE, 1, 0));
        error("SHARE of what is lent", ops(MAKE, 0, 1, LEND, 1, 0, SHARE, 2, 1), 2, Lineartide.KIND);
        fine("SHARE of what is shared", ops(MAKE, 0, 1, SHARE, 1, 0, SHARE, 2, 1, READ, 1, 0, READ, 2, 0));
        error("KIND comes ahead of FULL", ops(MAKE, 0, 1, MAKE, 2, 2, SHARE, 1, 0, LEND, 2, 1), 3, Lineartide.KIND);
        error("FULL comes ahead of BORROWED", ops(MAKE, 0, 2, SHARE, 1, 0, MAKE, 0, 0, READ, 1, 0), 2, Lineartide.FULL);
        error("EMPTY comes ahead of FULL", ops(MAKE, 0, 2, MOVE, 0, 1), 1, Lineartide.EMPTY);
    }

    private static void sessionErrors() {
        int[][] talks = {{SEND, GIVES, 1}, {TAKE, GETS, 1}, {PICK, PICKS, 1}, {WAIT, OFFERS, 2}};
        for (int[] talk : talks) {
            for (int step = GIVES; step <= ENDS; step++) {
                Lineartide x = add(steps(step, 1, 1, ENDS, 0, 0), 0, MAKE, 1, 1, talk[0], 0, talk[2]);
                int want = step == talk[1] ? 0 : Lineartide.SESSION;
                EXPECT.due("op " + talk[0] + " at step " + step, want, x.error(0));
                EXPECT.due("op " + talk[0] + " at step " + step, want == 0 ? -1 : 1, x.check(0));
            }
            error("no such channel", ops(MAKE, 1, 1, talk[0], 0, talk[2]), 1, Lineartide.SESSION);
            Lineartide y = new Lineartide();
            y.step(0, talk[1], 1, 1);
            y.step(0, ENDS, 0, 0);
            y.channel(0, 1, 2);
            error("a channel of others", add(y, 0, MAKE, 1, 1, talk[0], 0, talk[2]), 1, Lineartide.SESSION);
        }
        error("OPEN at the beginning", steps(GIVES, 0, 1, ENDS, 0, 0), 0, Lineartide.OPEN);
        fine("at ENDS", steps(ENDS, 0, 0));
        Lineartide x = add(steps(GIVES, 0, 1, ENDS, 0, 0), 0, MAKE, 0, 2, STOP, 0, 0);
        error("KEPT comes ahead of OPEN", x, 1, Lineartide.KEPT);
        error("OPEN at STOP", add(steps(GIVES, 0, 1, ENDS, 0, 0), 0, STOP, 0, 0), 0, Lineartide.OPEN);
        for (int kind = 0; kind < 3; kind++) {
            for (int sent = 0; sent < 3; sent++) {
                Lineartide y = add(steps(GIVES, kind, 1, ENDS, 0, 0), 0, MAKE, 0, sent, SEND, 0, 0);
                EXPECT.due("SEND of " + sent + " at " + kind, sent == kind ? 0 : Lineartide.KIND, y.error(0));
            }
        }
        error("SEND of a kind where nothing is given", add(steps(GETS, 0, 1, ENDS, 0, 0), 0, MAKE, 0, 1, SEND, 0, 0), 1, Lineartide.SESSION);
        error("BORROWED comes ahead of SESSION", ops(MAKE, 0, 1, SHARE, 1, 0, SEND, 0, 0, READ, 1, 0), 2, Lineartide.BORROWED);
        Lineartide two = add(steps(PICKS, 1, 1, ENDS, 0, 0), 0, PICK, 0, 0, PICK, 0, 0);
        error("once too often", two, 1, Lineartide.SESSION);
    }

    private static void borrowedTargets() {
        borrowed("MAKE over what is shared", ops(MAKE, 0, 1, SHARE, 1, 0, MAKE, 0, 1, READ, 1, 0), 2, 1);
        borrowed("MAKE over what is lent", ops(MAKE, 0, 1, LEND, 1, 0, MAKE, 0, 1, READ, 1, 0), 2, 1);
        fine("MAKE over what is shared no more", ops(MAKE, 0, 1, SHARE, 1, 0, READ, 1, 0, MAKE, 0, 1));
        borrowed("TAKE over what is shared", add(steps(GETS, 0, 1, ENDS, 0, 0), 0, MAKE, 0, 1, SHARE, 1, 0, TAKE, 0, 0, READ, 1, 0), 2, 1);
        borrowed("the used one has the target lent", ops(MAKE, 0, 1, LEND, 1, 0, MOVE, 0, 1), 2, 1);
        borrowed("the used one shares the target", ops(MAKE, 0, 1, SHARE, 1, 0, SHARE, 0, 1), 2, 1);
        fine("a target that is nothing", ops(MAKE, 0, 1, SHARE, 1, 0, FREE, 0, 0, MAKE, 0, 1));
        error("a target that is nothing by now", ops(MAKE, 0, 1, SHARE, 1, 0, MOVE, 2, 0, MAKE, 0, 1, READ, 1, 0), 2, Lineartide.BORROWED);
        EXPECT.due("lowest one", 1, ops(MAKE, 3, 1, SHARE, 2, 3, SHARE, 1, 3, MAKE, 3, 1, READ, 2, 0, READ, 1, 0).borrower(0));
        EXPECT.due("lowest one that lives", 2, ops(MAKE, 3, 1, SHARE, 2, 3, SHARE, 1, 3, MAKE, 3, 1, READ, 2, 0).borrower(0));
        borrowed("those of the target first", ops(MAKE, 0, 1, MAKE, 1, 1, LEND, 2, 0, LEND, 3, 1, SHARE, 1, 0, READ, 2, 0, READ, 3, 0), 4, 3);
        borrowed("then those of the used one", ops(MAKE, 0, 1, MAKE, 1, 1, LEND, 2, 0, LEND, 3, 1, SHARE, 1, 0, READ, 2, 0), 4, 2);
        fine("its own target does not count", ops(MAKE, 0, 1, LEND, 1, 0, LEND, 1, 0, READ, 1, 0));
        fine("a loan that is shared over", ops(MAKE, 0, 1, LEND, 1, 0, SHARE, 1, 0, READ, 1, 0));
        borrowed("lives by a loop", ops(MAKE, 0, 0, SHARE, 1, 0, READ, 1, 0, MAKE, 0, 0, MAYBE, 0, 2), 3, 1);
        // 1 shares what 0 owned; by now 0 is a share of what 2 owns, and is not nothing
        Lineartide x = ops(MAKE, 0, 0, MAKE, 2, 0, SHARE, 1, 0, SHARE, 0, 2, MAKE, 0, 0, READ, 1, 0);
        borrowed("the first of two", x, 3, 1);
        EXPECT.due("a share of what has gone", 10, x.holds(0, 5, 1));
    }

    private static void borrowedUsed() {
        int[][] all = {{WRITE, 0, 0}, {FREE, 0, 0}, {LEND, 2, 0}, {MOVE, 2, 0}};
        for (int[] o : all) {
            borrowed("op " + o[0] + " of AFFINE, shared", ops(MAKE, 0, 1, SHARE, 1, 0, o[0], o[1], o[2], READ, 1, 0), 2, 1);
            borrowed("op " + o[0] + " of AFFINE, lent", ops(MAKE, 0, 1, LEND, 1, 0, o[0], o[1], o[2], READ, 1, 0), 2, 1);
            fine("op " + o[0] + " of AFFINE, shared no more", ops(MAKE, 0, 1, SHARE, 1, 0, READ, 1, 0, o[0], o[1], o[2]));
        }
        int[][] mild = {{READ, 0, 0}, {SHARE, 2, 0}, {MOVE, 2, 0}};
        for (int[] o : mild) {
            fine("op " + o[0] + " of MANY, shared", ops(MAKE, 0, 0, SHARE, 1, 0, o[0], o[1], o[2], READ, 1, 0));
            borrowed("op " + o[0] + " of MANY, lent", ops(MAKE, 0, 0, LEND, 1, 0, o[0], o[1], o[2], READ, 1, 0), 2, 1);
        }
        fine("SEND of MANY, shared", add(steps(GIVES, 0, 1, ENDS, 0, 0), 0, MAKE, 0, 0, SHARE, 1, 0, SEND, 0, 0, READ, 1, 0));
        borrowed("SEND of MANY, lent", add(steps(GIVES, 0, 1, ENDS, 0, 0), 0, MAKE, 0, 0, LEND, 1, 0, SEND, 0, 0, READ, 1, 0), 2, 1);
        borrowed("SEND of AFFINE, shared", add(steps(GIVES, 1, 1, ENDS, 0, 0), 0, MAKE, 0, 1, SHARE, 1, 0, SEND, 0, 0, READ, 1, 0), 2, 1);
        borrowed("MOVE to itself of AFFINE, shared", ops(MAKE, 0, 1, SHARE, 1, 0, MOVE, 0, 0, READ, 1, 0), 2, 1);
        fine("MOVE to itself of MANY, shared", ops(MAKE, 0, 0, SHARE, 1, 0, MOVE, 0, 0, READ, 1, 0));
        borrowed("MOVE to itself of MANY, lent", ops(MAKE, 0, 0, LEND, 1, 0, MOVE, 0, 0, READ, 1, 0), 2, 1);
        fine("READ of the loan itself", ops(MAKE, 0, 1, LEND, 1, 0, READ, 1, 0, WRITE, 1, 0, READ, 0, 0));
        borrowed("a moved loan", ops(MAKE, 0, 1, LEND, 1, 0, MOVE, 2, 1, WRITE, 0, 0, READ, 2, 0), 3, 2);
        // the op 1 is come to behind the op 7, where 0 became a share: what it owned is lent to 1 all the same
        int[] late = {JUMP, 0, 4, READ, 0, 0, READ, 1, 0, STOP, 0, 0, MAKE, 0, 0, LEND, 1, 0, MAKE, 2, 0, SHARE, 0, 2, JUMP, 0, 1};
        borrowed("a used one that is shared stands in nobody's way", ops(late), 7, 1);
        late[21] = LEND;
        borrowed("nor one that is lent", ops(late), 7, 1);
        borrowed("a loan in a loop", ops(MAKE, 0, 1, LEND, 1, 0, WRITE, 1, 0, READ, 0, 0, MAYBE, 0, 2), 3, 1);
        for (int process : new int[] {-1, 3, Integer.MIN_VALUE}) {
            EXPECT.bounds("borrower of no process", () -> ops(MAKE, 0, 0).borrower(process));
        }
    }

    private static void changesAreSeen() {
        Lineartide x = ops(MAKE, 0, 2);
        error("KEPT", x, 1, Lineartide.KEPT);
        x.op(0, FREE, 0, 0);
        fine("freed", x);
        x.unop(0);
        error("KEPT again", x, 1, Lineartide.KEPT);
        x.unop(0);
        x.step(0, GIVES, 0, 0);
        fine("no channel yet", x);
        x.channel(0, 2, 0);
        error("a channel that is open", x, 0, Lineartide.OPEN);
        EXPECT.due("of the other process too", Lineartide.OPEN, x.error(2));
        EXPECT.due("but not of the third", 0, x.error(1));
        x.step(1, GIVES, 0, 0);
        x.op(1, READ, 0, 0);
        EXPECT.due("an error ahead of the channel's", Lineartide.EMPTY, x.error(1));
        x.unop(1);
        EXPECT.due("right", 0, x.error(1));
        x.channel(1, 1, 2);
        EXPECT.due("the left one of a channel is found anew", Lineartide.OPEN, x.error(1));
    }

    public static void main(String[] args) {
        whatOpsChange();
        waysComeTogether();
        loopsAndReach();
        lives();
        channelsAhead();
        plainErrors();
        sessionErrors();
        borrowedTargets();
        borrowedUsed();
        changesAreSeen();
        EXPECT.end();
    }
}

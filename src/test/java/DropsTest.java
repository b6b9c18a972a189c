/** Promises 21 to 23: which values were made and dropped, and in which order. */
public final class DropsTest {
    private static final Expect EXPECT = new Expect();
    private static final int MAKE = Lineartide.MAKE, MOVE = Lineartide.MOVE, FREE = Lineartide.FREE, READ = Lineartide.READ,
        SHARE = Lineartide.SHARE, LEND = Lineartide.LEND, SEND = Lineartide.SEND, TAKE = Lineartide.TAKE, PICK = Lineartide.PICK,
        WAIT = Lineartide.WAIT, JUMP = Lineartide.JUMP, STOP = Lineartide.STOP;
    private static final int GIVES = Lineartide.GIVES, GETS = Lineartide.GETS, PICKS = Lineartide.PICKS, ENDS = Lineartide.ENDS;

    private static Lineartide add(Lineartide x, int process, int... ops) {
        for (int i = 0; i + 2 < ops.length; i += 3) {
            x.op(process, ops[i], ops[i + 1], ops[i + 2]);
        }
        return x;
    }

    private static void dropped(String what, Lineartide x, int made, int... drops) {
        EXPECT.due(what + ": made", made, x.made());
        EXPECT.due(what + ": drops", drops.length, x.drops());
        for (int i = 0; i < drops.length && i < x.drops(); i++) {
            EXPECT.due(what + ": dropped " + i, drops[i], x.dropped(i));
        }
        for (int place : new int[] {-1, drops.length, 200, Integer.MIN_VALUE, Integer.MAX_VALUE}) {
            EXPECT.bounds(what + ": dropped " + place, () -> x.dropped(place));
        }
    }

    /** Process 0 does these ops, and ends. */
    private static Lineartide done(int... ops) {
        Lineartide x = add(new Lineartide(), 0, ops);
        x.begin();
        for (int i = 0; i <= ops.length / 3; i++) {
            if (x.state(0) == Lineartide.RUNNING) {
                x.go(0, false);
            }
        }
        return x;
    }

    private static void ends() {
        dropped("AFFINE at the end, the latest first", done(MAKE, 2, 1, MAKE, 0, 1, MAKE, 1, 1, MAKE, 4, 0), 4, 2, 1, 0);
        dropped("MOVE gets anew", done(MAKE, 0, 1, MAKE, 1, 1, MOVE, 2, 0), 2, 0, 1);
        dropped("MOVE to itself does not", done(MAKE, 0, 1, MAKE, 1, 1, MOVE, 0, 0), 2, 1, 0);
        dropped("WRITE does not", done(MAKE, 0, 1, MAKE, 1, 1, Lineartide.WRITE, 0, 0), 2, 1, 0);
        dropped("shares and loans are not owned", done(MAKE, 0, 1, SHARE, 1, 0, LEND, 2, 0), 1, 0);
        dropped("STOP", done(MAKE, 0, 1, STOP, 0, 0), 1, 0);
        dropped("MANY goes untold", done(MAKE, 0, 0, MAKE, 0, 0), 2);
        Lineartide x = done(MAKE, 0, 0, MAKE, 1, 1);
        EXPECT.due("MANY stays in its variable", 0, x.value(0, 0));
        EXPECT.due("AFFINE does not", -1, x.value(0, 1));
    }

    private static void deaths() {
        dropped("all at death, the latest first", done(MAKE, 1, 0, MAKE, 0, 1, MAKE, 2, 2, READ, 5, 0), 3, 2, 1, 0);
        dropped("copies too", done(MAKE, 0, 0, MOVE, 1, 0, READ, 5, 0), 2, 1, 0);
        dropped("moved ones anew", done(MAKE, 0, 2, MAKE, 1, 0, MOVE, 2, 0, READ, 5, 0), 2, 0, 1);
        dropped("KEPT", done(MAKE, 0, 2, MAKE, 1, 1), 2, 1, 0);
        dropped("an op that is wrong is not done", done(MAKE, 0, 2, MAKE, 0, 1), 1, 0);
        Lineartide x = done(MAKE, 0, 0, SHARE, 1, 0, READ, 5, 0);
        EXPECT.due("the owner has nothing then", -1, x.value(0, 0));
    }

    private static void goes() {
        dropped("FREE of any kind", done(MAKE, 0, 0, MAKE, 1, 1, MAKE, 2, 2, FREE, 2, 0, FREE, 0, 0, FREE, 1, 0), 3, 2, 0, 1);
        dropped("AFFINE made over", done(MAKE, 0, 1, MAKE, 0, 0), 2, 0);
        dropped("AFFINE moved over", done(MAKE, 0, 1, MAKE, 1, 1, MOVE, 0, 1), 2, 0, 1);
        dropped("AFFINE shared over", done(MAKE, 0, 1, MAKE, 1, 0, SHARE, 0, 1), 2, 0);
        dropped("AFFINE lent over", done(MAKE, 0, 1, MAKE, 1, 0, LEND, 0, 1), 2, 0);
        dropped("MANY made over", done(MAKE, 0, 0, MAKE, 0, 1), 2, 1);
        dropped("a share made over", done(MAKE, 0, 1, SHARE, 1, 0, MAKE, 1, 0), 2, 0);
        dropped("MOVE to itself drops nothing", done(MAKE, 0, 1, MOVE, 0, 0, FREE, 0, 0), 1, 0);
        dropped("MOVE to itself copies nothing", done(MAKE, 0, 0, MOVE, 0, 0), 1);
    }

    private static void takenOver() {
        Lineartide x = new Lineartide();
        x.step(0, GETS, 0, 1);
        x.step(0, ENDS, 0, 0);
        x.channel(0, 0, 1);
        add(x, 0, MAKE, 0, 1, TAKE, 0, 0);
        add(x, 1, MAKE, 0, 0, SEND, 0, 0);
        x.begin();
        x.go(0, false);
        x.go(1, false);
        x.go(1, false);
        dropped("ahead of TAKE", x, 3);
        x.go(0, false);
        dropped("AFFINE taken over", x, 3, 0);
        EXPECT.due("by the copy", 2, x.value(0, 0));
    }

    /** The dead one's own values, then what waits for it by channels; and what is sent to it later on. */
    private static void waiting() {
        Lineartide x = new Lineartide();
        x.step(0, GIVES, 1, 1);
        x.step(0, GIVES, 0, 2);
        x.step(0, GIVES, 2, 3);
        x.step(0, GIVES, 0, 4);
        x.step(0, ENDS, 0, 0);
        x.step(1, PICKS, 1, 1);
        x.step(1, GIVES, 2, 2);
        x.step(1, ENDS, 0, 0);
        x.channel(1, 2, 1);
        x.channel(0, 0, 1);
        add(x, 0, MAKE, 0, 1, MAKE, 1, 0, MAKE, 2, 2, SEND, 1, 0, SEND, 1, 1, SEND, 1, 2, SEND, 1, 1);
        add(x, 1, MAKE, 3, 0, MAKE, 4, 2, MAKE, 3, 1, FREE, 5, 0);
        add(x, 2, MAKE, 5, 2, PICK, 0, 1, SEND, 0, 5);
        x.begin();
        for (int i = 0; i < 5; i++) {
            x.go(0, false);
        }
        for (int i = 0; i < 3; i++) {
            x.go(1, false);
            x.go(2, false);
        }
        EXPECT.due("two wait at the channel 0", 2, x.waiting(1, 0));
        EXPECT.due("two wait at the channel 1", 2, x.waiting(1, 1));
        // 0, 1, 2 were made by process 0, 3 is the copy that it sent; then in turn 4, 6, 7 of process 1 and 5 of process 2
        dropped("alive", x, 8);
        x.go(1, false);
        dropped("dead", x, 8, 7, 6, 5, 0, 3);
        EXPECT.due("nothing waits at the channel 0", 0, x.waiting(1, 0));
        EXPECT.due("nothing waits at the channel 1", 0, x.waiting(1, 1));
        x.go(0, false);
        dropped("LINEAR sent to the dead", x, 8, 7, 6, 5, 0, 3, 2);
        EXPECT.due("and is away", -1, x.value(0, 2));
        x.go(0, false);
        dropped("a copy sent to the dead", x, 9, 7, 6, 5, 0, 3, 2, 8);
        EXPECT.due("nothing waits", 0, x.waiting(1, 1));
        x.go(0, false);
        EXPECT.due("done", Lineartide.DONE, x.state(0));
        dropped("MANY is kept", x, 9, 7, 6, 5, 0, 3, 2, 8);
    }

    private static void theFirst200() {
        Lineartide x = add(new Lineartide(), 0, MAKE, 0, 1, FREE, 0, 0, JUMP, 0, 0);
        x.begin();
        x.go(1, false);
        x.go(2, false);
        for (int i = 0; i < 3; i++) {
            EXPECT.due("200 ops", 200, x.run(i, 200));
        }
        EXPECT.due("600 ops make", 200, x.made());
        EXPECT.due("and drop", 200, x.drops());
        EXPECT.due("200 ops", 200, x.run(1, 200));
        EXPECT.due("more are made", 267, x.made());
        EXPECT.due("but not told", 200, x.drops());
        for (int i = 0; i < 200; i++) {
            EXPECT.due("dropped " + i, i, x.dropped(i));
        }
        EXPECT.bounds("dropped 200", () -> x.dropped(200));
        x.begin();
        EXPECT.due("none in a new run", 0, x.drops());
    }

    private static void latestRun() {
        Lineartide x = done(MAKE, 0, 0, MAKE, 1, 1, MAKE, 1, 1);
        dropped("a run", x, 3, 1, 2);
        x.op(0, STOP, 0, 0);
        dropped("a run that is over", x, 3, 1, 2);
        x.unop(0);
        x.step(0, ENDS, 0, 0);
        x.channel(0, 0, 1);
        dropped("over by a channel", x, 3, 1, 2);
        x.begin();
        dropped("a new run", x, 0);
        x.go(0, false);
        dropped("its first value", x, 1);
    }

    public static void main(String[] args) {
        ends();
        deaths();
        goes();
        takenOver();
        waiting();
        theFirst200();
        latestRun();
        EXPECT.end();
    }
}

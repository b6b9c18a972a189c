/** Promise 12: whether processes can be stuck, over all schedules. */
public final class StuckTest {
    private static final Expect EXPECT = new Expect();
    private static final int MAKE = Lineartide.MAKE, SEND = Lineartide.SEND, TAKE = Lineartide.TAKE, PICK = Lineartide.PICK,
        WAIT = Lineartide.WAIT, MAYBE = Lineartide.MAYBE, JUMP = Lineartide.JUMP, STOP = Lineartide.STOP, READ = Lineartide.READ;
    private static final int GIVES = Lineartide.GIVES, GETS = Lineartide.GETS, PICKS = Lineartide.PICKS, ENDS = Lineartide.ENDS;

    private static void add(Lineartide x, int process, int... ops) {
        for (int i = 0; i + 2 < ops.length; i += 3) {
            x.op(process, ops[i], ops[i + 1], ops[i + 2]);
        }
    }

    private static void steps(Lineartide x, int protocol, int... steps) {
        for (int i = 0; i + 2 < steps.length; i += 3) {
            x.step(protocol, steps[i], steps[i + 1], steps[i + 2]);
        }
    }

    /** Processes of so many ops each, which do nothing with one another: each has two more places, at the end and ended. */
    private static Lineartide alone(int... counts) {
        Lineartide x = new Lineartide();
        for (int p = 0; p < counts.length; p++) {
            for (int i = 0; i < counts[p]; i++) {
                x.op(p, MAKE, 0, 0);
            }
        }
        return x;
    }

    private static void howManyLayouts() {
        EXPECT.due("8 layouts", 0, alone(0, 0, 0).stuck());
        EXPECT.due("1000 layouts", 0, alone(8, 8, 8).stuck());
        EXPECT.due("1001 layouts", -1, alone(5, 9, 11).stuck());
        EXPECT.due("990 layouts", 0, alone(7, 8, 9).stuck());
        EXPECT.due("1100 layouts", -1, alone(8, 8, 9).stuck());
        Lineartide x = alone(8, 8, 7);
        x.op(2, STOP, 0, 0);
        EXPECT.due("STOP is one place for ending: 900 layouts", 0, x.stuck());
        x.op(2, MAKE, 0, 0);
        EXPECT.due("what cannot be come to is no layout", 0, x.stuck());
        Lineartide y = alone(8, 8, 7);
        y.op(2, JUMP, 0, 15);
        EXPECT.due("JUMP is a step of its own: 1000 layouts", 0, y.stuck());
        y.op(2, READ, 0, 0);
        EXPECT.due("and still", 0, y.stuck());
    }

    private static void loopsOfLayouts() {
        for (int more = 0; more < 2; more++) {
            Lineartide x = alone(9, 8, 8 + more);
            x.op(0, JUMP, 0, 0);
            EXPECT.due("a loop back to the first of " + (1000 + 100 * more) + " layouts", -more, x.stuck());
        }
    }

    /** A process 0 that sends a value of this kind as often as told, by a loop, and a process 1 that takes it. */
    private static void rounds() {
        Lineartide x = new Lineartide();
        steps(x, 0, GIVES, 0, 0);
        x.channel(0, 0, 1);
        add(x, 0, MAKE, 0, 0, SEND, 0, 0, JUMP, 0, 1);
        add(x, 1, TAKE, 0, 0, JUMP, 0, 0);
        EXPECT.due("a loop that never ends is not stuck", 0, x.stuck());
        Lineartide y = new Lineartide();
        add(y, 0, JUMP, 0, 0);
        EXPECT.due("a loop alone is not stuck", 0, y.stuck());
    }

    private static void twoThatWait() {
        Lineartide x = new Lineartide();
        steps(x, 0, GETS, 0, 1, ENDS, 0, 0);
        steps(x, 1, GIVES, 0, 1, ENDS, 0, 0);
        x.channel(0, 0, 1);
        x.channel(1, 0, 1);
        add(x, 0, TAKE, 0, 0, SEND, 1, 0);
        add(x, 1, TAKE, 1, 0, SEND, 0, 0);
        EXPECT.due("both wait for a message", 1, x.stuck());
        add(x, 2, MAKE, 0, 0, MAKE, 0, 0, JUMP, 0, 0);
        EXPECT.due("not stuck while the third goes on", 0, x.stuck());
        x.unop(2);
        EXPECT.due("stuck when the third has ended", 1, x.stuck());
        for (int i = 0; i < 14; i++) {
            x.op(2, MAKE, 0, 0);
        }
        EXPECT.due("stuck with 18 layouts", 1, x.stuck());
    }

    private static void tooManyAndStuck() {
        Lineartide x = new Lineartide();
        steps(x, 0, GETS, 0, 1, ENDS, 0, 0);
        steps(x, 1, GIVES, 0, 1, ENDS, 0, 0);
        x.channel(0, 0, 1);
        x.channel(1, 0, 1);
        for (int i = 0; i < 8; i++) {
            x.op(0, MAKE, 0, 0);
            x.op(1, MAKE, 0, 0);
        }
        add(x, 0, TAKE, 0, 0, SEND, 1, 0);
        add(x, 1, TAKE, 1, 0, SEND, 0, 0);
        EXPECT.due("81 places and the third's 2", 1, x.stuck());
        for (int i = 0; i < 10; i++) {
            x.op(2, MAKE, 0, 0);
        }
        EXPECT.due("972 layouts", 1, x.stuck());
        x.op(2, MAKE, 0, 0);
        EXPECT.due("1053 layouts, one of them stuck", -1, x.stuck());
    }

    /** Two channels; the process 0 sends all over the first one ahead of what the process 1 wants first. */
    private static Lineartide crossing(int messages) {
        Lineartide x = new Lineartide();
        for (int i = 0; i < messages; i++) {
            x.step(0, GIVES, 0, i + 1);
        }
        x.step(0, ENDS, 0, 0);
        steps(x, 1, GIVES, 0, 1, ENDS, 0, 0);
        x.channel(0, 0, 1);
        x.channel(1, 0, 1);
        add(x, 0, MAKE, 0, 0);
        for (int i = 0; i < messages; i++) {
            x.op(0, SEND, 0, 0);
        }
        add(x, 0, SEND, 1, 0);
        add(x, 1, TAKE, 1, 0);
        for (int i = 0; i < messages; i++) {
            x.op(1, TAKE, 0, 0);
        }
        return x;
    }

    private static void room() {
        EXPECT.due("room for one", 0, crossing(1).stuck());
        EXPECT.due("room for two", 0, crossing(2).stuck());
        EXPECT.due("no room for a third", 1, crossing(3).stuck());
        Lineartide x = new Lineartide();
        steps(x, 0, PICKS, 1, 1, PICKS, 2, 2, PICKS, 3, 3, ENDS, 0, 0);
        steps(x, 1, GIVES, 0, 1, ENDS, 0, 0);
        x.channel(0, 0, 1);
        x.channel(1, 0, 1);
        add(x, 0, MAKE, 0, 0, PICK, 0, 0, PICK, 0, 1, PICK, 0, 0, SEND, 1, 0);
        add(x, 1, TAKE, 1, 0, WAIT, 0, 2, WAIT, 0, 3, WAIT, 0, 4);
        EXPECT.due("PICK waits for room", 1, x.stuck());
        Lineartide y = new Lineartide();
        steps(y, 0, PICKS, 1, 1, PICKS, 2, 2, ENDS, 0, 0);
        steps(y, 1, GIVES, 0, 1, ENDS, 0, 0);
        y.channel(0, 0, 1);
        y.channel(1, 0, 1);
        add(y, 0, MAKE, 0, 0, PICK, 0, 0, PICK, 0, 1, SEND, 1, 0);
        add(y, 1, TAKE, 1, 0, WAIT, 0, 2, WAIT, 0, 3);
        EXPECT.due("PICK has room for two", 0, y.stuck());
    }

    /** Only by one way of MAYBE, and by the way that is picked then, do both wait. */
    private static void ways() {
        for (int way = 0; way < 2; way++) {
            Lineartide x = new Lineartide();
            steps(x, 0, PICKS, 1, 1, ENDS, 0, 0);
            steps(x, 1, GIVES, 0, 1, GETS, 0, 2, ENDS, 0, 0);
            steps(x, 2, GETS, 0, 1, ENDS, 0, 0);
            x.channel(0, 0, 1);
            x.channel(2, 0, 1);
            x.channel(2, 1, 0);
            // by the way 0 each sends ahead of taking, by the way 1 each takes ahead of sending
            add(x, 0, MAYBE, 0, 5, PICK, 0, 0, MAKE, 0, 0, SEND, 2, 0, JUMP, 0, 8, PICK, 0, way, TAKE, 1, 0, JUMP, 0, 10,
                TAKE, 1, 0, STOP, 0, 0, SEND, 2, 0);
            add(x, 1, WAIT, 0, 5, MAKE, 0, 0, SEND, 1, 0, TAKE, 2, 0, STOP, 0, 0, TAKE, 2, 0, SEND, 1, 0);
            EXPECT.due("stuck by the way " + way, way, x.stuck());
        }
    }

    private static void errors() {
        for (int p = 0; p < 3; p++) {
            Lineartide x = new Lineartide();
            x.op(p, READ, 0, 0);
            EXPECT.state("an error of process " + p, x::stuck);
            x.unop(p);
            EXPECT.due("none any more", 0, x.stuck());
        }
    }

    private static void runsDoNotMatter() {
        Lineartide x = crossing(3);
        x.begin();
        x.run(1, 200);
        EXPECT.due("stuck by now", 0, x.run(1, 1));
        EXPECT.due("stuck in general", 1, x.stuck());
        EXPECT.due("and the run is as it was", Lineartide.RUNNING, x.state(0));
    }

    public static void main(String[] args) {
        howManyLayouts();
        loopsOfLayouts();
        rounds();
        twoThatWait();
        tooManyAndStuck();
        room();
        ways();
        errors();
        runsDoNotMatter();
        EXPECT.end();
    }
}

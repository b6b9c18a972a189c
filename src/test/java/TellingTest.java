/** Promises 1 to 5: what is told, and what is refused. */
public final class TellingTest {
    private static final Expect EXPECT = new Expect();
    private static final int[] OUTSIDE = {-1, 3, Integer.MIN_VALUE, Integer.MAX_VALUE};

    private static void newObject() {
        Lineartide x = new Lineartide();
        for (int p = 0; p < 3; p++) {
            int q = p;
            EXPECT.due("check of no ops", -1, x.check(q));
            EXPECT.due("error of no ops", 0, x.error(q));
            EXPECT.state("borrower of no ops", () -> x.borrower(q));
            EXPECT.due("lives of no ops", 0, x.lives(q, 0));
            EXPECT.bounds("lives behind the end", () -> x.lives(q, 1));
            EXPECT.bounds("at of no channel", () -> x.at(q, 0, 0));
            EXPECT.state("unop of no ops", () -> x.unop(q));
            EXPECT.state("go without a run", () -> x.go(q, true) ? 1 : 0);
            EXPECT.state("state without a run", () -> x.state(q));
            EXPECT.state("fault without a run", () -> x.fault(q));
            EXPECT.state("place without a run", () -> x.place(q));
            for (int v = 0; v < 6; v++) {
                int name = v;
                EXPECT.due("holds of no ops", 0, x.holds(q, 0, name));
                EXPECT.state("value without a run", () -> x.value(q, name));
            }
            EXPECT.state("waiting without a run", () -> x.waiting(q, 0));
            EXPECT.state("channel of a protocol without steps", () -> x.channel(q, 0, 1));
        }
        EXPECT.state("run without a run", () -> x.run(1, 1));
        EXPECT.due("stuck of no ops", 0, x.stuck());
        EXPECT.due("made without a run", 0, x.made());
        EXPECT.due("drops without a run", 0, x.drops());
        EXPECT.bounds("dropped without a run", () -> x.dropped(0));
    }

    private static void steps() {
        Lineartide x = new Lineartide();
        for (int protocol : OUTSIDE) {
            EXPECT.bounds("step of no protocol", () -> x.step(protocol, 0, 0, 0));
            EXPECT.bounds("step of no protocol, and no such what", () -> x.step(protocol, 9, 0, 0));
        }
        for (int what : new int[] {-1, 5, Integer.MIN_VALUE, Integer.MAX_VALUE}) {
            EXPECT.argument("step of no such what", () -> x.step(0, what, 0, 0));
        }
        for (int what = Lineartide.GIVES; what <= Lineartide.GETS; what++) {
            int w = what;
            EXPECT.argument("kind -1", () -> x.step(0, w, -1, 0));
            EXPECT.argument("kind 3", () -> x.step(0, w, 3, 0));
            EXPECT.argument("next -1", () -> x.step(0, w, 0, -1));
            EXPECT.argument("next 8", () -> x.step(0, w, 0, 8));
        }
        for (int what = Lineartide.PICKS; what <= Lineartide.OFFERS; what++) {
            int w = what;
            EXPECT.argument("way 0 to -1", () -> x.step(0, w, -1, 0));
            EXPECT.argument("way 0 to 8", () -> x.step(0, w, 8, 0));
            EXPECT.argument("way 1 to -1", () -> x.step(0, w, 0, -1));
            EXPECT.argument("way 1 to 8", () -> x.step(0, w, 0, 8));
        }
        EXPECT.due("GIVES at its edges", 0, x.step(0, Lineartide.GIVES, 2, 7));
        EXPECT.due("GETS at its edges", 1, x.step(0, Lineartide.GETS, 0, 0));
        EXPECT.due("PICKS at its edges", 2, x.step(0, Lineartide.PICKS, 7, 7));
        EXPECT.due("OFFERS at its edges", 3, x.step(0, Lineartide.OFFERS, 0, 7));
        EXPECT.due("ENDS with any a and b", 4, x.step(0, Lineartide.ENDS, -77, Integer.MAX_VALUE));
        EXPECT.due("other protocols count on their own", 0, x.step(1, Lineartide.ENDS, 0, 0));
        EXPECT.due("step 5", 5, x.step(0, Lineartide.ENDS, 0, 0));
        EXPECT.due("step 6", 6, x.step(0, Lineartide.ENDS, 0, 0));
        EXPECT.due("step 7", 7, x.step(0, Lineartide.ENDS, 0, 0));
        EXPECT.state("a step too many", () -> x.step(0, Lineartide.ENDS, 0, 0));
        EXPECT.argument("wrong, and too many", () -> x.step(0, Lineartide.GIVES, 3, 0));
        EXPECT.due("all steps are there to go on with", 0, x.channel(0, 0, 1));
        x.channel(1, 0, 1);
        EXPECT.state("a step of a protocol that a channel has", () -> x.step(1, Lineartide.ENDS, 0, 0));
        EXPECT.due("a step of another one", 0, x.step(2, Lineartide.ENDS, 0, 0));
    }

    private static void stepsLeaveRuns() {
        Lineartide x = new Lineartide();
        x.begin();
        x.step(0, Lineartide.ENDS, 0, 0);
        EXPECT.due("a run goes on behind step", Lineartide.RUNNING, x.state(0));
    }

    private static void channels() {
        Lineartide x = new Lineartide();
        x.step(0, Lineartide.GIVES, 0, 1);
        EXPECT.state("a next step that is missing", () -> x.channel(0, 0, 1));
        EXPECT.due("its next step", 1, x.step(0, Lineartide.OFFERS, 2, 0));
        EXPECT.state("a way 0 that is missing", () -> x.channel(0, 0, 1));
        x.step(0, Lineartide.PICKS, 0, 3);
        EXPECT.state("a way 1 that is missing", () -> x.channel(0, 0, 1));
        x.step(0, Lineartide.ENDS, 7, 7);
        for (int none : OUTSIDE) {
            EXPECT.bounds("channel of no protocol", () -> x.channel(none, 0, 1));
            EXPECT.bounds("channel of no left process", () -> x.channel(0, none, 1));
            EXPECT.bounds("channel of no right process", () -> x.channel(0, 0, none));
            EXPECT.bounds("channel of the same process that is not there", () -> x.channel(0, none, none));
        }
        EXPECT.argument("the same process", () -> x.channel(0, 2, 2));
        EXPECT.argument("the same process, and no steps", () -> x.channel(1, 2, 2));
        EXPECT.state("no steps", () -> x.channel(1, 0, 1));
        x.begin();
        EXPECT.argument("the same process in a run", () -> x.channel(0, 1, 1));
        EXPECT.due("a run goes on behind a refused channel", Lineartide.RUNNING, x.state(0));
        EXPECT.due("the first channel", 0, x.channel(0, 0, 1));
        EXPECT.state("a run is over by a channel", () -> x.state(2));
        EXPECT.due("the second channel", 1, x.channel(0, 1, 0));
        EXPECT.due("the third channel", 2, x.channel(0, 2, 1));
        EXPECT.state("a channel too many", () -> x.channel(0, 2, 1));
        EXPECT.due("the step of a channel", 0, x.at(2, 0, 2));
        EXPECT.due("a channel of others", -1, x.at(2, 0, 1));
    }

    private static void refuse(Lineartide x, int what, int[][] wrong) {
        for (int[] ab : wrong) {
            EXPECT.argument("op " + what + " of " + ab[0] + ", " + ab[1], () -> x.op(0, what, ab[0], ab[1]));
        }
    }

    private static void accept(int what, int[][] right) {
        for (int[] ab : right) {
            EXPECT.due("op " + what + " of " + ab[0] + ", " + ab[1], 0, new Lineartide().op(2, what, ab[0], ab[1]));
        }
    }

    private static void ops() {
        Lineartide x = new Lineartide();
        for (int process : OUTSIDE) {
            EXPECT.bounds("op of no process", () -> x.op(process, 0, 0, 0));
            EXPECT.bounds("op of no process, and wrong", () -> x.op(process, -1, 0, 0));
        }
        for (int what : new int[] {-1, 14, Integer.MIN_VALUE, Integer.MAX_VALUE}) {
            EXPECT.argument("no such op", () -> x.op(0, what, 0, 0));
        }
        int low = Integer.MIN_VALUE;
        int high = Integer.MAX_VALUE;
        refuse(x, Lineartide.MAKE, new int[][] {{-1, 0}, {6, 0}, {0, -1}, {0, 3}, {low, 0}, {0, high}});
        accept(Lineartide.MAKE, new int[][] {{0, 0}, {5, 2}});
        refuse(x, Lineartide.MOVE, new int[][] {{-1, 0}, {6, 0}, {0, -1}, {0, 6}});
        accept(Lineartide.MOVE, new int[][] {{0, 5}, {5, 0}, {3, 3}});
        for (int what = Lineartide.FREE; what <= Lineartide.WRITE; what++) {
            refuse(x, what, new int[][] {{-1, 0}, {6, 0}});
            accept(what, new int[][] {{0, low}, {5, high}});
        }
        for (int what = Lineartide.SHARE; what <= Lineartide.LEND; what++) {
            refuse(x, what, new int[][] {{-1, 0}, {6, 0}, {0, -1}, {0, 6}, {0, 0}, {5, 5}});
            accept(what, new int[][] {{0, 5}, {5, 0}});
        }
        for (int what = Lineartide.SEND; what <= Lineartide.TAKE; what++) {
            refuse(x, what, new int[][] {{-1, 0}, {3, 0}, {0, -1}, {0, 6}});
            accept(what, new int[][] {{0, 5}, {2, 0}, {2, 2}});
        }
        refuse(x, Lineartide.PICK, new int[][] {{-1, 0}, {3, 0}, {0, -1}, {0, 2}});
        accept(Lineartide.PICK, new int[][] {{0, 1}, {2, 0}});
        refuse(x, Lineartide.WAIT, new int[][] {{-1, 0}, {3, 0}, {0, -1}, {0, 16}});
        accept(Lineartide.WAIT, new int[][] {{0, 15}, {2, 0}});
        for (int what = Lineartide.MAYBE; what <= Lineartide.JUMP; what++) {
            refuse(x, what, new int[][] {{0, -1}, {0, 16}, {0, low}});
            accept(what, new int[][] {{low, 0}, {high, 15}});
        }
        accept(Lineartide.STOP, new int[][] {{low, high}, {high, low}});
    }

    private static void countsOfOps() {
        Lineartide x = new Lineartide();
        for (int i = 0; i < 16; i++) {
            EXPECT.due("op " + i, i, x.op(1, Lineartide.MAKE, 0, 0));
        }
        EXPECT.state("an op too many", () -> x.op(1, Lineartide.MAKE, 0, 0));
        EXPECT.argument("wrong, and too many", () -> x.op(1, Lineartide.MAKE, 6, 0));
        EXPECT.due("others count on their own", 0, x.op(0, Lineartide.MAKE, 0, 0));
        EXPECT.due("behind the last op", 1, x.holds(1, 16, 0));
        EXPECT.bounds("behind the end", () -> x.holds(1, 17, 0));
        EXPECT.due("one is taken away", 15, x.unop(1));
        EXPECT.due("and comes again", 15, x.op(1, Lineartide.MAKE, 1, 2));
        EXPECT.due("which is another one", 3, x.holds(1, 16, 1));
        for (int i = 15; i >= 0; i--) {
            EXPECT.due("unop to " + i, i, x.unop(1));
        }
        EXPECT.state("unop of none", () -> x.unop(1));
        for (int process : OUTSIDE) {
            EXPECT.bounds("unop of no process", () -> x.unop(process));
        }
    }

    private static void runsAreOver() {
        Lineartide x = new Lineartide();
        x.begin();
        EXPECT.argument("a wrong op", () -> x.op(0, Lineartide.MAKE, 9, 0));
        EXPECT.state("unop of none", () -> x.unop(0));
        EXPECT.due("a run goes on behind refused calls", Lineartide.RUNNING, x.state(0));
        x.op(0, Lineartide.MAKE, 0, 0);
        EXPECT.state("a run is over by an op", () -> x.state(0));
        x.begin();
        EXPECT.due("a new run", Lineartide.RUNNING, x.state(0));
        x.unop(0);
        EXPECT.state("a run is over by unop", () -> x.go(0, false) ? 1 : 0);
    }

    private static void shortenedOps() {
        // what goes on with an op that is taken away goes to the end then
        Lineartide x = new Lineartide();
        x.op(0, Lineartide.JUMP, 0, 1);
        x.op(0, Lineartide.MAKE, 0, 2);
        EXPECT.due("LINEAR at the end", Lineartide.KEPT, x.error(0));
        EXPECT.due("at the end", 2, x.check(0));
        x.unop(0);
        EXPECT.due("nothing at the end", 0, x.error(0));
    }

    public static void main(String[] args) {
        newObject();
        steps();
        stepsLeaveRuns();
        channels();
        ops();
        countsOfOps();
        runsAreOver();
        shortenedOps();
        EXPECT.end();
    }
}

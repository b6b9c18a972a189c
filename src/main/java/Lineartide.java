import java.util.Arrays;

/** Ownership by types: what is found ahead about processes, and runs that watch the rules by themselves. */
public final class Lineartide {
    public static final int NONE = -1;
    public static final int MANY = 0, AFFINE = 1, LINEAR = 2;
    public static final int GIVES = 0, GETS = 1, PICKS = 2, OFFERS = 3, ENDS = 4;
    public static final int MAKE = 0, MOVE = 1, FREE = 2, READ = 3, WRITE = 4, SHARE = 5, LEND = 6, SEND = 7, TAKE = 8, PICK = 9, WAIT = 10, MAYBE = 11, JUMP = 12, STOP = 13;
    public static final int UNLIKE = 1, EMPTY = 2, KIND = 3, FULL = 4, BORROWED = 5, SESSION = 6, KEPT = 7, OPEN = 8, CANCELLED = 9;
    public static final int RUNNING = 0, DONE = 1, DEAD = 2;

    private static final int PROTOCOLS = 3, PROCESSES = 3, CHANNELS = 3;
    private static final int NAMES = 6, KINDS = 3, WAYS = 2;
    private static final int STEPS = 8, OPS = 16, ROOM = 2;
    private static final int MOST_DROPS = 200, MOST_LAYOUTS = 1000, MOST_TURNS = 200;

    /** Far above the rounds that any flow needs: what is ahead of an op can change some 22 times. */
    private static final int ROUNDS = 1000;

    /** What a variable is ahead of an op; the kind is added to OWNER, a variable to SHARED and to LENT. */
    private static final int NOTHING = 0, OWNER = 1, PERHAPS = 4, MIXED = 5, SHARED = 10, LENT = 20;

    /** Where a channel is whose ways came together at different steps. */
    private static final int APART = -2;

    private final Protocol[] protocols = new Protocol[PROTOCOLS];
    private final Code[] codes = new Code[PROCESSES];
    private final Flow[] flows = new Flow[PROCESSES];
    private final Channels channels;
    private final Layouts layouts;
    private final Course course;

    public Lineartide() {
        for (int i = 0; i < PROTOCOLS; i++) {
            protocols[i] = new Protocol();
        }
        channels = new Channels();
        for (int i = 0; i < PROCESSES; i++) {
            codes[i] = new Code();
            flows[i] = new Flow(i, codes[i], channels);
        }
        layouts = new Layouts(codes, flows, channels);
        course = new Course(codes, channels);
    }

    // ---- telling

    public int step(int protocol, int what, int a, int b) throws IndexOutOfBoundsException, IllegalArgumentException, IllegalStateException {
        if (!within(protocol, PROTOCOLS)) {
            throw new IndexOutOfBoundsException("there is no such protocol");
        }
        if (!Protocol.allows(what, a, b)) {
            throw new IllegalArgumentException("what, a or b is out of range");
        }
        if (protocols[protocol].isFull() || channels.have(protocol)) {
            throw new IllegalStateException("the protocol has 8 steps, or a channel has it");
        }
        return protocols[protocol].add(what, a, b);
    }

    public int channel(int protocol, int left, int right) throws IndexOutOfBoundsException, IllegalArgumentException, IllegalStateException {
        if (!within(protocol, PROTOCOLS) || !within(left, PROCESSES) || !within(right, PROCESSES)) {
            throw new IndexOutOfBoundsException("there is no such protocol or process");
        }
        if (left == right) {
            throw new IllegalArgumentException("both processes are the same");
        }
        if (channels.isFull() || !protocols[protocol].isWhole()) {
            throw new IllegalStateException("there are 3 channels, or the protocol is not whole");
        }
        forget(left);
        forget(right);
        return channels.add(protocol, protocols[protocol], left, right);
    }

    public int op(int process, int what, int a, int b) throws IndexOutOfBoundsException, IllegalArgumentException, IllegalStateException {
        if (!within(process, PROCESSES)) {
            throw new IndexOutOfBoundsException("there is no such process");
        }
        if (!Code.allows(what, a, b)) {
            throw new IllegalArgumentException("what, a or b is out of range, or a and b are the same");
        }
        if (codes[process].isFull()) {
            throw new IllegalStateException("the process has 16 ops");
        }
        forget(process);
        return codes[process].add(what, a, b);
    }

    public int unop(int process) throws IndexOutOfBoundsException, IllegalStateException {
        if (!within(process, PROCESSES)) {
            throw new IndexOutOfBoundsException("there is no such process");
        }
        if (codes[process].size() == 0) {
            throw new IllegalStateException("the process has no ops");
        }
        forget(process);
        return codes[process].removeLast();
    }

    // ---- what is found

    public int check(int process) throws IndexOutOfBoundsException {
        if (!within(process, PROCESSES)) {
            throw new IndexOutOfBoundsException("there is no such process");
        }
        return flows[process].find().errorOp();
    }

    public int error(int process) throws IndexOutOfBoundsException {
        if (!within(process, PROCESSES)) {
            throw new IndexOutOfBoundsException("there is no such process");
        }
        return flows[process].find().firstError();
    }

    public int borrower(int process) throws IndexOutOfBoundsException, IllegalStateException {
        if (!within(process, PROCESSES)) {
            throw new IndexOutOfBoundsException("there is no such process");
        }
        if (flows[process].find().firstError() != BORROWED) {
            throw new IllegalStateException("the error is not BORROWED");
        }
        return flows[process].inTheWay();
    }

    public int holds(int process, int op, int name) throws IndexOutOfBoundsException {
        if (!isAhead(process, op) || !within(name, NAMES)) {
            throw new IndexOutOfBoundsException("there is no such process, op or name");
        }
        Flow flow = flows[process].find();
        return flow.isComeTo(op) ? flow.nameAt(op, name) : NONE;
    }

    public int at(int process, int op, int channel) throws IndexOutOfBoundsException {
        if (!isAhead(process, op) || !within(channel, channels.size())) {
            throw new IndexOutOfBoundsException("there is no such process, op or channel");
        }
        Flow flow = flows[process].find();
        return flow.isComeTo(op) ? flow.stepAt(op, channel) : NONE;
    }

    public int lives(int process, int op) throws IndexOutOfBoundsException {
        if (!isAhead(process, op)) {
            throw new IndexOutOfBoundsException("there is no such process or op");
        }
        return flows[process].find().livesAt(op);
    }

    public int stuck() throws IllegalStateException {
        for (int i = 0; i < PROCESSES; i++) {
            if (flows[i].find().firstError() != 0) {
                throw new IllegalStateException("a process has an error");
            }
        }
        return layouts.answer();
    }

    // ---- runs

    public void begin() {
        course.restart();
    }

    public boolean go(int process, boolean coin) throws IndexOutOfBoundsException, IllegalStateException {
        if (!within(process, PROCESSES)) {
            throw new IndexOutOfBoundsException("there is no such process");
        }
        if (!course.isOn() || course.body(process).life() != RUNNING) {
            throw new IllegalStateException("there is no run, or the process is not RUNNING");
        }
        return course.advance(process, coin);
    }

    public int run(int seed, int steps) throws IllegalArgumentException, IllegalStateException {
        if (steps < 1 || steps > MOST_TURNS) {
            throw new IllegalArgumentException("steps is out of range");
        }
        if (!course.isOn()) {
            throw new IllegalStateException("there is no run");
        }
        return course.draw(seed, steps);
    }

    public int state(int process) throws IndexOutOfBoundsException, IllegalStateException {
        if (!within(process, PROCESSES)) {
            throw new IndexOutOfBoundsException("there is no such process");
        }
        if (!course.isOn()) {
            throw new IllegalStateException("there is no run");
        }
        return course.body(process).life();
    }

    public int fault(int process) throws IndexOutOfBoundsException, IllegalStateException {
        if (!within(process, PROCESSES)) {
            throw new IndexOutOfBoundsException("there is no such process");
        }
        if (!course.isOn()) {
            throw new IllegalStateException("there is no run");
        }
        return course.body(process).broken();
    }

    public int place(int process) throws IndexOutOfBoundsException, IllegalStateException {
        if (!within(process, PROCESSES)) {
            throw new IndexOutOfBoundsException("there is no such process");
        }
        if (!course.isOn()) {
            throw new IllegalStateException("there is no run");
        }
        return course.body(process).spot();
    }

    public int value(int process, int name) throws IndexOutOfBoundsException, IllegalStateException {
        if (!within(process, PROCESSES) || !within(name, NAMES)) {
            throw new IndexOutOfBoundsException("there is no such process or name");
        }
        if (!course.isOn()) {
            throw new IllegalStateException("there is no run");
        }
        return course.body(process).valueOf(name);
    }

    public int waiting(int process, int channel) throws IndexOutOfBoundsException, IllegalStateException {
        if (!within(process, PROCESSES) || !within(channel, CHANNELS)) {
            throw new IndexOutOfBoundsException("there is no such process, or channel is out of range");
        }
        if (!course.isOn()) {
            throw new IllegalStateException("there is no run");
        }
        return course.countFor(process, channel);
    }

    public int made() {
        return course.ledger().numbered();
    }

    public int drops() {
        return course.ledger().told();
    }

    public int dropped(int place) throws IndexOutOfBoundsException {
        if (!within(place, course.ledger().told())) {
            throw new IndexOutOfBoundsException("there is no such place");
        }
        return course.ledger().droppedAt(place);
    }

    /** What was found of a process holds no more when its ops or its channels change, nor does a run go on. */
    private void forget(int process) {
        flows[process].forget();
        layouts.forget();
        course.stop();
    }

    private boolean isAhead(int process, int op) {
        return within(process, PROCESSES) && within(op, codes[process].size() + 1);
    }

    private static boolean within(int number, int bound) {
        return number >= 0 && number < bound;
    }

    /** The steps of a protocol, as they are told; the right process turns them round. */
    static final class Protocol {
        private final int[] what = new int[STEPS];
        private final int[] a = new int[STEPS];
        private final int[] b = new int[STEPS];
        private int count;

        static boolean allows(int what, int a, int b) {
            switch (what) {
                case GIVES:
                case GETS:
                    return within(a, KINDS) && within(b, STEPS);
                case PICKS:
                case OFFERS:
                    return within(a, STEPS) && within(b, STEPS);
                default:
                    return what == ENDS;
            }
        }

        int size() {
            return count;
        }

        boolean isFull() {
            return count >= STEPS;
        }

        int add(int newWhat, int newA, int newB) {
            if (isFull()) {
                return NONE;
            }
            what[count] = newWhat;
            a[count] = newA;
            b[count] = newB;
            count++;
            return count - 1;
        }

        /** Whether it has steps, and each one goes on with a step that there is. */
        boolean isWhole() {
            for (int i = 0; i < count; i++) {
                if (nextAt(i, 0) >= count || nextAt(i, 1) >= count) {
                    return false;
                }
            }
            return count > 0;
        }

        int whatAt(int step) {
            return within(step, count) ? what[step] : ENDS;
        }

        int kindAt(int step) {
            return within(step, count) ? a[step] : NONE;
        }

        int nextAt(int step, int way) {
            if (!within(step, count) || what[step] == ENDS) {
                return step;
            }
            boolean chooses = what[step] == PICKS || what[step] == OFFERS;
            return chooses && way == 0 ? a[step] : b[step];
        }
    }

    /**
     * The channels; all questions may also name a channel that is not there, as ops do. What a step asks of each side
     * is written out when a channel is made, as its protocol is fixed from then on.
     */
    static final class Channels {
        private final int[] protocol = new int[CHANNELS];
        private final int[] left = new int[CHANNELS];
        private final int[] right = new int[CHANNELS];
        private final int[] asked = new int[CHANNELS * PROCESSES * STEPS];
        private final int[] kinds = new int[CHANNELS * STEPS];
        private final int[] nexts = new int[CHANNELS * STEPS * WAYS];
        private int count;

        Channels() {
            Arrays.fill(asked, NONE);
        }

        int size() {
            return count;
        }

        boolean isFull() {
            return count >= CHANNELS;
        }

        boolean have(int told) {
            for (int i = 0; i < count; i++) {
                if (protocol[i] == told) {
                    return true;
                }
            }
            return false;
        }

        int add(int number, Protocol told, int newLeft, int newRight) {
            if (isFull() || !within(newLeft, PROCESSES) || !within(newRight, PROCESSES)) {
                return NONE;
            }
            protocol[count] = number;
            left[count] = newLeft;
            right[count] = newRight;
            for (int i = 0; i < told.size() && i < STEPS; i++) {
                asked[(count * PROCESSES + newLeft) * STEPS + i] = told.whatAt(i);
                asked[(count * PROCESSES + newRight) * STEPS + i] = turned(told.whatAt(i));
                kinds[count * STEPS + i] = told.kindAt(i);
                nexts[(count * STEPS + i) * WAYS] = told.nextAt(i, 0);
                nexts[(count * STEPS + i) * WAYS + 1] = told.nextAt(i, 1);
            }
            count++;
            return count - 1;
        }

        /** What a step of the left process is for the right one. */
        private static int turned(int what) {
            switch (what) {
                case GIVES:
                    return GETS;
                case GETS:
                    return GIVES;
                case PICKS:
                    return OFFERS;
                case OFFERS:
                    return PICKS;
                default:
                    return what;
            }
        }

        /** 0 for the left process, 1 for the right one, NONE for any other. */
        int sideOf(int channel, int process) {
            if (channel < 0 || channel >= count) {
                return NONE;
            }
            if (left[channel] == process) {
                return 0;
            }
            return right[channel] == process ? 1 : NONE;
        }

        /** The process beyond the channel; NONE if the channel is none of the process. */
        int beyond(int channel, int process) {
            int side = sideOf(channel, process);
            if (side == NONE) {
                return NONE;
            }
            return side == 0 ? right[channel] : left[channel];
        }

        /** What a step asks of a process; NONE if it is at no step of a channel of its own. */
        int askedOf(int process, int channel, int step) {
            boolean known = process >= 0 && process < PROCESSES && channel >= 0 && channel < count && step >= 0 && step < STEPS;
            return known ? asked[(channel * PROCESSES + process) * STEPS + step] : NONE;
        }

        /** Whether a process is at a step of the channel that the op needs. */
        boolean suit(int process, int what, int channel, int step) {
            int needed = Code.stepNeeded(what);
            return needed != NONE && askedOf(process, channel, step) == needed;
        }

        int kindAt(int channel, int step) {
            return channel >= 0 && channel < count && step >= 0 && step < STEPS ? kinds[channel * STEPS + step] : NONE;
        }

        int nextAt(int channel, int step, int way) {
            boolean known = channel >= 0 && channel < count && step >= 0 && step < STEPS && way >= 0 && way < WAYS;
            return known ? nexts[(channel * STEPS + step) * WAYS + way] : step;
        }
    }

    /** The ops of a process; behind the last one it reads like STOP, as a process ends there. */
    static final class Code {
        private final int[] what = new int[OPS];
        private final int[] a = new int[OPS];
        private final int[] b = new int[OPS];
        private int count;

        static boolean allows(int what, int a, int b) {
            switch (what) {
                case MAKE:
                    return within(a, NAMES) && within(b, KINDS);
                case MOVE:
                    return within(a, NAMES) && within(b, NAMES);
                case FREE:
                case READ:
                case WRITE:
                    return within(a, NAMES);
                case SHARE:
                case LEND:
                    return within(a, NAMES) && within(b, NAMES) && a != b;
                case SEND:
                case TAKE:
                    return within(a, CHANNELS) && within(b, NAMES);
                case PICK:
                    return within(a, CHANNELS) && within(b, WAYS);
                case WAIT:
                    return within(a, CHANNELS) && within(b, OPS);
                case MAYBE:
                case JUMP:
                    return within(b, OPS);
                default:
                    return what == STOP;
            }
        }

        /** The step that an op needs; NONE for those that use no channel. */
        static int stepNeeded(int what) {
            switch (what) {
                case SEND:
                    return GIVES;
                case TAKE:
                    return GETS;
                case PICK:
                    return PICKS;
                case WAIT:
                    return OFFERS;
                default:
                    return NONE;
            }
        }

        /** The part of KIND that is about the way in which the used variable has its value. */
        static boolean wrongWay(int what, boolean isShared, boolean isLent) {
            switch (what) {
                case FREE:
                case LEND:
                case SEND:
                    return isShared || isLent;
                case WRITE:
                    return isShared;
                case SHARE:
                    return isLent;
                default:
                    return false;
            }
        }

        int size() {
            return count;
        }

        boolean isFull() {
            return count >= OPS;
        }

        int add(int newWhat, int newA, int newB) {
            if (isFull()) {
                return NONE;
            }
            what[count] = newWhat;
            a[count] = newA;
            b[count] = newB;
            count++;
            return count - 1;
        }

        int removeLast() {
            if (count > 0) {
                count--;
            }
            return count;
        }

        int whatAt(int op) {
            return op >= 0 && op < count ? what[op] : STOP;
        }

        int aAt(int op) {
            return op >= 0 && op < count ? a[op] : NONE;
        }

        int bAt(int op) {
            return op >= 0 && op < count ? b[op] : NONE;
        }

        int targetAt(int op) {
            switch (whatAt(op)) {
                case MAKE:
                case MOVE:
                case SHARE:
                case LEND:
                    return aAt(op);
                case TAKE:
                    return bAt(op);
                default:
                    return NONE;
            }
        }

        int usedAt(int op) {
            switch (whatAt(op)) {
                case MOVE:
                case SHARE:
                case LEND:
                case SEND:
                    return bAt(op);
                case FREE:
                case READ:
                case WRITE:
                    return aAt(op);
                default:
                    return NONE;
            }
        }

        /** The channel of SEND, TAKE, PICK and WAIT; NONE for the other ops. */
        int channelAt(int op) {
            return stepNeeded(whatAt(op)) == NONE ? NONE : aAt(op);
        }

        int after(int op) {
            return Math.min(op + 1, count);
        }

        /** Where MAYBE, JUMP and WAIT go on with b: the end, if there is no such op. */
        int jumpOf(int op) {
            int to = bAt(op);
            return to >= 0 && to < count ? to : count;
        }
    }

    /**
     * What is found ahead of the ops of one process; it is kept until the process changes. Ops that are come to, and
     * those whose next ones must be looked at again, are sets of bits.
     */
    static final class Flow {
        private final int process;
        private final Code code;
        private final Channels channels;
        private final int[] names = new int[(OPS + 1) * NAMES];
        private final int[] steps = new int[(OPS + 1) * CHANNELS];
        private final int[] live = new int[OPS + 1];
        private final int[] nowNames = new int[NAMES];
        private final int[] nowSteps = new int[CHANNELS];
        private int come;
        private int changed;
        private boolean known;
        private int errorOp;
        private int firstError;

        Flow(int process, Code code, Channels channels) {
            this.process = process;
            this.code = code;
            this.channels = channels;
        }

        void forget() {
            known = false;
        }

        /** To be called ahead of any question; it answers itself, so that the question can stand behind it. */
        Flow find() {
            if (!known) {
                known = true;
                followAll();
                findLives();
                findError();
            }
            return this;
        }

        int errorOp() {
            return errorOp;
        }

        int firstError() {
            return firstError;
        }

        int inTheWay() {
            return borrowerAt(errorOp);
        }

        boolean isComeTo(int op) {
            return op >= 0 && op <= OPS && (come >> op & 1) != 0;
        }

        int nameAt(int op, int name) {
            return op >= 0 && op <= OPS && name >= 0 && name < NAMES ? names[op * NAMES + name] : NOTHING;
        }

        int stepAt(int op, int channel) {
            return op >= 0 && op <= OPS && channel >= 0 && channel < CHANNELS ? steps[op * CHANNELS + channel] : NONE;
        }

        int livesAt(int op) {
            return op >= 0 && op <= OPS ? live[op] : 0;
        }

        private void followAll() {
            come = 0;
            changed = 0;
            Arrays.fill(nowNames, NOTHING);
            for (int i = 0; i < CHANNELS; i++) {
                nowSteps[i] = channels.sideOf(i, process) == NONE ? NONE : 0;
            }
            reach(0);
            boolean more = true;
            for (int round = 0; round < ROUNDS && more; round++) {
                more = false;
                for (int op = 0; op < code.size() && op < OPS; op++) {
                    if ((changed >> op & 1) != 0) {
                        changed &= ~(1 << op);
                        more = true;
                        follow(op);
                    }
                }
            }
        }

        /** Carries what is ahead of an op to the ops that are next. */
        private void follow(int op) {
            System.arraycopy(names, op * NAMES, nowNames, 0, NAMES);
            System.arraycopy(steps, op * CHANNELS, nowSteps, 0, CHANNELS);
            switch (code.whatAt(op)) {
                case STOP:
                    return;
                case JUMP:
                    reach(code.jumpOf(op));
                    return;
                case MAYBE:
                    reach(code.after(op));
                    reach(code.jumpOf(op));
                    return;
                case WAIT:
                    goOn(op, 0);
                    reach(code.after(op));
                    goOn(op, 1);
                    reach(code.jumpOf(op));
                    return;
                case PICK:
                    goOn(op, code.bAt(op));
                    reach(code.after(op));
                    return;
                default:
                    changeNames(op);
                    goOn(op, 0);
                    reach(code.after(op));
            }
        }

        /** The channel of an op goes on from where it is ahead of it; elsewhere than the op needs it stays. */
        private void goOn(int op, int way) {
            int channel = code.channelAt(op);
            int step = stepAt(op, channel);
            if (within(channel, CHANNELS) && channels.suit(process, code.whatAt(op), channel, step)) {
                nowSteps[channel] = channels.nextAt(channel, step, way);
            }
        }

        private void changeNames(int op) {
            int target = code.targetAt(op);
            int used = code.usedAt(op);
            int is = nameAt(op, used);
            int what = code.whatAt(op);
            boolean leaves = what == FREE || (what == MOVE && target != used || what == SEND) && isTakenAway(is);
            if (leaves && within(used, NAMES)) {
                nowNames[used] = NOTHING;
            }
            if (within(target, NAMES)) {
                nowNames[target] = gotten(op, what, used, is);
            }
        }

        /** What the target of an op is behind it. */
        private int gotten(int op, int what, int used, int is) {
            switch (what) {
                case MAKE:
                    return OWNER + code.bAt(op);
                case SHARE:
                    return isShared(is) ? is : isOwner(is) ? SHARED + used : NOTHING;
                case LEND:
                    return isOwner(is) ? LENT + used : NOTHING;
                case TAKE:
                    return taken(op);
                default:
                    return is;
            }
        }

        private int taken(int op) {
            int channel = code.aAt(op);
            int step = stepAt(op, channel);
            if (step == APART) {
                return MIXED;
            }
            boolean gets = channels.askedOf(process, channel, step) == GETS;
            return OWNER + (gets ? channels.kindAt(channel, step) : MANY);
        }

        /** Another way comes to an op, with what is now. */
        private void reach(int op) {
            if (!within(op, OPS + 1)) {
                return;
            }
            boolean first = !isComeTo(op);
            come |= 1 << op;
            boolean differs = first;
            for (int i = 0; i < NAMES; i++) {
                int was = nameAt(op, i);
                int is = first ? nowNames[i] : together(was, nowNames[i]);
                names[op * NAMES + i] = is;
                differs |= is != was;
            }
            for (int i = 0; i < CHANNELS; i++) {
                int was = stepAt(op, i);
                int is = first || was == nowSteps[i] ? nowSteps[i] : APART;
                steps[op * CHANNELS + i] = is;
                differs |= is != was;
            }
            if (differs) {
                changed |= 1 << op;
            }
        }

        private static int together(int one, int other) {
            if (one == other) {
                return one;
            }
            if (one == OWNER + LINEAR || other == OWNER + LINEAR || one == MIXED || other == MIXED) {
                return MIXED;
            }
            return isMaybeAffine(one) || isMaybeAffine(other) ? PERHAPS : NOTHING;
        }

        private static boolean isMaybeAffine(int is) {
            return is == OWNER + AFFINE || is == PERHAPS;
        }

        private static boolean isOwner(int is) {
            return is >= OWNER && is < OWNER + KINDS;
        }

        private static boolean isShared(int is) {
            return is >= SHARED && is < LENT;
        }

        private static boolean isLent(int is) {
            return is >= LENT;
        }

        private static boolean isTakenAway(int is) {
            return is > OWNER + MANY && !isShared(is);
        }

        /** Goes from the last op to the first, as what lives is known from behind. */
        private void findLives() {
            Arrays.fill(live, 0);
            boolean more = true;
            for (int round = 0; round < ROUNDS && more; round++) {
                more = false;
                for (int op = code.size() - 1; op >= 0; op--) {
                    int lives = livesBehind(op) & ~bit(code.targetAt(op)) | bit(code.usedAt(op));
                    more |= lives != live[op];
                    live[op] = lives;
                }
            }
        }

        private int livesBehind(int op) {
            switch (code.whatAt(op)) {
                case STOP:
                    return 0;
                case JUMP:
                    return livesAt(code.jumpOf(op));
                case MAYBE:
                case WAIT:
                    return livesAt(code.after(op)) | livesAt(code.jumpOf(op));
                default:
                    return livesAt(code.after(op));
            }
        }

        private static int bit(int name) {
            return name >= 0 && name < NAMES ? 1 << name : 0;
        }

        private void findError() {
            errorOp = NONE;
            firstError = 0;
            for (int op = 0; op <= code.size() && op <= OPS && firstError == 0; op++) {
                if (isComeTo(op)) {
                    firstError = errorAt(op);
                }
                if (firstError != 0) {
                    errorOp = op;
                }
            }
        }

        private int errorAt(int op) {
            if (isUnlike(op)) {
                return UNLIKE;
            }
            if (code.whatAt(op) == STOP) {
                return endErrorAt(op);
            }
            int used = code.usedAt(op);
            int is = nameAt(op, used);
            if (used != NONE && (is == NOTHING || is == PERHAPS)) {
                return EMPTY;
            }
            if (isWrongKind(op, is)) {
                return KIND;
            }
            int target = code.targetAt(op);
            if (target != used && nameAt(op, target) == OWNER + LINEAR) {
                return FULL;
            }
            if (borrowerAt(op) != NONE) {
                return BORROWED;
            }
            return isOutOfSession(op) ? SESSION : 0;
        }

        private boolean isUnlike(int op) {
            for (int i = 0; i < NAMES; i++) {
                if (nameAt(op, i) == MIXED) {
                    return true;
                }
            }
            for (int i = 0; i < CHANNELS; i++) {
                if (stepAt(op, i) == APART) {
                    return true;
                }
            }
            return false;
        }

        private int endErrorAt(int op) {
            for (int i = 0; i < NAMES; i++) {
                if (nameAt(op, i) == OWNER + LINEAR) {
                    return KEPT;
                }
            }
            for (int i = 0; i < CHANNELS; i++) {
                int step = stepAt(op, i);
                if (step != NONE && channels.askedOf(process, i, step) != ENDS) {
                    return OPEN;
                }
            }
            return 0;
        }

        private boolean isWrongKind(int op, int is) {
            int what = code.whatAt(op);
            if (Code.wrongWay(what, isShared(is), isLent(is))) {
                return true;
            }
            int channel = code.channelAt(op);
            int step = stepAt(op, channel);
            return what == SEND && channels.suit(process, SEND, channel, step) && is != OWNER + channels.kindAt(channel, step);
        }

        private boolean isOutOfSession(int op) {
            int channel = code.channelAt(op);
            return channel != NONE && !channels.suit(process, code.whatAt(op), channel, stepAt(op, channel));
        }

        /** The lowest variable by which an op is BORROWED, those of the target first; NONE if there is none. */
        private int borrowerAt(int op) {
            int target = code.targetAt(op);
            int used = code.usedAt(op);
            int behind = livesBehind(op) & ~bit(target);
            if (target != NONE && target != used && nameAt(op, target) != NOTHING) {
                int lowest = lowestBorrower(op, behind | bit(used), target, true);
                if (lowest != NONE) {
                    return lowest;
                }
            }
            int is = nameAt(op, used);
            if (used == NONE || isShared(is) || isLent(is)) {
                return NONE;
            }
            return lowestBorrower(op, behind, used, !leavesShares(code.whatAt(op), is));
        }

        /** Whether an op lets those be that share what it uses. */
        private static boolean leavesShares(int what, int is) {
            return what == READ || what == SHARE || (what == MOVE || what == SEND) && is == OWNER + MANY;
        }

        private int lowestBorrower(int op, int among, int owner, boolean sharesCount) {
            for (int i = 0; i < NAMES; i++) {
                int is = nameAt(op, i);
                boolean counts = is == LENT + owner || sharesCount && is == SHARED + owner;
                if (counts && (among & bit(i)) != 0) {
                    return i;
                }
            }
            return NONE;
        }
    }

    /**
     * All layouts that can be come to. A layout is one number: 6 bits for each process (the op, and whether it has
     * ended), and 6 bits for each side of each channel (two messages, the first one in the lower bits).
     */
    static final class Layouts {
        private static final int PLACE_BITS = 6, ENDED = 32, PLACES = 31;
        private static final int QUEUES_FROM = PLACE_BITS * PROCESSES, QUEUE_BITS = 6, MESSAGE_BITS = 3, MESSAGES = 7;
        private static final int FIRST_KIND = 1, FIRST_WAY = 4;
        private static final int TABLE_BITS = 11, TABLE = 1 << TABLE_BITS;
        private static final long SCATTER = 0x9E3779B97F4A7C15L;

        private final Code[] codes;
        private final Flow[] flows;
        private final Channels channels;
        private final long[] rows = new long[MOST_LAYOUTS + 1];
        private final int[] table = new int[TABLE];
        private int count;
        private boolean known;
        private int answer;

        Layouts(Code[] codes, Flow[] flows, Channels channels) {
            this.codes = codes;
            this.flows = flows;
            this.channels = channels;
        }

        void forget() {
            known = false;
        }

        int answer() {
            if (!known) {
                known = true;
                answer = search();
            }
            return answer;
        }

        private int search() {
            Arrays.fill(table, 0);
            count = 0;
            reach(0L);
            int found = 0;
            for (int i = 0; i < count && i < MOST_LAYOUTS && count <= MOST_LAYOUTS; i++) {
                if (!goOn(rows[i]) && !allEnded(rows[i])) {
                    found = 1;
                }
            }
            return count > MOST_LAYOUTS ? NONE : found;
        }

        /** Reaches what is next of a layout; tells whether there is anything. */
        private boolean goOn(long layout) {
            boolean moves = false;
            for (int process = 0; process < PROCESSES; process++) {
                for (int way = 0; way < WAYS; way++) {
                    long next = next(layout, process, way);
                    if (next != NONE) {
                        moves = true;
                        reach(next);
                    }
                }
            }
            return moves;
        }

        private void reach(long layout) {
            int slot = (int) ((layout * SCATTER) >>> (64 - TABLE_BITS));
            for (int tries = 0; tries < TABLE; tries++) {
                int row = table[slot] - 1;
                if (row < 0) {
                    keep(layout, slot);
                    return;
                }
                if (row < count && rows[row] == layout) {
                    return;
                }
                slot = (slot + 1) & (TABLE - 1);
            }
        }

        private void keep(long layout, int slot) {
            if (count < rows.length) {
                rows[count] = layout;
                count++;
                table[slot] = count;
            }
        }

        private boolean allEnded(long layout) {
            for (int process = 0; process < PROCESSES; process++) {
                if (!hasEnded(layout, process)) {
                    return false;
                }
            }
            return true;
        }

        private static boolean hasEnded(long layout, int process) {
            return (layout >>> (process * PLACE_BITS) & ENDED) != 0;
        }

        /** The layout behind a process's next op; NONE if it waits or has ended, or if the op has no such way. */
        private long next(long layout, int process, int way) {
            Code code = codes[process];
            int spot = (int) (layout >>> (process * PLACE_BITS)) & PLACES;
            int what = code.whatAt(spot);
            if (hasEnded(layout, process) || way == 1 && what != MAYBE) {
                return NONE;
            }
            switch (what) {
                case STOP:
                    return layout | (long) ENDED << (process * PLACE_BITS);
                case MAYBE:
                    return moved(layout, process, spot, way == 1 ? code.jumpOf(spot) : code.after(spot));
                case JUMP:
                    return moved(layout, process, spot, code.jumpOf(spot));
                case SEND:
                case PICK:
                    return posted(layout, process, spot);
                case TAKE:
                case WAIT:
                    return received(layout, process, spot);
                default:
                    return moved(layout, process, spot, code.after(spot));
            }
        }

        private static long moved(long layout, int process, int from, int to) {
            return layout + ((long) (to - from) << (process * PLACE_BITS));
        }

        private long posted(long layout, int process, int spot) {
            Code code = codes[process];
            int channel = code.channelAt(spot);
            int shift = shiftOf(channel, channels.beyond(channel, process));
            long message = FIRST_WAY + code.bAt(spot);
            if (code.whatAt(spot) == SEND) {
                message = FIRST_KIND + channels.kindAt(channel, flows[process].stepAt(spot, channel));
            }
            if (messageAt(layout, shift) != 0) {
                shift += MESSAGE_BITS;
            }
            if (messageAt(layout, shift) != 0) {
                return NONE;
            }
            return moved(layout | message << shift, process, spot, code.after(spot));
        }

        private long received(long layout, int process, int spot) {
            Code code = codes[process];
            int channel = code.channelAt(spot);
            int shift = shiftOf(channel, process);
            int first = messageAt(layout, shift);
            if (first == 0) {
                return NONE;
            }
            long second = messageAt(layout, shift + MESSAGE_BITS);
            long both = (long) first | second << MESSAGE_BITS;
            long left = layout - (both << shift) + (second << shift);
            boolean jumps = code.whatAt(spot) == WAIT && first == FIRST_WAY + 1;
            return moved(left, process, spot, jumps ? code.jumpOf(spot) : code.after(spot));
        }

        private static int messageAt(long layout, int shift) {
            return (int) (layout >>> shift) & MESSAGES;
        }

        private int shiftOf(int channel, int process) {
            int side = channels.sideOf(channel, process);
            return QUEUES_FROM + QUEUE_BITS * (WAYS * channel + Math.max(side, 0));
        }
    }

    /** The values of a run: how many were made, and which were dropped. */
    static final class Ledger {
        private final int[] drops = new int[MOST_DROPS];
        private int told;
        private int numbered;
        private int time;

        void clear() {
            told = 0;
            numbered = 0;
            time = 0;
        }

        int numbered() {
            return numbered;
        }

        int told() {
            return told;
        }

        int droppedAt(int place) {
            return within(place, told) ? drops[place] : NONE;
        }

        int newValue() {
            numbered++;
            return numbered - 1;
        }

        int newTime() {
            time++;
            return time;
        }

        void drop(int value) {
            if (told < MOST_DROPS) {
                drops[told] = value;
                told++;
            }
        }
    }

    /** What a process is in a run, and what its variables have. */
    static final class Body {
        private static final int OWNS = 1, SHARES = 2, BORROWS = 3;

        private final Ledger ledger;
        private final int[] has = new int[NAMES];
        private final int[] value = new int[NAMES];
        private final int[] kind = new int[NAMES];
        private final int[] since = new int[NAMES];
        private final int[] steps = new int[CHANNELS];
        private int lapsed;
        private int life;
        private int broken;
        private int spot;

        Body(Ledger ledger) {
            this.ledger = ledger;
        }

        void restart() {
            Arrays.fill(has, NOTHING);
            lapsed = 0;
            Arrays.fill(steps, 0);
            life = RUNNING;
            broken = 0;
            spot = 0;
        }

        int life() {
            return life;
        }

        int broken() {
            return broken;
        }

        int spot() {
            return spot;
        }

        void goTo(int op) {
            spot = op;
        }

        int stepOf(int channel) {
            return within(channel, CHANNELS) ? steps[channel] : NONE;
        }

        void setStep(int channel, int step) {
            if (within(channel, CHANNELS)) {
                steps[channel] = step;
            }
        }

        int valueOf(int name) {
            return name >= 0 && name < NAMES && has[name] != NOTHING ? value[name] : NONE;
        }

        int kindOf(int name) {
            return name >= 0 && name < NAMES ? kind[name] : NONE;
        }

        boolean hasNothing(int name) {
            return valueOf(name) == NONE;
        }

        boolean owns(int name) {
            return name >= 0 && name < NAMES && has[name] == OWNS;
        }

        boolean ownsLinear(int name) {
            return owns(name) && kind[name] == LINEAR;
        }

        boolean shares(int name) {
            return name >= 0 && name < NAMES && has[name] == SHARES;
        }

        boolean borrows(int name) {
            return name >= 0 && name < NAMES && has[name] == BORROWS;
        }

        /** Whether what is shared or lent holds no more. */
        boolean isLapsed(int name) {
            return (shares(name) || borrows(name)) && (lapsed >> name & 1) != 0;
        }

        void own(int target, int newValue, int newKind) {
            vacate(target);
            if (within(target, NAMES)) {
                has[target] = OWNS;
                value[target] = newValue;
                kind[target] = newKind;
                since[target] = ledger.newTime();
            }
        }

        void move(int target, int used) {
            if (target == used) {
                return;
            }
            if (owns(used)) {
                own(target, handOver(used), kindOf(used));
                return;
            }
            borrow(target, used, shares(used) ? SHARES : BORROWS);
            if (borrows(used)) {
                clear(used);
            }
        }

        /** What leaves a variable that owns: a copy of a value that is MANY, any other value itself. */
        int handOver(int used) {
            int own = valueOf(used);
            endLoans(own, used);
            if (kindOf(used) == MANY) {
                return ledger.newValue();
            }
            endShares(own);
            clear(used);
            return own;
        }

        void free(int used) {
            ledger.drop(valueOf(used));
            endAll(used);
            clear(used);
        }

        void read(int used) {
            endLoans(valueOf(used), used);
        }

        void write(int used) {
            endAll(used);
        }

        void share(int target, int used) {
            if (owns(used)) {
                endLoans(valueOf(used), used);
            }
            borrow(target, used, SHARES);
        }

        void lend(int target, int used) {
            endAll(used);
            borrow(target, used, BORROWS);
        }

        /** The target is vacated first, so that a share or loan of what it owned comes to it lapsed. */
        private void borrow(int target, int used, int how) {
            vacate(target);
            if (within(target, NAMES) && within(used, NAMES)) {
                has[target] = how;
                value[target] = value[used];
                lapsed = isLapsed(used) ? lapsed | 1 << target : lapsed & ~(1 << target);
            }
        }

        private void vacate(int target) {
            if (owns(target)) {
                int gone = valueOf(target);
                endLoans(gone, target);
                endShares(gone);
                if (kindOf(target) == AFFINE) {
                    ledger.drop(gone);
                }
            }
            clear(target);
        }

        private void clear(int name) {
            if (name >= 0 && name < NAMES) {
                has[name] = NOTHING;
            }
        }

        /** Ends the shares of a variable's value, and the loans to others than that variable. */
        private void endAll(int name) {
            int ended = valueOf(name);
            endLoans(ended, name);
            endShares(ended);
        }

        private void endShares(int ended) {
            for (int i = 0; i < NAMES; i++) {
                if (has[i] == SHARES && value[i] == ended) {
                    lapsed |= 1 << i;
                }
            }
        }

        private void endLoans(int ended, int user) {
            for (int i = 0; i < NAMES; i++) {
                if (i != user && has[i] == BORROWS && value[i] == ended) {
                    lapsed |= 1 << i;
                }
            }
        }

        void die(int fault) {
            life = DEAD;
            broken = fault;
            dropOwned(false);
        }

        void finish() {
            life = DONE;
            dropOwned(true);
        }

        private void dropOwned(boolean affineOnly) {
            for (int i = 0; i < NAMES; i++) {
                int latest = latestOwner(affineOnly);
                if (latest == NONE) {
                    return;
                }
                free(latest);
            }
        }

        private int latestOwner(boolean affineOnly) {
            int latest = NONE;
            for (int i = 0; i < NAMES; i++) {
                boolean counts = owns(i) && (!affineOnly || kind[i] == AFFINE);
                if (counts && (latest == NONE || since[i] > since[latest])) {
                    latest = i;
                }
            }
            return latest;
        }
    }

    /** The messages that wait at each side of each channel: a way has no value, a value has its kind for a mark. */
    static final class Messages {
        private static final int QUEUES = CHANNELS * 2;

        private final int[] counts = new int[QUEUES];
        private final int[] values = new int[QUEUES * ROOM];
        private final int[] marks = new int[QUEUES * ROOM];

        void clear() {
            Arrays.fill(counts, 0);
        }

        int size(int queue) {
            return within(queue, QUEUES) ? counts[queue] : 0;
        }

        int valueAt(int queue, int place) {
            return within(place, size(queue)) ? values[queue * ROOM + place] : NONE;
        }

        int firstMark(int queue) {
            return size(queue) > 0 ? marks[queue * ROOM] : NONE;
        }

        void add(int queue, int value, int mark) {
            int count = size(queue);
            if (within(queue, QUEUES) && count < ROOM) {
                values[queue * ROOM + count] = value;
                marks[queue * ROOM + count] = mark;
                counts[queue]++;
            }
        }

        void removeFirst(int queue) {
            int count = size(queue);
            for (int i = 1; i < count && i < ROOM; i++) {
                values[queue * ROOM + i - 1] = values[queue * ROOM + i];
                marks[queue * ROOM + i - 1] = marks[queue * ROOM + i];
            }
            if (count > 0) {
                counts[queue]--;
            }
        }

        void empty(int queue) {
            if (within(queue, QUEUES)) {
                counts[queue] = 0;
            }
        }
    }

    /** A run: processes do their ops as told, each op behind its rules. */
    static final class Course {
        private static final int FACTOR = 1103515245, ADDEND = 12345, SHIFT = 16;

        private final Code[] codes;
        private final Channels channels;
        private final Ledger ledger = new Ledger();
        private final Messages messages = new Messages();
        private final Body[] bodies = new Body[PROCESSES];
        private boolean on;

        Course(Code[] codes, Channels channels) {
            this.codes = codes;
            this.channels = channels;
            for (int i = 0; i < PROCESSES; i++) {
                bodies[i] = new Body(ledger);
            }
        }

        boolean isOn() {
            return on;
        }

        /** The ledger stays, as it is asked of when the run is over. */
        void stop() {
            on = false;
        }

        void restart() {
            on = true;
            ledger.clear();
            messages.clear();
            for (int i = 0; i < PROCESSES; i++) {
                bodies[i].restart();
            }
        }

        Body body(int process) {
            return bodies[process];
        }

        Ledger ledger() {
            return ledger;
        }

        int countFor(int process, int channel) {
            return messages.size(queueOf(channel, process));
        }

        /** NONE if the channel is none of the process. */
        private int queueOf(int channel, int process) {
            int side = channels.sideOf(channel, process);
            return side == NONE ? NONE : 2 * channel + side;
        }

        int draw(int seed, int turns) {
            int state = seed;
            for (int done = 0; done < turns; done++) {
                int ready = countReady();
                if (ready == 0) {
                    return done;
                }
                state = state * FACTOR + ADDEND;
                advance(readyAt((state >>> SHIFT) % ready), state < 0);
            }
            return turns;
        }

        private int countReady() {
            int ready = 0;
            for (int i = 0; i < PROCESSES; i++) {
                ready += isReady(i) ? 1 : 0;
            }
            return ready;
        }

        private int readyAt(int place) {
            int left = place;
            for (int i = 0; i < PROCESSES; i++) {
                if (isReady(i)) {
                    if (left == 0) {
                        return i;
                    }
                    left--;
                }
            }
            return 0;
        }

        private boolean isReady(int process) {
            return bodies[process].life() == RUNNING && !mustWait(process);
        }

        private boolean mustWait(int process) {
            int op = bodies[process].spot();
            int what = codes[process].whatAt(op);
            int channel = codes[process].channelAt(op);
            if (!suits(process, what, channel) || isBeyondDead(channel, process)) {
                return false;
            }
            if (what == SEND || what == PICK) {
                return countFor(channels.beyond(channel, process), channel) >= ROOM;
            }
            return countFor(process, channel) == 0;
        }

        private boolean suits(int process, int what, int channel) {
            return channels.suit(process, what, channel, bodies[process].stepOf(channel));
        }

        private boolean isBeyondDead(int channel, int process) {
            int other = channels.beyond(channel, process);
            return other != NONE && bodies[other].life() == DEAD;
        }

        boolean advance(int process, boolean coin) {
            if (mustWait(process)) {
                return false;
            }
            int op = bodies[process].spot();
            int what = codes[process].whatAt(op);
            int fault = what == STOP ? endFault(process) : faultAt(process, op, what);
            if (fault != 0) {
                bodies[process].die(fault);
                dropWaiting(process);
            } else if (what == STOP) {
                bodies[process].finish();
            } else {
                perform(process, op, what, coin);
            }
            return true;
        }

        private int endFault(int process) {
            for (int i = 0; i < NAMES; i++) {
                if (bodies[process].ownsLinear(i)) {
                    return KEPT;
                }
            }
            for (int i = 0; i < CHANNELS; i++) {
                int asked = channels.askedOf(process, i, bodies[process].stepOf(i));
                if (asked != NONE && asked != ENDS) {
                    return OPEN;
                }
            }
            return 0;
        }

        private int faultAt(int process, int op, int what) {
            Body body = bodies[process];
            Code code = codes[process];
            int used = code.usedAt(op);
            if (used != NONE && body.hasNothing(used)) {
                return EMPTY;
            }
            int channel = code.channelAt(op);
            boolean suits = suits(process, what, channel);
            boolean wrong = what == SEND && suits && body.kindOf(used) != kindAt(process, channel);
            if (wrong || Code.wrongWay(what, body.shares(used), body.borrows(used))) {
                return KIND;
            }
            if (body.isLapsed(used)) {
                return BORROWED;
            }
            int target = code.targetAt(op);
            if (target != used && body.ownsLinear(target)) {
                return FULL;
            }
            if (channel != NONE && !suits) {
                return SESSION;
            }
            return what == TAKE || what == WAIT ? messageFault(process, what, channel) : 0;
        }

        private int kindAt(int process, int channel) {
            return channels.kindAt(channel, bodies[process].stepOf(channel));
        }

        private int messageFault(int process, int what, int channel) {
            int queue = queueOf(channel, process);
            if (messages.size(queue) == 0) {
                return CANCELLED;
            }
            boolean isValue = messages.valueAt(queue, 0) != NONE;
            boolean awaited = isValue && messages.firstMark(queue) == kindAt(process, channel);
            return (what == TAKE ? awaited : !isValue) ? 0 : SESSION;
        }

        private void dropWaiting(int process) {
            for (int i = 0; i < CHANNELS; i++) {
                int queue = queueOf(i, process);
                for (int place = 0; place < messages.size(queue); place++) {
                    if (messages.valueAt(queue, place) != NONE) {
                        ledger.drop(messages.valueAt(queue, place));
                    }
                }
                messages.empty(queue);
            }
        }

        private void perform(int process, int op, int what, boolean coin) {
            Body body = bodies[process];
            int a = codes[process].aAt(op);
            int b = codes[process].bAt(op);
            boolean jumps = what == JUMP || what == MAYBE && coin;
            switch (what) {
                case MAKE:
                    body.own(a, ledger.newValue(), b);
                    break;
                case MOVE:
                    body.move(a, b);
                    break;
                case FREE:
                    body.free(a);
                    break;
                case READ:
                    body.read(a);
                    break;
                case WRITE:
                    body.write(a);
                    break;
                case SHARE:
                    body.share(a, b);
                    break;
                case LEND:
                    body.lend(a, b);
                    break;
                case SEND:
                    post(process, a, body.handOver(b), body.kindOf(b));
                    break;
                case PICK:
                    post(process, a, NONE, b);
                    break;
                case TAKE:
                    receive(process, a, b);
                    break;
                case WAIT:
                    jumps = receive(process, a, NONE) == 1;
                    break;
                default:
                    break;
            }
            body.goTo(jumps ? codes[process].jumpOf(op) : codes[process].after(op));
        }

        /** Without a value the mark is a way. */
        private void post(int process, int channel, int value, int mark) {
            int step = bodies[process].stepOf(channel);
            bodies[process].setStep(channel, channels.nextAt(channel, step, value == NONE ? mark : 0));
            if (!isBeyondDead(channel, process)) {
                messages.add(queueOf(channel, channels.beyond(channel, process)), value, mark);
            } else if (value != NONE) {
                ledger.drop(value);
            }
        }

        /** Answers the mark of what came: a way goes to no target. */
        private int receive(int process, int channel, int target) {
            int queue = queueOf(channel, process);
            int value = messages.valueAt(queue, 0);
            int mark = messages.firstMark(queue);
            int step = bodies[process].stepOf(channel);
            messages.removeFirst(queue);
            bodies[process].setStep(channel, channels.nextAt(channel, step, value == NONE ? mark : 0));
            if (target != NONE) {
                bodies[process].own(target, value, mark);
            }
            return mark;
        }
    }
}

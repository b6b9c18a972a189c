/** The constants under their plain names, as a class without a package can't be imported from. */
interface Words {
    int NONE = Lineartide.NONE;
    int MANY = Lineartide.MANY, AFFINE = Lineartide.AFFINE, LINEAR = Lineartide.LINEAR;
    int GIVES = Lineartide.GIVES, GETS = Lineartide.GETS, PICKS = Lineartide.PICKS, OFFERS = Lineartide.OFFERS, ENDS = Lineartide.ENDS;
    int MAKE = Lineartide.MAKE, MOVE = Lineartide.MOVE, FREE = Lineartide.FREE, READ = Lineartide.READ, WRITE = Lineartide.WRITE,
        SHARE = Lineartide.SHARE, LEND = Lineartide.LEND, SEND = Lineartide.SEND, TAKE = Lineartide.TAKE, PICK = Lineartide.PICK,
        WAIT = Lineartide.WAIT, MAYBE = Lineartide.MAYBE, JUMP = Lineartide.JUMP, STOP = Lineartide.STOP;
    int UNLIKE = Lineartide.UNLIKE, EMPTY = Lineartide.EMPTY, KIND = Lineartide.KIND, FULL = Lineartide.FULL,
        BORROWED = Lineartide.BORROWED, SESSION = Lineartide.SESSION, KEPT = Lineartide.KEPT, OPEN = Lineartide.OPEN,
        CANCELLED = Lineartide.CANCELLED;
    int RUNNING = Lineartide.RUNNING, DONE = Lineartide.DONE, DEAD = Lineartide.DEAD;
}

import java.util.Arrays;

/**
 * A host on which four tenants run programs apart from one another. The document DOC.md says what each
 * call answers; the numbers of ops, states and limits here are the document's.
 */
public final class TenantHost {
    private static final int HALT = 0;
    private static final int PUSH = 1;
    private static final int ADD = 2;
    private static final int SUB = 3;
    private static final int MUL = 4;
    private static final int DIV = 5;
    private static final int LESS = 6;
    private static final int LOAD = 7;
    private static final int STORE = 8;
    private static final int DUP = 9;
    private static final int POP = 10;
    private static final int NEW = 11;
    private static final int GET = 12;
    private static final int SET = 13;
    private static final int SAME = 14;
    private static final int NIL = 15;
    private static final int SHARED = 16;
    private static final int JUMP = 17;
    private static final int ZERO = 18;
    private static final int OUT = 19;
    private static final int IN = 20;
    private static final int SEND = 21;
    private static final int RECEIVE = 22;
    private static final int START = 23;
    private static final int STOP = 24;

    private static final int IDLE = 0;
    private static final int RUNNING = 1;
    private static final int WAITING = 2;
    private static final int DONE = 3;
    private static final int KILLED = 4;
    private static final int SPENT = 5;
    private static final int BY_DIVIDE = 6;
    private static final int BY_NULL = 7;
    private static final int BY_BARRIER = 8;
    private static final int BY_MEMORY = 9;
    private static final int BY_DENIED = 10;
    private static final int BY_OUTPUT = 11;

    private static final int MAY_SEND = 1;
    private static final int MAY_START = 2;
    private static final int MAY_STOP = 4;
    private static final int MAY_ALL = 7;

    private static final int PROGRAMS = 4;
    private static final int TENANTS = 4;
    private static final int MOST_INSTRUCTIONS = 24;
    private static final int MOST_VALUES = 6;
    private static final int MOST_SHARED = 8;
    private static final int MOST_CELLS = 24;
    private static final int MOST_CELLS_OF_ALL = 48;
    private static final int MOST_STEPS = 3000;
    private static final int MOST_LENGTH = 8;
    private static final int MOST_SLICES = 200;
    private static final int MOST_MESSAGES = 4;
    private static final int MOST_INPUTS = 8;
    private static final int MOST_OUTPUTS = 16;
    private static final int LONGEST_LOOK = 30;
    private static final int LOCALS = 4;
    private static final int FIRST_REFERENCE_LOCAL = 2;

    // A reference is 0 for null, 1 .. 8 for a shared cell and 9 .. 32 for a cell of the tenant's own heap.
    // A set of cells is a long in which bit r stands for reference r.
    private static final int NULL = 0;
    private static final int FIRST_SHARED = 1;
    private static final int FIRST_OWN = FIRST_SHARED + MOST_SHARED;
    private static final int REFERENCES = FIRST_OWN + MOST_CELLS;
    private static final long OWN_CELLS = ((1L << MOST_CELLS) - 1L) << FIRST_OWN;

    private final int length;
    private final Program[] programs = new Program[PROGRAMS];
    private final Tenant[] tenants = new Tenant[TENANTS];
    private int sharedCount = 0;
    private int slice = 0;

    public TenantHost(int length) {
        this.length = Math.max(1, Math.min(MOST_LENGTH, length));
        for (int p = 0; p < PROGRAMS; p++) {
            programs[p] = new Program();
        }
        for (int t = 0; t < TENANTS; t++) {
            tenants[t] = new Tenant();
        }
    }

    public int code(int p, int op, int arg) {
        return isProgram(p) && Instructions.isOne(op, arg) ? programs[p].append(op, arg) : -1;
    }

    public boolean clear(int p) {
        return isProgram(p) && programs[p].empty();
    }

    public boolean seal(int p) {
        return isProgram(p) && programs[p].close();
    }

    public int shape(int p, int i) {
        return isProgram(p) ? programs[p].shapeAt(i) : -1;
    }

    public int share(int num, int left, int right) {
        if (sharedCount >= MOST_SHARED || !isSharedOrNone(left) || !isSharedOrNone(right)) {
            return -1;
        }
        int number = sharedCount;
        for (int t = 0; t < TENANTS; t++) {
            tenants[t].heap.fill(sharedReference(number), num, sharedReference(left), sharedReference(right));
        }
        sharedCount++;
        return number;
    }

    public boolean reserve(int t, int cells, int steps) {
        boolean inRange = isTenant(t) && cells >= 1 && cells <= MOST_CELLS && steps >= 1 && steps <= MOST_STEPS;
        if (!inRange || tenants[t].isReserved() || reservedCells() + cells > MOST_CELLS_OF_ALL) {
            return false;
        }
        tenants[t].heap.reserved = cells;
        tenants[t].stepsReserved = steps;
        return true;
    }

    public boolean permit(int a, int b, int what) {
        if (!isTenant(a) || !isTenant(b) || what < 0 || what > MAY_ALL) {
            return false;
        }
        tenants[a].permitted[b] = what;
        return true;
    }

    public boolean launch(int t, int p) {
        return isTenant(t) && begin(tenants[t], p);
    }

    public boolean feed(int t, int v) {
        return isTenant(t) && tenants[t].inputs.add(v);
    }

    public int run(int n) {
        if (n >= 0 && n <= MOST_SLICES) {
            for (int i = 0; i < n; i++) {
                doSlice(tenants[Math.floorMod(slice, TENANTS)]);
                slice++;
            }
        }
        return slice;
    }

    public int state(int t) {
        return isTenant(t) ? tenants[t].state : -1;
    }

    public int steps(int t) {
        return isTenant(t) ? tenants[t].stepsDone : -1;
    }

    public int used(int t) {
        return isTenant(t) ? Long.bitCount(tenants[t].heap.made) : -1;
    }

    public int live(int t) {
        return isTenant(t) ? Long.bitCount(tenants[t].liveCells()) : -1;
    }

    public int collections(int t) {
        return isTenant(t) ? tenants[t].heap.collected : -1;
    }

    public int ended(int t) {
        return isTenant(t) ? tenants[t].endSlice : -1;
    }

    public int messages(int t) {
        return isTenant(t) ? tenants[t].mail.count : -1;
    }

    public int output(int t, int k) {
        if (!isTenant(t)) {
            return 0;
        }
        return k == -1 ? tenants[t].outputs.count : tenants[t].outputs.itemAt(k);
    }

    public int local(int t, int k) {
        return isTenant(t) && k >= 0 && k < FIRST_REFERENCE_LOCAL ? tenants[t].locals[k] : 0;
    }

    public int look(int t, int path, int n) {
        if (!isTenant(t) || n < 0 || n > LONGEST_LOOK) {
            return 0;
        }
        Heap heap = tenants[t].heap;
        int reference = tenants[t].locals[FIRST_REFERENCE_LOCAL];
        for (int j = 0; j < n && reference != NULL; j++) {
            boolean toTheRight = (path >> j & 1) == 1;
            reference = toTheRight ? heap.rights[reference] : heap.lefts[reference];
        }
        return reference == NULL ? 0 : heap.nums[reference];
    }

    private static boolean isProgram(int p) {
        return p >= 0 && p < PROGRAMS;
    }

    private static boolean isTenant(int t) {
        return t >= 0 && t < TENANTS;
    }

    private boolean isSharedOrNone(int number) {
        return number >= -1 && number < sharedCount;
    }

    /** Number -1, which the document gives for no cell, falls on null. */
    private static int sharedReference(int number) {
        return FIRST_SHARED + number;
    }

    private int reservedCells() {
        int sum = 0;
        for (int t = 0; t < TENANTS; t++) {
            sum += tenants[t].heap.reserved;
        }
        return sum;
    }

    private boolean begin(Tenant tenant, int p) {
        if (tenant.state != IDLE || !tenant.isReserved() || !isProgram(p) || !programs[p].closed) {
            return false;
        }
        // A tenant is launched once at most, so its stack and locals are still as they were made.
        tenant.program = p;
        tenant.state = RUNNING;
        return true;
    }

    private void end(Tenant tenant, int state) {
        tenant.state = state;
        tenant.endSlice = slice;
        tenant.dropAll();
    }

    private void doSlice(Tenant tenant) {
        for (int i = 0; i < length && tenant.isAlive(); i++) {
            if (tenant.stepsDone >= tenant.stepsReserved) {
                end(tenant, SPENT);
            } else if (mustWait(tenant)) {
                tenant.state = WAITING;
                break;
            } else {
                doInstruction(tenant);
            }
        }
    }

    private boolean mustWait(Tenant tenant) {
        return tenant.mail.count == 0 && programs[tenant.program].opAt(tenant.position) == RECEIVE;
    }

    private void doInstruction(Tenant tenant) {
        int op = programs[tenant.program].opAt(tenant.position);
        int arg = programs[tenant.program].argAt(tenant.position);
        tenant.state = RUNNING;
        tenant.stepsDone++;
        tenant.position++;
        switch (op) {
            case HALT: end(tenant, DONE); break;
            case PUSH: tenant.stack.putNumber(arg); break;
            case ADD:
            case SUB:
            case MUL:
            case LESS: calculate(tenant.stack, op); break;
            case DIV: divide(tenant); break;
            case LOAD: tenant.stack.put(tenant.locals[arg], arg >= FIRST_REFERENCE_LOCAL); break;
            case STORE: tenant.locals[arg] = tenant.stack.take(); break;
            case DUP: tenant.stack.putTopAgain(); break;
            case POP: tenant.stack.take(); break;
            case NEW: makeCell(tenant); break;
            case GET: getPart(tenant, arg); break;
            case SET: setPart(tenant, arg); break;
            case SAME: compare(tenant.stack); break;
            case NIL: tenant.stack.putReference(NULL); break;
            case SHARED: tenant.stack.putReference(arg < sharedCount ? sharedReference(arg) : NULL); break;
            case JUMP: tenant.position = arg; break;
            case ZERO: jumpIfZero(tenant, arg); break;
            case OUT: putOut(tenant); break;
            case IN: tenant.stack.putNumber(tenant.inputs.takeFirst()); break;
            case SEND: sendTo(tenant, arg); break;
            case RECEIVE: tenant.stack.putReference(tenant.mail.takeFirst()); break;
            case START: startOther(tenant, arg); break;
            case STOP: stopOther(tenant, arg); break;
            default: break;
        }
    }

    private static void calculate(Stack stack, int op) {
        int y = stack.take();
        int x = stack.take();
        switch (op) {
            case ADD: stack.putNumber(x + y); break;
            case SUB: stack.putNumber(x - y); break;
            case MUL: stack.putNumber(x * y); break;
            default: stack.putTruth(x < y); break;
        }
    }

    private void divide(Tenant tenant) {
        int y = tenant.stack.take();
        int x = tenant.stack.take();
        if (y == 0) {
            end(tenant, BY_DIVIDE);
        } else {
            tenant.stack.putNumber(x / y);
        }
    }

    private void makeCell(Tenant tenant) {
        if (tenant.hasRoom(1)) {
            int num = tenant.stack.take();
            tenant.stack.putReference(tenant.heap.make(num));
        } else {
            end(tenant, BY_MEMORY);
        }
    }

    private void getPart(Tenant tenant, int part) {
        int cell = tenant.stack.take();
        if (cell == NULL) {
            end(tenant, BY_NULL);
        } else {
            tenant.stack.put(tenant.heap.rowOf(part)[cell], part != 0);
        }
    }

    private void setPart(Tenant tenant, int part) {
        int value = tenant.stack.take();
        int cell = tenant.stack.take();
        if (cell == NULL) {
            end(tenant, BY_NULL);
        } else if (cell < FIRST_OWN) {
            end(tenant, BY_BARRIER);
        } else {
            tenant.heap.rowOf(part)[cell] = value;
        }
    }

    private static void compare(Stack stack) {
        int upper = stack.take();
        int lower = stack.take();
        stack.putTruth(lower == upper);
    }

    private static void jumpIfZero(Tenant tenant, int position) {
        if (tenant.stack.take() == 0) {
            tenant.position = position;
        }
    }

    private void putOut(Tenant tenant) {
        if (!tenant.outputs.add(tenant.stack.take())) {
            end(tenant, BY_OUTPUT);
        }
    }

    private void sendTo(Tenant sender, int number) {
        if (!sender.may(MAY_SEND, number)) {
            end(sender, BY_DENIED);
            return;
        }
        Tenant receiver = tenants[number];
        // The reference is left on the stack till the copy is made: a tenant that sends to itself must not
        // lose what it sends when it collects.
        int reference = sender.stack.top();
        long cells = sender.heap.reachedFrom(1L << reference);
        boolean arrives = receiver.isAlive() && !receiver.mail.isFull() && receiver.hasRoom(Long.bitCount(cells));
        if (arrives) {
            receiver.mail.add(receiver.heap.copyFrom(sender.heap, cells, reference));
        }
        sender.stack.take();
        sender.stack.putTruth(arrives);
    }

    private void startOther(Tenant tenant, int number) {
        if (tenant.may(MAY_START, number)) {
            int p = tenant.stack.take();
            tenant.stack.putTruth(begin(tenants[number], p));
        } else {
            end(tenant, BY_DENIED);
        }
    }

    private void stopOther(Tenant tenant, int number) {
        if (!tenant.may(MAY_STOP, number)) {
            end(tenant, BY_DENIED);
            return;
        }
        Tenant other = tenants[number];
        boolean stops = other.isAlive();
        if (stops) {
            end(other, KILLED);
        }
        if (tenant.isAlive()) {
            tenant.stack.putTruth(stops);
        }
    }

    /**
     * What the ops take and put, for sealing. The types of values are written as in the answers of shape():
     * 1, and for each value from the lowest on, twice that and 1 more if it is a reference.
     */
    private static final class Instructions {
        static final int NONE = 1;
        static final int I = 2;
        static final int R = 3;
        static final int II = 4;
        static final int RI = 6;
        static final int RR = 7;
        static final int HIGHEST_SHAPE = (2 << MOST_VALUES) - 1;

        // Of the ops whose arg or whose top value decides, the rows hold NONE, and takes() and puts() decide.
        private static final int[] TAKES = {
            NONE, NONE, II, II, II, II, II, NONE, NONE, NONE, NONE, I, R, NONE, RR, NONE, NONE, NONE, I, I, NONE,
            R, NONE, I, NONE
        };
        private static final int[] PUTS = {
            NONE, I, I, I, I, I, I, NONE, NONE, NONE, NONE, R, NONE, NONE, I, R, R, NONE, NONE, NONE, I,
            I, R, I, I
        };
        private static final int[] HIGHEST_ARG = {
            0, 0, 0, 0, 0, 0, 0, 3, 3, 0, 0, 0, 2, 2, 0, 0, 7, 23, 23, 0, 0,
            3, 0, 3, 3
        };

        static boolean isOne(int op, int arg) {
            if (op < HALT || op > STOP) {
                return false;
            }
            return op == PUSH || arg >= 0 && arg <= HIGHEST_ARG[op];
        }

        /** The stack that an instruction leaves where it finds this one; 0 when it may not stand there. */
        static int shapeAfter(int op, int arg, int shape) {
            int top = (shape & 1) == 1 ? R : I;
            int takes = takes(op, arg, top);
            int rest = shape >> countOf(takes);
            if (rest == 0 || join(rest, takes) != shape) {
                return 0;
            }
            int left = join(rest, puts(op, arg, top));
            return left > HIGHEST_SHAPE ? 0 : left;
        }

        private static int takes(int op, int arg, int top) {
            switch (op) {
                case STORE: return typeOfLocal(arg);
                case DUP:
                case POP: return top;
                case SET: return arg == 0 ? RI : RR;
                default: return TAKES[op];
            }
        }

        private static int puts(int op, int arg, int top) {
            switch (op) {
                case LOAD: return typeOfLocal(arg);
                case DUP: return top == I ? II : RR;
                case GET: return arg == 0 ? I : R;
                default: return PUTS[op];
            }
        }

        private static int typeOfLocal(int local) {
            return local < FIRST_REFERENCE_LOCAL ? I : R;
        }

        /** No instruction takes or puts more than two values. */
        private static int countOf(int types) {
            return types >= II ? 2 : types >= I ? 1 : 0;
        }

        private static int join(int lower, int upper) {
            return (lower - 1 << countOf(upper)) + upper;
        }
    }

    private static final class Program {
        private final int[] ops = new int[MOST_INSTRUCTIONS];
        private final int[] args = new int[MOST_INSTRUCTIONS];
        private final int[] shapes = new int[MOST_INSTRUCTIONS];
        private final int[] reached = new int[MOST_INSTRUCTIONS];
        private int reachedCount = 0;
        private int count = 0;
        boolean closed = false;

        int append(int op, int arg) {
            if (closed || count >= MOST_INSTRUCTIONS) {
                return -1;
            }
            ops[count] = op;
            args[count] = arg;
            count++;
            return count - 1;
        }

        boolean empty() {
            if (closed) {
                return false;
            }
            count = 0;
            return true;
        }

        boolean close() {
            if (closed) {
                return false;
            }
            closed = isSound();
            return closed;
        }

        int shapeAt(int position) {
            return closed && has(position) ? shapes[position] : -1;
        }

        int opAt(int position) {
            return has(position) ? ops[position] : HALT;
        }

        int argAt(int position) {
            return has(position) ? args[position] : 0;
        }

        private boolean has(int position) {
            return position >= 0 && position < count;
        }

        private boolean isSound() {
            Arrays.fill(shapes, 0);
            reachedCount = 0;
            boolean sound = reach(0, Instructions.NONE);
            for (int i = 0; sound && i < reachedCount && i < MOST_INSTRUCTIONS; i++) {
                sound = goOnFrom(reached[i]);
            }
            return sound;
        }

        private boolean goOnFrom(int position) {
            int op = ops[position];
            int arg = args[position];
            int left = Instructions.shapeAfter(op, arg, shapes[position]);
            if (left == 0) {
                return false;
            }
            switch (op) {
                case HALT: return true;
                case JUMP: return reach(arg, left);
                case ZERO: return reach(arg, left) && reach(position + 1, left);
                default: return reach(position + 1, left);
            }
        }

        private boolean reach(int position, int shape) {
            if (!has(position)) {
                return false;
            }
            if (shapes[position] == 0) {
                shapes[position] = shape;
                reached[reachedCount] = position;
                reachedCount++;
            }
            return shapes[position] == shape;
        }
    }

    /** Sealing sees to it that a stack is never overfull or too short; the looks at its depth are for safety. */
    private static final class Stack {
        private final int[] values = new int[MOST_VALUES];
        private final boolean[] areReferences = new boolean[MOST_VALUES];
        private int depth = 0;

        void put(int value, boolean isReference) {
            if (depth < MOST_VALUES) {
                values[depth] = value;
                areReferences[depth] = isReference;
                depth++;
            }
        }

        void putNumber(int number) {
            put(number, false);
        }

        void putTruth(boolean truth) {
            put(truth ? 1 : 0, false);
        }

        void putReference(int reference) {
            put(reference, true);
        }

        void putTopAgain() {
            if (depth > 0) {
                put(values[depth - 1], areReferences[depth - 1]);
            }
        }

        int top() {
            return depth > 0 ? values[depth - 1] : 0;
        }

        int take() {
            int value = top();
            depth = Math.max(0, depth - 1);
            return value;
        }

        void drop() {
            depth = 0;
        }

        long cells() {
            long cells = 0L;
            for (int i = 0; i < depth; i++) {
                if (areReferences[i]) {
                    cells |= 1L << values[i];
                }
            }
            return cells;
        }
    }

    /** Values that wait in line; its length is the most that it holds. */
    private static final class Line {
        private final int[] items;
        int count = 0;

        Line(int most) {
            items = new int[most];
        }

        boolean isFull() {
            return count >= items.length;
        }

        boolean add(int item) {
            if (isFull()) {
                return false;
            }
            items[count] = item;
            count++;
            return true;
        }

        int itemAt(int k) {
            return k >= 0 && k < count ? items[k] : 0;
        }

        int takeFirst() {
            int first = itemAt(0);
            if (count > 0) {
                count--;
                System.arraycopy(items, 1, items, 0, count);
            }
            return first;
        }

        void drop() {
            count = 0;
        }
    }

    /**
     * The cells that one tenant's references can name: its own, and the shared ones. Every heap holds the
     * shared cells at the same references; as they never change, the heaps cannot come to differ in them.
     */
    private static final class Heap {
        final int[] nums = new int[REFERENCES];
        final int[] lefts = new int[REFERENCES];
        final int[] rights = new int[REFERENCES];
        private final int[] copies = new int[REFERENCES];
        long made = 0L;
        int reserved = 0;
        int collected = 0;

        Heap() {
            // Null and the shared cells are their own copies; only what stands behind them is ever changed.
            for (int reference = NULL; reference < FIRST_OWN; reference++) {
                copies[reference] = reference;
            }
        }

        int[] rowOf(int part) {
            return part == 0 ? nums : part == 1 ? lefts : rights;
        }

        void fill(int cell, int num, int left, int right) {
            nums[cell] = num;
            lefts[cell] = left;
            rights[cell] = right;
        }

        boolean fits(int cells) {
            return Long.bitCount(made) + cells <= reserved;
        }

        int make(int num) {
            for (int cell = FIRST_OWN; cell < REFERENCES; cell++) {
                if (!isIn(made, cell)) {
                    made |= 1L << cell;
                    fill(cell, num, NULL, NULL);
                    return cell;
                }
            }
            return NULL;
        }

        void keepOnly(long cells) {
            made &= cells;
            collected++;
        }

        /** Shared cells lead to shared cells alone, so they are neither followed nor found. */
        long reachedFrom(long roots) {
            long found = roots & OWN_CELLS;
            long before = 0L;
            // Each pass but the last finds a cell more.
            for (int pass = 0; pass <= MOST_CELLS && found != before; pass++) {
                before = found;
                for (int cell = FIRST_OWN; cell < REFERENCES; cell++) {
                    if (isIn(found, cell)) {
                        found |= (1L << lefts[cell] | 1L << rights[cell]) & OWN_CELLS;
                    }
                }
            }
            return found;
        }

        /** Copies those cells of a heap, perhaps this one, into this one, where there must be room. */
        int copyFrom(Heap from, long cells, int reference) {
            for (int cell = FIRST_OWN; cell < REFERENCES; cell++) {
                if (isIn(cells, cell)) {
                    copies[cell] = make(from.nums[cell]);
                }
            }
            for (int cell = FIRST_OWN; cell < REFERENCES; cell++) {
                if (isIn(cells, cell)) {
                    lefts[copies[cell]] = copies[from.lefts[cell]];
                    rights[copies[cell]] = copies[from.rights[cell]];
                }
            }
            return copies[reference];
        }

        private static boolean isIn(long cells, int cell) {
            return (cells >> cell & 1L) == 1L;
        }
    }

    private static final class Tenant {
        final Heap heap = new Heap();
        final Stack stack = new Stack();
        final int[] locals = new int[LOCALS];
        final Line mail = new Line(MOST_MESSAGES);
        final Line inputs = new Line(MOST_INPUTS);
        final Line outputs = new Line(MOST_OUTPUTS);
        final int[] permitted = new int[TENANTS];
        int state = IDLE;
        int program = 0;
        int position = 0;
        int stepsReserved = 0;
        int stepsDone = 0;
        int endSlice = -1;

        boolean isReserved() {
            return stepsReserved > 0;
        }

        boolean isAlive() {
            return state == RUNNING || state == WAITING;
        }

        boolean may(int what, int other) {
            return (permitted[other] & what) != 0;
        }

        long liveCells() {
            long roots = stack.cells();
            for (int k = FIRST_REFERENCE_LOCAL; k < LOCALS; k++) {
                roots |= 1L << locals[k];
            }
            for (int k = 0; k < mail.count; k++) {
                roots |= 1L << mail.itemAt(k);
            }
            return heap.reachedFrom(roots);
        }

        boolean hasRoom(int cells) {
            if (!heap.fits(cells)) {
                heap.keepOnly(liveCells());
            }
            return heap.fits(cells);
        }

        void dropAll() {
            heap.made = 0L;
            stack.drop();
            mail.drop();
            Arrays.fill(locals, 0);
        }
    }
}

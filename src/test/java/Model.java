import java.util.ArrayDeque;
import java.util.ArrayList;
import java.util.Collections;
import java.util.Deque;
import java.util.IdentityHashMap;
import java.util.List;
import java.util.Map;
import java.util.Set;

/**
 * The document once more, told in another way than the program tells it: cells are Java objects, a value is an
 * Integer or a Ref, types are letters. RandomRunsTest holds the two against each other.
 */
final class Model {
    static final class Cell {
        int num;
        Cell left;
        Cell right;
        boolean shared;

        Cell(int num, Cell left, Cell right, boolean shared) {
            this.num = num;
            this.left = left;
            this.right = right;
            this.shared = shared;
        }
    }

    record Ref(Cell cell) {
    }

    static final class Program {
        final List<int[]> instructions = new ArrayList<>();
        String[] stacks;
    }

    static final class Tenant {
        int state;
        int cells;
        int stepsReserved;
        int steps;
        int collections;
        int ended = -1;
        int position;
        Program program;
        final int[] may = new int[4];
        final List<Cell> heap = new ArrayList<>();
        final Deque<Object> stack = new ArrayDeque<>();
        final Object[] locals = {0, 0, new Ref(null), new Ref(null)};
        final Deque<Ref> messages = new ArrayDeque<>();
        final Deque<Integer> inputs = new ArrayDeque<>();
        final List<Integer> outputs = new ArrayList<>();

        boolean alive() {
            return state == 1 || state == 2;
        }

        Set<Cell> live() {
            Set<Cell> found = Collections.newSetFromMap(new IdentityHashMap<>());
            for (Object value : stack) {
                mark(value, found);
            }
            for (Object value : locals) {
                mark(value, found);
            }
            for (Ref message : messages) {
                mark(message, found);
            }
            return found;
        }

        boolean room(int n) {
            if (heap.size() + n > cells) {
                heap.retainAll(live());
                collections++;
            }
            return heap.size() + n <= cells;
        }
    }

    private final int length;
    private final Program[] programs = {new Program(), new Program(), new Program(), new Program()};
    private final Tenant[] tenants = {new Tenant(), new Tenant(), new Tenant(), new Tenant()};
    private final List<Cell> shared = new ArrayList<>();
    private int slice;

    Model(int length) {
        this.length = length < 1 ? 1 : length > 8 ? 8 : length;
    }

    private static void mark(Object value, Set<Cell> found) {
        if (value instanceof Ref ref && ref.cell != null && !ref.cell.shared && found.add(ref.cell)) {
            mark(new Ref(ref.cell.left), found);
            mark(new Ref(ref.cell.right), found);
        }
    }

    private static boolean within(int value, int low, int high) {
        return low <= value && value <= high;
    }

    private static boolean argFits(String op, int arg) {
        return switch (op) {
            case "PUSH" -> true;
            case "LOAD", "STORE", "SEND", "START", "STOP" -> within(arg, 0, 3);
            case "GET", "SET" -> within(arg, 0, 2);
            case "SHARED" -> within(arg, 0, 7);
            case "JUMP", "ZERO" -> within(arg, 0, 23);
            default -> arg == 0;
        };
    }

    int code(int p, int op, int arg) {
        if (!within(p, 0, 3) || programs[p].stacks != null || !within(op, 0, 24)
            || programs[p].instructions.size() == 24 || !argFits(Code.OPS.get(op), arg)) {
            return -1;
        }
        programs[p].instructions.add(new int[] {op, arg});
        return programs[p].instructions.size() - 1;
    }

    boolean clear(int p) {
        if (!within(p, 0, 3) || programs[p].stacks != null) {
            return false;
        }
        programs[p].instructions.clear();
        return true;
    }

    boolean seal(int p) {
        if (!within(p, 0, 3) || programs[p].stacks != null) {
            return false;
        }
        String[] stacks = new String[programs[p].instructions.size()];
        if (!reach(programs[p].instructions, stacks, 0, "")) {
            return false;
        }
        programs[p].stacks = stacks;
        return true;
    }

    /** What an op takes and puts, as "taken>put"; the lowest value first. */
    private static String effect(String op, int arg, String stack) {
        String top = stack.isEmpty() ? "?" : stack.substring(stack.length() - 1);
        String local = arg < 2 ? "I" : "R";
        return switch (op) {
            case "PUSH", "IN", "STOP" -> ">I";
            case "ADD", "SUB", "MUL", "DIV", "LESS" -> "II>I";
            case "LOAD" -> ">" + local;
            case "STORE" -> local + ">";
            case "DUP" -> top + ">" + top + top;
            case "POP" -> top + ">";
            case "NEW" -> "I>R";
            case "GET" -> "R>" + (arg == 0 ? "I" : "R");
            case "SET" -> arg == 0 ? "RI>" : "RR>";
            case "SAME" -> "RR>I";
            case "NIL", "SHARED", "RECEIVE" -> ">R";
            case "ZERO", "OUT" -> "I>";
            case "SEND" -> "R>I";
            case "START" -> "I>I";
            default -> ">";
        };
    }

    /** The stack after the instruction; null when it may not stand there. */
    static String after(String op, int arg, String stack) {
        String[] effect = effect(op, arg, stack).split(">", -1);
        if (!stack.endsWith(effect[0])) {
            return null;
        }
        String after = stack.substring(0, stack.length() - effect[0].length()) + effect[1];
        return after.length() > 6 ? null : after;
    }

    private static boolean reach(List<int[]> code, String[] stacks, int at, String stack) {
        if (at >= code.size()) {
            return false;
        }
        if (stacks[at] != null) {
            return stacks[at].equals(stack);
        }
        stacks[at] = stack;
        String op = Code.OPS.get(code.get(at)[0]);
        int arg = code.get(at)[1];
        String after = after(op, arg, stack);
        if (after == null) {
            return false;
        }
        boolean next = op.equals("HALT") || op.equals("JUMP") || reach(code, stacks, at + 1, after);
        boolean jump = !op.equals("JUMP") && !op.equals("ZERO") || reach(code, stacks, arg, after);
        return next && jump;
    }

    int shape(int p, int i) {
        if (!within(p, 0, 3) || programs[p].stacks == null || !within(i, 0, programs[p].stacks.length - 1)) {
            return -1;
        }
        String stack = programs[p].stacks[i];
        return stack == null ? 0 : Integer.parseInt("1" + stack.replace('I', '0').replace('R', '1'), 2);
    }

    int share(int num, int left, int right) {
        int count = shared.size();
        if (count == 8 || !within(left, -1, count - 1) || !within(right, -1, count - 1)) {
            return -1;
        }
        shared.add(new Cell(num, left < 0 ? null : shared.get(left), right < 0 ? null : shared.get(right), true));
        return count;
    }

    boolean reserve(int t, int cells, int steps) {
        if (!within(t, 0, 3) || !within(cells, 1, 24) || !within(steps, 1, 3000) || tenants[t].cells > 0) {
            return false;
        }
        int sum = cells;
        for (Tenant tenant : tenants) {
            sum += tenant.cells;
        }
        if (sum > 48) {
            return false;
        }
        tenants[t].cells = cells;
        tenants[t].stepsReserved = steps;
        return true;
    }

    boolean permit(int a, int b, int what) {
        if (!within(a, 0, 3) || !within(b, 0, 3) || !within(what, 0, 7)) {
            return false;
        }
        tenants[a].may[b] = what;
        return true;
    }

    boolean launch(int t, int p) {
        if (!within(t, 0, 3) || !within(p, 0, 3) || tenants[t].state != 0 || tenants[t].cells == 0
            || programs[p].stacks == null) {
            return false;
        }
        tenants[t].program = programs[p];
        tenants[t].state = 1;
        return true;
    }

    boolean feed(int t, int v) {
        if (!within(t, 0, 3) || tenants[t].inputs.size() == 8) {
            return false;
        }
        tenants[t].inputs.add(v);
        return true;
    }

    int run(int n) {
        if (within(n, 0, 200)) {
            for (int i = 0; i < n; i++, slice++) {
                doSlice(tenants[slice % 4]);
            }
        }
        return slice;
    }

    private void end(Tenant tenant, int state) {
        tenant.state = state;
        tenant.ended = slice;
        tenant.heap.clear();
        tenant.messages.clear();
        tenant.stack.clear();
        tenant.locals[0] = 0;
        tenant.locals[1] = 0;
        tenant.locals[2] = new Ref(null);
        tenant.locals[3] = new Ref(null);
    }

    private void doSlice(Tenant tenant) {
        int left = length;
        while (left > 0 && tenant.alive()) {
            left--;
            if (tenant.steps == tenant.stepsReserved) {
                end(tenant, 5);
                return;
            }
            int[] instruction = tenant.program.instructions.get(tenant.position);
            String op = Code.OPS.get(instruction[0]);
            if (op.equals("RECEIVE") && tenant.messages.isEmpty()) {
                tenant.state = 2;
                return;
            }
            tenant.state = 1;
            tenant.steps++;
            tenant.position++;
            int fault = perform(tenant, op, instruction[1]);
            if (fault != 0) {
                end(tenant, fault);
            }
        }
    }

    private static int number(Tenant tenant) {
        return (Integer) tenant.stack.pop();
    }

    private static Cell cell(Tenant tenant) {
        return ((Ref) tenant.stack.pop()).cell;
    }

    /** The state in which the instruction ends its tenant, or 0. */
    private int perform(Tenant tenant, String op, int arg) {
        Deque<Object> stack = tenant.stack;
        switch (op) {
            case "HALT": return 3;
            case "PUSH": stack.push(arg); return 0;
            case "ADD": stack.push(number(tenant) + number(tenant)); return 0;
            case "SUB": stack.push(-number(tenant) + number(tenant)); return 0;
            case "MUL": stack.push(number(tenant) * number(tenant)); return 0;
            case "DIV": {
                int y = number(tenant);
                int x = number(tenant);
                if (y == 0) {
                    return 6;
                }
                stack.push((int) ((long) x / y));
                return 0;
            }
            case "LESS": stack.push(number(tenant) > number(tenant) ? 1 : 0); return 0;
            case "LOAD": stack.push(tenant.locals[arg]); return 0;
            case "STORE": tenant.locals[arg] = stack.pop(); return 0;
            case "DUP": stack.push(stack.peek()); return 0;
            case "POP": stack.pop(); return 0;
            case "JUMP": tenant.position = arg; return 0;
            case "ZERO": tenant.position = number(tenant) == 0 ? arg : tenant.position; return 0;
            case "IN": stack.push(tenant.inputs.isEmpty() ? 0 : tenant.inputs.remove()); return 0;
            case "OUT": {
                if (tenant.outputs.size() == 16) {
                    return 11;
                }
                tenant.outputs.add(number(tenant));
                return 0;
            }
            case "SEND":
            case "RECEIVE":
            case "START":
            case "STOP": return performAmongTenants(tenant, op, arg);
            default: return performOnCells(tenant, op, arg);
        }
    }

    private int performOnCells(Tenant tenant, String op, int arg) {
        Deque<Object> stack = tenant.stack;
        switch (op) {
            case "NEW": {
                if (!tenant.room(1)) {
                    return 9;
                }
                Cell made = new Cell(number(tenant), null, null, false);
                tenant.heap.add(made);
                stack.push(new Ref(made));
                return 0;
            }
            case "GET": {
                Cell cell = cell(tenant);
                if (cell == null) {
                    return 7;
                }
                stack.push(arg == 0 ? (Object) cell.num : new Ref(arg == 1 ? cell.left : cell.right));
                return 0;
            }
            case "SET": {
                Object value = stack.pop();
                Cell cell = cell(tenant);
                if (cell == null) {
                    return 7;
                }
                if (cell.shared) {
                    return 8;
                }
                switch (arg) {
                    case 0: cell.num = (Integer) value; return 0;
                    case 1: cell.left = ((Ref) value).cell; return 0;
                    default: cell.right = ((Ref) value).cell; return 0;
                }
            }
            case "SAME": stack.push(cell(tenant) == cell(tenant) ? 1 : 0); return 0;
            case "NIL": stack.push(new Ref(null)); return 0;
            default: stack.push(new Ref(arg < shared.size() ? shared.get(arg) : null)); return 0;
        }
    }

    private int performAmongTenants(Tenant tenant, String op, int arg) {
        Tenant other = tenants[arg];
        switch (op) {
            case "SEND": {
                if (tenant.may[arg] % 2 == 0) {
                    return 10;
                }
                int sent = deliver((Ref) tenant.stack.peek(), other);
                tenant.stack.pop();
                tenant.stack.push(sent);
                return 0;
            }
            case "RECEIVE": tenant.stack.push(tenant.messages.remove()); return 0;
            case "START": {
                if (tenant.may[arg] / 2 % 2 == 0) {
                    return 10;
                }
                tenant.stack.push(launch(arg, number(tenant)) ? 1 : 0);
                return 0;
            }
            default: {
                if (tenant.may[arg] < 4) {
                    return 10;
                }
                if (other == tenant) {
                    return 4;
                }
                tenant.stack.push(other.alive() ? 1 : 0);
                if (other.alive()) {
                    end(other, 4);
                }
                return 0;
            }
        }
    }

    private static int deliver(Ref ref, Tenant to) {
        Set<Cell> cells = Collections.newSetFromMap(new IdentityHashMap<>());
        mark(ref, cells);
        if (!to.alive() || to.messages.size() == 4 || !to.room(cells.size())) {
            return 0;
        }
        Map<Cell, Cell> copies = new IdentityHashMap<>();
        to.messages.add(new Ref(copy(ref.cell, copies)));
        to.heap.addAll(copies.values());
        return 1;
    }

    private static Cell copy(Cell cell, Map<Cell, Cell> copies) {
        if (cell == null || cell.shared || copies.containsKey(cell)) {
            return cell == null || cell.shared ? cell : copies.get(cell);
        }
        Cell made = new Cell(cell.num, null, null, false);
        copies.put(cell, made);
        made.left = copy(cell.left, copies);
        made.right = copy(cell.right, copies);
        return made;
    }

    int state(int t) {
        return within(t, 0, 3) ? tenants[t].state : -1;
    }

    int steps(int t) {
        return within(t, 0, 3) ? tenants[t].steps : -1;
    }

    int used(int t) {
        return within(t, 0, 3) ? tenants[t].heap.size() : -1;
    }

    int live(int t) {
        return within(t, 0, 3) ? tenants[t].live().size() : -1;
    }

    int collections(int t) {
        return within(t, 0, 3) ? tenants[t].collections : -1;
    }

    int ended(int t) {
        return within(t, 0, 3) ? tenants[t].ended : -1;
    }

    int messages(int t) {
        return within(t, 0, 3) ? tenants[t].messages.size() : -1;
    }

    int output(int t, int k) {
        if (!within(t, 0, 3)) {
            return 0;
        }
        List<Integer> outputs = tenants[t].outputs;
        return k == -1 ? outputs.size() : within(k, 0, outputs.size() - 1) ? outputs.get(k) : 0;
    }

    int local(int t, int k) {
        return within(t, 0, 3) && within(k, 0, 1) ? (Integer) tenants[t].locals[k] : 0;
    }

    int look(int t, int path, int n) {
        if (!within(t, 0, 3) || !within(n, 0, 30)) {
            return 0;
        }
        Cell cell = ((Ref) tenants[t].locals[2]).cell;
        for (int j = 0; j < n && cell != null; j++) {
            cell = (path & 1 << j) != 0 ? cell.right : cell.left;
        }
        return cell == null ? 0 : cell.num;
    }
}

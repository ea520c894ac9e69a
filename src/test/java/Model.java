import java.util.ArrayDeque;
import java.util.ArrayList;
import java.util.Arrays;
import java.util.HashMap;
import java.util.List;
import java.util.Map;

/** The document's terms once more, with the library's collections and no thought of speed, to compare with. */
final class Model {
    private static final String NEEDS = "00112212010021";

    private final int maxHeight;
    private final int pool;
    private final List<int[]> program = new ArrayList<>();

    private final List<Integer> stack = new ArrayList<>();
    private final int[] locals = new int[2];
    private final List<Integer> fields = new ArrayList<>();
    private int status = PathJudge.IDLE;
    private int position = 0;
    private int choices = 0;
    private int forks = 0;

    /** The situations "position stack locals" with their distances, and the faults, since the last change. */
    private final Map<String, Integer> situations = new HashMap<>();
    private final int[] faults = new int[16];

    Model(int maxHeight, int pool) {
        this.maxHeight = Math.max(1, Math.min(4, maxHeight));
        this.pool = Math.max(1, Math.min(8, pool));
    }

    private int refusal(int op, int arg) {
        if (op < 0 || op > 13) {
            return -2;
        }
        return (op == Code.LOAD || op == Code.KEEP) && arg != 0 && arg != 1 ? -3 : 0;
    }

    int emit(int op, int arg) {
        if (program.size() == 16) {
            return -1;
        }
        if (refusal(op, arg) != 0) {
            return refusal(op, arg);
        }
        program.add(new int[] {op, arg});
        changed();
        return program.size() - 1;
    }

    int patch(int p, int op, int arg) {
        if (p < 0 || p >= program.size()) {
            return -1;
        }
        if (refusal(op, arg) != 0) {
            return refusal(op, arg);
        }
        program.set(p, new int[] {op, arg});
        changed();
        return p;
    }

    void clear() {
        program.clear();
        changed();
    }

    int length() {
        return program.size();
    }

    int[] instruction(int p) {
        return program.get(p);
    }

    private void changed() {
        reset(PathJudge.IDLE);
        situations.clear();
        Arrays.fill(faults, 0);
        if (program.isEmpty()) {
            return;
        }
        ArrayDeque<String> waiting = new ArrayDeque<>();
        situations.put("0//UU", 0);
        waiting.add("0//UU");
        while (!waiting.isEmpty()) {
            String from = waiting.remove();
            for (String to : after(from)) {
                if (!situations.containsKey(to)) {
                    situations.put(to, situations.get(from) + 1);
                    waiting.add(to);
                }
            }
        }
    }

    private List<String> after(String situation) {
        String[] parts = situation.split("/");
        int p = Integer.parseInt(parts[0]);
        String cells = parts[1];
        String kept = parts[2];
        int op = program.get(p)[0];
        int arg = program.get(p)[1];
        int needed = NEEDS.charAt(op) - '0';
        if (cells.length() < needed) {
            faults[p] |= PathJudge.UNDER;
            return List.of();
        }
        if (List.of(Code.PUSH, Code.NEW, Code.DUP, Code.LOAD).contains(op) && cells.length() >= maxHeight) {
            faults[p] |= PathJudge.OVER;
            return List.of();
        }
        String wanted = Map.of(Code.ADD, "NN", Code.READ, "R", Code.WRITE, "RN", Code.SAME, "RR", Code.STOP, "N")
                .getOrDefault(op, "");
        if (!cells.endsWith(wanted)) {
            faults[p] |= PathJudge.KIND;
        }
        String used = cells.substring(cells.length() - needed);
        String rest = cells.substring(0, cells.length() - needed);
        if (op == Code.KEEP) {
            kept = arg == 0 ? used + kept.charAt(1) : kept.charAt(0) + used;
        }
        rest += pushed(op, used, op == Code.LOAD ? kept.substring(arg, arg + 1) : "");
        List<Integer> nexts = new ArrayList<>();
        if (op == Code.JUMP || op == Code.FORK) {
            nexts.add(arg);
        }
        if (op != Code.JUMP && op != Code.STOP) {
            nexts.add(p + 1);
        }
        List<String> reached = new ArrayList<>();
        for (int q : nexts) {
            if (q < 0 || q >= program.size()) {
                faults[p] |= PathJudge.LEAVES;
            } else {
                reached.add(q + "/" + rest + "/" + kept);
            }
        }
        return reached;
    }

    private static String pushed(int op, String used, String local) {
        switch (op) {
            case Code.PUSH:
            case Code.ADD:
            case Code.READ:
            case Code.SAME:
                return "N";
            case Code.NEW:
                return "R";
            case Code.DUP:
                return used + used;
            case Code.SWAP:
                return "" + used.charAt(1) + used.charAt(0);
            case Code.LOAD:
                return local;
            case Code.STOP:
                return used;
            default:
                return "";
        }
    }

    int verdict() {
        if (program.isEmpty()) {
            return PathJudge.EMPTY;
        }
        int sum = 0;
        for (int fault : faults) {
            sum |= fault;
        }
        return sum == 0 ? PathJudge.SAFE : PathJudge.UNSAFE;
    }

    int faults(int p) {
        return p >= 0 && p < program.size() ? faults[p] : 0;
    }

    int heights(int p) {
        int bits = 0;
        for (String situation : situations.keySet()) {
            String[] parts = situation.split("/");
            if (parts[0].equals("" + p)) {
                bits |= 1 << parts[1].length();
            }
        }
        return bits;
    }

    int kinds(int p, int h, int place) {
        int bits = 0;
        for (String situation : situations.keySet()) {
            String[] parts = situation.split("/");
            if (parts[0].equals("" + p) && parts[1].length() == h) {
                if (place >= 0 && place < h) {
                    bits |= bitOf(parts[1].charAt(place));
                } else if (place == 4 || place == 5) {
                    bits |= bitOf(parts[2].charAt(place - 4));
                }
            }
        }
        return bits;
    }

    private static int bitOf(char kind) {
        return kind == 'N' ? PathJudge.NUMBER : kind == 'R' ? PathJudge.RECORD : PathJudge.UNSET;
    }

    int distance(int p) {
        int least = -1;
        for (Map.Entry<String, Integer> entry : situations.entrySet()) {
            if (entry.getKey().startsWith(p + "/") && (least < 0 || entry.getValue() < least)) {
                least = entry.getValue();
            }
        }
        return least;
    }

    private void reset(int newStatus) {
        status = newStatus;
        position = 0;
        stack.clear();
        locals[0] = 0;
        locals[1] = 0;
        fields.clear();
        forks = 0;
    }

    boolean start(int newChoices) {
        if (verdict() != PathJudge.SAFE) {
            return false;
        }
        reset(PathJudge.RUNNING);
        choices = newChoices;
        return true;
    }

    int step(int n) {
        int done = 0;
        while (done < Math.min(n, 64) && status == PathJudge.RUNNING) {
            if (program.get(position)[0] == Code.NEW && fields.size() == pool) {
                status = PathJudge.EXHAUSTED;
            } else {
                carryOut(program.get(position)[0], program.get(position)[1]);
                done++;
            }
        }
        return done;
    }

    private int pop() {
        return stack.remove(stack.size() - 1);
    }

    private void carryOut(int op, int arg) {
        int next = position + 1;
        if (op == Code.PUSH) {
            stack.add(arg);
        } else if (op == Code.NEW) {
            stack.add(fields.size());
            fields.add(0);
        } else if (op == Code.POP) {
            pop();
        } else if (op == Code.DUP) {
            stack.add(stack.get(stack.size() - 1));
        } else if (op == Code.SWAP) {
            int top = pop();
            stack.add(stack.size() - 1, top);
        } else if (op == Code.ADD) {
            stack.add(pop() + pop());
        } else if (op == Code.READ) {
            stack.add(fields.get(pop()));
        } else if (op == Code.WRITE) {
            int value = pop();
            fields.set(pop(), value);
        } else if (op == Code.LOAD) {
            stack.add(locals[arg]);
        } else if (op == Code.KEEP) {
            locals[arg] = pop();
        } else if (op == Code.JUMP) {
            next = arg;
        } else if (op == Code.FORK) {
            next = (choices >>> (forks % 32)) % 2 != 0 ? arg : next;
            forks++;
        } else if (op == Code.SAME) {
            stack.add(pop() == pop() ? 1 : 0);
        } else {
            status = PathJudge.STOPPED;
            next = position;
        }
        position = next;
    }

    int status() {
        return status;
    }

    int position() {
        return position;
    }

    int height() {
        return stack.size();
    }

    int records() {
        return fields.size();
    }

    int cell(int i) {
        if (i >= 0 && i < stack.size()) {
            return stack.get(i);
        }
        if (i == 4 || i == 5) {
            return locals[i - 4];
        }
        return i >= 8 && i < 8 + fields.size() ? fields.get(i - 8) : 0;
    }
}

import java.util.ArrayList;
import java.util.HashMap;
import java.util.HashSet;
import java.util.List;
import java.util.Map;
import java.util.Set;

/**
 * Long runs of mixed calls against a model that holds the document's terms word by word: each
 * view a full copy, each commit a line of a history. The runs come from a fixed row of numbers,
 * so that they are the same each time.
 */
public final class ModelTest {
    private static final int RUNS = 4000;
    private static final int CALLS = 512;
    private static final int[] ODD_NUMBERS = {
        -1, 6, 16, 17, -16, 31, Integer.MAX_VALUE, Integer.MIN_VALUE
    };

    private static final class Transaction {
        final boolean serial;
        final int beganAfter;
        final int[] view;
        final Map<Integer, Integer> writes = new HashMap<>();
        final Set<Integer> reads = new HashSet<>();

        Transaction(boolean serial, int beganAfter, int[] view) {
            this.serial = serial;
            this.beganAfter = beganAfter;
            this.view = view;
        }

        int reads(int cell) {
            return writes.getOrDefault(cell, view[cell]);
        }
    }

    private static final class Model {
        final int[] state = new int[16];
        final List<Set<Integer>> history = new ArrayList<>();
        final Map<Integer, Transaction> open = new HashMap<>();

        int begin(boolean serial) {
            for (int t = 0; t <= 5; t++) {
                if (!open.containsKey(t)) {
                    open.put(t, new Transaction(serial, history.size(), state.clone()));
                    return t;
                }
            }
            return -1;
        }

        static boolean isCell(int cell) {
            return 0 <= cell && cell <= 15;
        }

        int read(int t, int cell) {
            Transaction own = open.get(t);
            if (own == null || !isCell(cell)) {
                return 0;
            }
            if (!own.writes.containsKey(cell)) {
                own.reads.add(cell);
            }
            return own.reads(cell);
        }

        int write(int t, int cell, int value) {
            Transaction own = open.get(t);
            if (own == null || !isCell(cell)) {
                return -1;
            }
            own.writes.put(cell, value);
            return 0;
        }

        int add(int t, int cell, int amount) {
            if (!open.containsKey(t) || !isCell(cell)) {
                return 0;
            }
            int total = read(t, cell) + amount;
            write(t, cell, total);
            return total;
        }

        int might(int t) {
            Transaction own = open.get(t);
            if (own == null) {
                return -1;
            }
            for (Set<Integer> later : history.subList(own.beganAfter, history.size())) {
                for (int cell : later) {
                    if (own.writes.containsKey(cell) || own.serial && own.reads.contains(cell)) {
                        return 0;
                    }
                }
            }
            return 1;
        }

        int commit(int t) {
            int might = might(t);
            Transaction own = open.remove(t);
            if (might == 1) {
                own.writes.forEach((cell, value) -> state[cell] = value);
                history.add(own.writes.keySet());
            }
            return might == -1 ? -1 : 1 - might;
        }

        int abort(int t) {
            return open.remove(t) == null ? -1 : 0;
        }

        int committed(int cell) {
            return isCell(cell) ? state[cell] : 0;
        }

        int sum(int t, int first, int last) {
            Transaction own = open.get(t);
            if (own == null) {
                return 0;
            }
            int total = 0;
            for (long cell = Math.max(first, 0); cell <= Math.min(last, 15); cell++) {
                total += own.reads((int) cell);
            }
            return total;
        }
    }

    private static long seed = 20261115L;

    private static int next(int bound) {
        seed = seed * 6364136223846793005L + 1442695040888963407L;
        return (int) ((seed >>> 33) % bound);
    }

    private static int someNumber(int bound) {
        return next(25) == 0 ? ODD_NUMBERS[next(ODD_NUMBERS.length)] : next(bound);
    }

    private static int someValue() {
        return next(4) == 0 ? ODD_NUMBERS[next(ODD_NUMBERS.length)] : next(5) - 2;
    }

    private static String call = "";
    private static int got;
    private static int want;

    private static void note(String name, int answered, int due) {
        call = name;
        got = answered;
        want = due;
    }

    // Few cells make for many conflicts, many cells for few; the runs take turns.
    private static void step(VersionStore x, Model m, int cells, boolean tidies) {
        int t = someNumber(6);
        int c = someNumber(cells);
        int v = someValue();
        int kind = next(20);
        if (tidies && next(6) == 0) {
            x.tidy();
            note("tidy()", 0, 0);
        } else if (kind < 4) {
            boolean serial = next(2) == 0;
            note("begin(" + serial + ")", x.begin(serial), m.begin(serial));
        } else if (kind < 7) {
            note("read(" + t + ", " + c + ")", x.read(t, c), m.read(t, c));
        } else if (kind < 10) {
            note("write(" + t + ", " + c + ", " + v + ")", x.write(t, c, v), m.write(t, c, v));
        } else if (kind < 12) {
            note("add(" + t + ", " + c + ", " + v + ")", x.add(t, c, v), m.add(t, c, v));
        } else if (kind < 15) {
            note("commit(" + t + ")", x.commit(t), m.commit(t));
        } else if (kind == 15) {
            note("abort(" + t + ")", x.abort(t), m.abort(t));
        } else if (kind == 16) {
            note("might(" + t + ")", x.might(t), m.might(t));
        } else if (kind == 17) {
            note("committed(" + c + ")", x.committed(c), m.committed(c));
        } else if (kind == 18) {
            int last = someNumber(16);
            String name = "sum(" + t + ", " + c + ", " + last + ")";
            note(name, x.sum(t, c, last), m.sum(t, c, last));
        } else {
            note("open()", x.open(), m.open.size());
        }
    }

    private static boolean runIsRight(int run) {
        VersionStore x = new VersionStore();
        Model m = new Model();
        int cells = 1 + run % 16;
        boolean tidies = run % 3 == 0;
        StringBuilder told = new StringBuilder();
        for (int i = 0; i < CALLS; i++) {
            step(x, m, cells, tidies);
            told.append("  ").append(call).append(" -> ").append(got).append('\n');
            if (got != want) {
                System.out.print("run " + run + ":\n" + told);
                System.out.println("due is " + want);
                return false;
            }
        }
        return true;
    }

    public static void main(String[] args) {
        for (int run = 0; run < RUNS; run++) {
            if (!runIsRight(run)) {
                System.exit(1);
            }
        }
        System.out.println(RUNS + " runs agree with the model");
    }
}

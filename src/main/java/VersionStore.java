/** A few cells that several transactions read and write at once, each as if alone. */
public final class VersionStore {
    private static final int CELLS = 16;
    private static final int TRANSACTIONS = 6;
    private static final int SLOTS = TRANSACTIONS * CELLS;

    private final int[] committedValues = new int[CELLS];

    // One row of CELLS values for each transaction: its view, with its own writes laid over it.
    // The view under a write is never needed again, so one row serves for both.
    private final int[] rowValues = new int[SLOTS];

    private final boolean[] isOpen = new boolean[TRANSACTIONS];
    private final boolean[] isSerial = new boolean[TRANSACTIONS];

    // Sets of cells, bit c standing for cell c.
    private final int[] writtenCells = new int[TRANSACTIONS];
    private final int[] readCells = new int[TRANSACTIONS];

    // The cells written by others that committed since the transaction began. Kept as a set and
    // not as times of commits, so that no counter grows and no history has to be held.
    private final int[] overtakenCells = new int[TRANSACTIONS];

    public VersionStore() {
        // The arrays' zeros are the state at the start.
    }

    public int begin(boolean serial) {
        for (int transaction = 0; transaction < TRANSACTIONS; transaction++) {
            if (!isOpen[transaction]) {
                start(transaction, serial);
                return transaction;
            }
        }
        return -1;
    }

    public int read(int transaction, int cell) {
        if (!isOpenTransaction(transaction) || !isCell(cell)) {
            return 0;
        }
        rememberRead(transaction, cell);
        return rowValues[transaction * CELLS + cell];
    }

    public int write(int transaction, int cell, int value) {
        if (!isOpenTransaction(transaction) || !isCell(cell)) {
            return -1;
        }
        setOwn(transaction, cell, value);
        return 0;
    }

    public int add(int transaction, int cell, int amount) {
        if (!isOpenTransaction(transaction) || !isCell(cell)) {
            return 0;
        }
        rememberRead(transaction, cell);
        int total = rowValues[transaction * CELLS + cell] + amount;
        setOwn(transaction, cell, total);
        return total;
    }

    public int commit(int transaction) {
        if (!isOpenTransaction(transaction)) {
            return -1;
        }
        isOpen[transaction] = false;
        if (!hasFreeWay(transaction)) {
            return 1;
        }
        publishWrites(transaction);
        overtakeOthers(writtenCells[transaction]);
        return 0;
    }

    public int abort(int transaction) {
        if (!isOpenTransaction(transaction)) {
            return -1;
        }
        isOpen[transaction] = false;
        return 0;
    }

    public int might(int transaction) {
        if (!isOpenTransaction(transaction)) {
            return -1;
        }
        return hasFreeWay(transaction) ? 1 : 0;
    }

    public int committed(int cell) {
        return isCell(cell) ? committedValues[cell] : 0;
    }

    public int sum(int transaction, int first, int last) {
        if (!isOpenTransaction(transaction)) {
            return 0;
        }
        int total = 0;
        // Going over the cells, not over first to last, keeps the loop short for any bounds.
        for (int cell = 0; cell < CELLS; cell++) {
            if (cell >= first && cell <= last) {
                total += rowValues[transaction * CELLS + cell];
            }
        }
        return total;
    }

    public void tidy() {
        // Nothing piles up that could be tidied: begin makes a row and its sets anew.
    }

    public int open() {
        int count = 0;
        for (int transaction = 0; transaction < TRANSACTIONS; transaction++) {
            if (isOpen[transaction]) {
                count++;
            }
        }
        return count;
    }

    private boolean isOpenTransaction(int transaction) {
        return transaction >= 0 && transaction < TRANSACTIONS && isOpen[transaction];
    }

    private static boolean isCell(int cell) {
        return cell >= 0 && cell < CELLS;
    }

    private void start(int transaction, boolean serial) {
        isOpen[transaction] = true;
        isSerial[transaction] = serial;
        writtenCells[transaction] = 0;
        readCells[transaction] = 0;
        overtakenCells[transaction] = 0;
        for (int cell = 0; cell < CELLS; cell++) {
            rowValues[transaction * CELLS + cell] = committedValues[cell];
        }
    }

    private void rememberRead(int transaction, int cell) {
        // A read of the transaction's own write tells it nothing of the committed state.
        if (!holds(writtenCells[transaction], cell)) {
            readCells[transaction] |= 1 << cell;
        }
    }

    private void setOwn(int transaction, int cell, int value) {
        rowValues[transaction * CELLS + cell] = value;
        writtenCells[transaction] |= 1 << cell;
    }

    private boolean hasFreeWay(int transaction) {
        int claimed = writtenCells[transaction];
        if (isSerial[transaction]) {
            claimed |= readCells[transaction];
        }
        return (claimed & overtakenCells[transaction]) == 0;
    }

    private void publishWrites(int transaction) {
        for (int cell = 0; cell < CELLS; cell++) {
            if (holds(writtenCells[transaction], cell)) {
                committedValues[cell] = rowValues[transaction * CELLS + cell];
            }
        }
    }

    private void overtakeOthers(int cells) {
        // Rows that are not open are marked too; begin clears them before they count.
        for (int transaction = 0; transaction < TRANSACTIONS; transaction++) {
            overtakenCells[transaction] |= cells;
        }
    }

    private static boolean holds(int cells, int cell) {
        return ((cells >> cell) & 1) == 1;
    }
}

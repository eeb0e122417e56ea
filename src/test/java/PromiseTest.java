/** For each promise of the document: ordinary inputs, the edges it names, and wrong inputs. */
public final class PromiseTest {
    private static final int MAX = Integer.MAX_VALUE;
    private static final int MIN = Integer.MIN_VALUE;
    private static final int[] NO_CELLS = {-1, 16, 17, 32, 48, -16, MAX, MIN};
    private static final int[] NO_TRANSACTIONS = {-1, 6, 7, 16, -6, MAX, MIN};

    private static int wrong = 0;

    private static void due(String what, int got, int want) {
        if (got != want) {
            wrong++;
            System.out.println(what + " answered " + got + ", due is " + want);
        }
    }

    public static void main(String[] args) {
        newObject();
        objectsAreApart();
        beginTakesTheLeastNumber();
        beginForgetsTheTransactionBefore();
        beginTakesTheSerialSettingAnew();
        readSeesOwnWriteElseView();
        readOfWrongInputs();
        readIsRememberedBySerialOnly();
        readAfterOwnWrite();
        writeKeepsTheLast();
        writeOfWrongInputs();
        addCountsAsReadAndWrite();
        addWraps();
        addOfWrongInputs();
        commitEntersAllWrites();
        commitMeetsOtherWriters();
        commitOfSameValueStillCounts();
        commitThatFailedOvertakesNobody();
        commitWithoutWrites();
        commitOfReusedNumber();
        commitOfSerial();
        abortForgets();
        mightChangesNothing();
        committedOfEveryCell();
        sumOfRanges();
        sumWraps();
        sumIsNoRead();
        tidyChangesNoAnswer();
        openCounts();
        wrongTransactions();
        System.out.println(wrong == 0 ? "all promises hold" : wrong + " answers are not as due");
        if (wrong != 0) {
            System.exit(1);
        }
    }

    // Begins, writes one cell and commits, all in one step.
    private static void put(VersionStore x, int cell, int value) {
        int t = x.begin(false);
        due("put: write", x.write(t, cell, value), 0);
        due("put: commit", x.commit(t), 0);
    }

    // Promise 1

    private static void newObject() {
        VersionStore x = new VersionStore();
        due("1: open of a new object", x.open(), 0);
        for (int c = 0; c < 16; c++) {
            due("1: committed of a new object", x.committed(c), 0);
        }
        for (int t = 0; t < 6; t++) {
            due("1: might of a new object", x.might(t), -1);
        }
        due("1: first begin", x.begin(true), 0);
        for (int c = 0; c < 16; c++) {
            due("1: read of a new object", x.read(0, c), 0);
        }
    }

    private static void objectsAreApart() {
        VersionStore x = new VersionStore();
        put(x, 3, 33);
        x.begin(false);
        VersionStore y = new VersionStore();
        due("1: another object's open", y.open(), 0);
        due("1: another object's cell", y.committed(3), 0);
    }

    // Promise 2

    private static void beginTakesTheLeastNumber() {
        VersionStore x = new VersionStore();
        for (int t = 0; t < 6; t++) {
            due("2: begin", x.begin(t % 2 == 0), t);
        }
        due("2: begin with all open", x.begin(false), -1);
        due("2: begin serial with all open", x.begin(true), -1);
        due("2: all are open still", x.open(), 6);
        x.abort(4);
        x.commit(1);
        due("2: least after closing", x.begin(false), 1);
        due("2: next after closing", x.begin(false), 4);
        due("2: full again", x.begin(false), -1);
    }

    private static void beginForgetsTheTransactionBefore() {
        VersionStore x = new VersionStore();
        x.begin(true);
        x.read(0, 1);
        x.write(0, 2, 22);
        put(x, 5, 55);
        x.abort(0);
        due("2: begin anew", x.begin(true), 0);
        due("2: a write of before is not read", x.read(0, 2), 0);
        due("2: the new view", x.read(0, 5), 55);
        put(x, 1, 11);
        due("2: a read of before does not bind", x.might(0), 1);
        put(x, 2, 12);
        due("2: a read of now binds", x.might(0), 0);
    }

    private static void beginTakesTheSerialSettingAnew() {
        VersionStore x = new VersionStore();
        x.begin(true);
        x.abort(0);
        x.begin(false);
        x.read(0, 0);
        put(x, 0, 1);
        due("2: not serial after serial", x.commit(0), 0);
        x.begin(true);
        x.read(0, 0);
        put(x, 0, 2);
        due("2: serial after not serial", x.commit(0), 1);
    }

    // Promise 3

    private static void readSeesOwnWriteElseView() {
        VersionStore x = new VersionStore();
        put(x, 0, 5);
        put(x, 15, -7);
        int t = x.begin(false);
        due("3: view of cell 0", x.read(t, 0), 5);
        due("3: view of cell 15", x.read(t, 15), -7);
        put(x, 0, 6);
        due("3: the view stays", x.read(t, 0), 5);
        due("3: the committed state moved", x.committed(0), 6);
        x.write(t, 0, 9);
        due("3: own write", x.read(t, 0), 9);
        x.write(t, 0, 0);
        due("3: own write of 0", x.read(t, 0), 0);
        int u = x.begin(false);
        due("3: another's write is not seen", x.read(u, 0), 6);
        // A cell first read only after another's commit still answers the view.
        put(x, 8, 80);
        due("3: late first read", x.read(t, 8), 0);
    }

    private static void readOfWrongInputs() {
        VersionStore x = new VersionStore();
        for (int c = 0; c < 16; c++) {
            put(x, c, 100 + c);
        }
        x.begin(true);
        x.begin(true);
        for (int c : NO_CELLS) {
            due("3: read of no cell", x.read(0, c), 0);
        }
        due("3: read of a transaction not open", x.read(2, 3), 0);
        for (int c = 0; c < 16; c++) {
            put(x, c, 200 + c);
        }
        due("3: nothing is remembered of a wrong cell", x.might(0), 1);
        due("3: nor in the neighbour", x.might(1), 1);
        x.commit(0);
        due("3: read after commit", x.read(0, 3), 0);
        x.abort(1);
        due("3: read after abort", x.read(1, 3), 0);
        x.begin(true);
        put(x, 3, 9);
        due("3: a read before begin is not remembered", x.might(0), 1);
    }

    private static void readIsRememberedBySerialOnly() {
        for (int c = 0; c < 16; c++) {
            VersionStore x = new VersionStore();
            x.begin(true);
            x.begin(false);
            x.read(0, c);
            x.read(1, c);
            put(x, (c + 1) % 16, 1);
            due("3: another cell, serial", x.might(0), 1);
            put(x, c, 1);
            due("3: that cell, serial", x.might(0), 0);
            due("3: that cell, not serial", x.might(1), 1);
        }
    }

    private static void readAfterOwnWrite() {
        VersionStore x = new VersionStore();
        x.begin(true);
        // The read comes after another's commit of the cell, and binds all the same.
        put(x, 4, 1);
        due("3: nothing read yet", x.might(0), 1);
        due("3: read of an overtaken cell", x.read(0, 4), 0);
        due("3: late read binds", x.might(0), 0);
        x.abort(0);
        x.begin(true);
        x.read(0, 4);
        x.write(0, 4, 2);
        due("3: read before own write", x.might(0), 1);
        due("3: read, then write, commits", x.commit(0), 0);
        due("3: its value", x.committed(4), 2);
    }

    // Promise 4

    private static void writeKeepsTheLast() {
        VersionStore x = new VersionStore();
        x.begin(false);
        due("4: write", x.write(0, 0, MAX), 0);
        due("4: write again", x.write(0, 0, MIN), 0);
        due("4: write of the last cell", x.write(0, 15, 15), 0);
        due("4: not committed yet", x.committed(0), 0);
        due("4: not committed yet, last cell", x.committed(15), 0);
        due("4: the last write is read", x.read(0, 0), MIN);
        x.commit(0);
        due("4: the last write is committed", x.committed(0), MIN);
        due("4: and that of the last cell", x.committed(15), 15);
        due("4: a cell beside it", x.committed(1), 0);
    }

    private static void writeOfWrongInputs() {
        VersionStore x = new VersionStore();
        for (int t = 0; t < 6; t++) {
            x.begin(false);
        }
        for (int c : NO_CELLS) {
            due("4: write to no cell", x.write(2, c, 77), -1);
        }
        for (int t = 0; t < 6; t++) {
            due("4: wrong writes left no value", x.sum(t, 0, 15), 0);
        }
        x.abort(0);
        due("4: write of one not open", x.write(0, 1, 77), -1);
        x.begin(false);
        due("4: it left nothing for the next", x.read(0, 1), 0);
        x.commit(0);
        due("4: nor in the committed state", x.committed(1), 0);
        put(x, 0, 1);
        due("4: wrong writes count as none", x.might(2), 1);
    }

    // Promise 5

    private static void addCountsAsReadAndWrite() {
        VersionStore x = new VersionStore();
        put(x, 2, 10);
        for (int serial = 0; serial < 2; serial++) {
            int t = x.begin(serial == 1);
            int before = x.committed(2);
            due("5: add to the view", x.add(t, 2, 5), before + 5);
            due("5: add to the own write", x.add(t, 2, -7), before - 2);
            due("5: it is read", x.read(t, 2), before - 2);
            due("5: it is not committed yet", x.committed(2), before);
            due("5: commit", x.commit(t), 0);
            due("5: it is committed", x.committed(2), before - 2);
            int u = x.begin(serial == 1);
            x.add(u, 2, 0);
            put(x, 2, 50);
            due("5: add of 0 is a write", x.might(u), 0);
            due("5: add is of the view", x.add(u, 2, 1), before - 1);
            x.abort(u);
        }
        int t = x.begin(false);
        x.add(t, 9, 0);
        int u = x.begin(false);
        x.write(u, 9, 4);
        due("5: an added cell commits", x.commit(t), 0);
        due("5: and overtakes a writer", x.commit(u), 1);
    }

    private static void addWraps() {
        VersionStore x = new VersionStore();
        x.begin(false);
        due("5: up to the greatest", x.add(0, 0, MAX), MAX);
        due("5: over the greatest", x.add(0, 0, 1), MIN);
        due("5: under the least", x.add(0, 0, -1), MAX);
        due("5: least twice", x.add(0, 1, MIN) + x.add(0, 1, MIN), MIN);
        due("5: which is 0", x.read(0, 1), 0);
    }

    private static void addOfWrongInputs() {
        VersionStore x = new VersionStore();
        put(x, 0, 3);
        for (int t = 0; t < 6; t++) {
            x.begin(true);
        }
        for (int c : NO_CELLS) {
            due("5: add to no cell", x.add(2, c, 9), 0);
        }
        for (int t = 0; t < 6; t++) {
            due("5: wrong adds left no value", x.sum(t, 0, 15), 3);
        }
        x.abort(5);
        due("5: add of one not open", x.add(5, 0, 9), 0);
        put(x, 0, 4);
        due("5: committed", x.committed(0), 4);
        due("5: wrong adds bind nothing", x.might(2), 1);
    }

    // Promise 6

    private static void commitEntersAllWrites() {
        VersionStore x = new VersionStore();
        x.begin(false);
        for (int c = 0; c < 16; c++) {
            x.write(0, c, c * c - 20);
        }
        due("6: commit", x.commit(0), 0);
        for (int c = 0; c < 16; c++) {
            due("6: each write entered", x.committed(c), c * c - 20);
        }
        due("6: open no longer", x.open(), 0);
        due("6: commit twice", x.commit(0), -1);
    }

    private static void commitMeetsOtherWriters() {
        VersionStore x = new VersionStore();
        x.begin(false);
        x.begin(false);
        x.begin(false);
        x.write(0, 1, 10);
        x.write(1, 1, 20);
        x.write(1, 2, 21);
        x.write(2, 2, 30);
        due("6: the first writer", x.commit(0), 0);
        due("6: the second writer", x.commit(1), 1);
        due("6: its number is free", x.open(), 1);
        due("6: it is open no longer", x.might(1), -1);
        due("6: none of its writes entered", x.committed(2), 0);
        due("6: the first's value stays", x.committed(1), 10);
        due("6: a writer of another cell", x.commit(2), 0);
        due("6: its value", x.committed(2), 30);
        // Only the written cells enter: the old view of cell 1 does not come back.
        due("6: the view does not overwrite", x.committed(1), 10);
    }

    private static void commitOfSameValueStillCounts() {
        VersionStore x = new VersionStore();
        put(x, 0, 8);
        x.begin(false);
        x.begin(false);
        x.write(0, 0, 8);
        x.write(1, 0, 8);
        due("6: write of the value that is there", x.commit(0), 0);
        due("6: it overtakes all the same", x.commit(1), 1);
        // The value went away and came back.
        x.begin(false);
        put(x, 0, 9);
        put(x, 0, 8);
        x.write(0, 0, 1);
        due("6: there and back again", x.commit(0), 1);
    }

    private static void commitThatFailedOvertakesNobody() {
        VersionStore x = new VersionStore();
        x.begin(false);
        x.begin(false);
        x.write(0, 0, 1);
        x.write(0, 7, 1);
        x.write(1, 7, 2);
        put(x, 0, 5);
        due("6: fails on cell 0", x.commit(0), 1);
        due("6: cell 7 was not overtaken", x.commit(1), 0);
        due("6: the value of cell 7", x.committed(7), 2);
    }

    private static void commitWithoutWrites() {
        VersionStore x = new VersionStore();
        x.begin(false);
        x.begin(true);
        put(x, 0, 1);
        due("6: nothing written", x.commit(0), 0);
        due("6: nothing written or read, serial", x.commit(1), 0);
        due("6: nothing changed", x.committed(0), 1);
    }

    private static void commitOfReusedNumber() {
        VersionStore x = new VersionStore();
        for (int i = 0; i < 20; i++) {
            due("6: the same number", x.begin(i % 2 == 0), 0);
            due("6: reads the one before", x.add(0, 3, 1), i + 1);
            due("6: commits before begin do not count", x.commit(0), 0);
        }
        // One commits over several later ones, each of which ends before it.
        x.begin(false);
        for (int i = 0; i < 20; i++) {
            put(x, i % 8, i);
        }
        x.write(0, 8, 1);
        due("6: cell untouched by the others", x.might(0), 1);
        x.write(0, 5, 1);
        due("6: cell touched long ago", x.commit(0), 1);
    }

    private static void commitOfSerial() {
        VersionStore x = new VersionStore();
        x.begin(true);
        x.begin(true);
        x.read(0, 1);
        x.read(1, 2);
        x.write(0, 2, 1);
        x.write(1, 1, 1);
        due("6: first of a skewed pair", x.commit(0), 0);
        due("6: second of a skewed pair", x.commit(1), 1);
        due("6: its write did not enter", x.committed(1), 0);
        x.begin(false);
        x.begin(false);
        x.read(0, 1);
        x.read(1, 2);
        x.write(0, 2, 2);
        x.write(1, 1, 2);
        due("6: first of the pair, not serial", x.commit(0), 0);
        due("6: second of the pair, not serial", x.commit(1), 0);
        x.begin(true);
        x.write(0, 4, 1);
        x.read(0, 5);
        put(x, 6, 1);
        due("6: serial, not in the way", x.might(0), 1);
        put(x, 4, 2);
        due("6: serial with a written cell overtaken", x.commit(0), 1);
        x.begin(true);
        x.read(0, 0);
        put(x, 0, 1);
        due("6: serial that has only read", x.commit(0), 1);
    }

    // Promise 7

    private static void abortForgets() {
        VersionStore x = new VersionStore();
        x.begin(false);
        x.begin(true);
        x.write(0, 1, 9);
        x.write(1, 1, 4);
        x.read(1, 2);
        x.write(0, 2, 9);
        due("7: abort", x.abort(0), 0);
        due("7: abort twice", x.abort(0), -1);
        due("7: open no longer", x.open(), 1);
        due("7: its write did not enter", x.committed(1), 0);
        due("7: it overtook nobody", x.commit(1), 0);
        due("7: abort after commit", x.abort(1), -1);
        due("7: the committed state stays", x.committed(1), 4);
        due("7: its number is free", x.begin(false), 0);
        due("7: its write is forgotten", x.read(0, 2), 0);
        due("7: commit of nothing", x.commit(0), 0);
        due("7: and nothing entered", x.committed(2), 0);
    }

    // Promise 8

    private static void mightChangesNothing() {
        VersionStore x = new VersionStore();
        due("8: not open", x.might(0), -1);
        x.begin(false);
        due("8: nothing done", x.might(0), 1);
        x.write(0, 0, 1);
        due("8: a write", x.might(0), 1);
        due("8: again", x.might(0), 1);
        due("8: it is open still", x.open(), 1);
        due("8: nothing entered", x.committed(0), 0);
        put(x, 0, 2);
        due("8: overtaken", x.might(0), 0);
        due("8: overtaken, again", x.might(0), 0);
        due("8: its write is there still", x.read(0, 0), 1);
        due("8: commit agrees", x.commit(0), 1);
        due("8: open no longer", x.might(0), -1);
        // A write after another's commit counts as one before it.
        x.begin(false);
        put(x, 3, 1);
        due("8: before the write", x.might(0), 1);
        x.write(0, 3, 2);
        due("8: after the write", x.might(0), 0);
    }

    // Promise 9

    private static void committedOfEveryCell() {
        VersionStore x = new VersionStore();
        for (int c = 0; c < 16; c++) {
            put(x, c, 1000 - c);
        }
        for (int c = 0; c < 16; c++) {
            due("9: committed", x.committed(c), 1000 - c);
        }
        for (int c : NO_CELLS) {
            due("9: committed of no cell", x.committed(c), 0);
        }
    }

    // Promise 10

    private static void sumOfRanges() {
        VersionStore x = new VersionStore();
        x.begin(false);
        for (int c = 0; c < 16; c++) {
            x.write(0, c, 1 << c);
        }
        x.commit(0);
        x.begin(false);
        x.begin(false);
        for (int first = -2; first < 18; first++) {
            for (int last = -2; last < 18; last++) {
                int want = 0;
                for (int c = Math.max(first, 0); c <= Math.min(last, 15); c++) {
                    want |= 1 << c;
                }
                due("10: sum from " + first + " to " + last, x.sum(1, first, last), want);
            }
        }
        due("10: from the least to the greatest", x.sum(0, MIN, MAX), 65535);
        due("10: from the greatest to the least", x.sum(0, MAX, MIN), 0);
        due("10: up to the greatest", x.sum(0, 15, MAX), 32768);
        due("10: beyond all cells", x.sum(0, 16, MAX), 0);
        due("10: from the least", x.sum(0, MIN, 0), 1);
        due("10: before all cells", x.sum(0, MIN, -1), 0);
        put(x, 0, 500);
        due("10: the view stays", x.sum(0, 0, 1), 3);
        x.write(0, 1, 70);
        due("10: own writes are in it", x.sum(0, 0, 2), 75);
        due("10: another's are not", x.sum(1, 0, 2), 7);
        due("10: not open", x.sum(2, 0, 15), 0);
    }

    private static void sumWraps() {
        VersionStore x = new VersionStore();
        x.begin(false);
        x.write(0, 0, MAX);
        x.write(0, 1, 1);
        x.write(0, 2, MAX);
        due("10: over the greatest", x.sum(0, 0, 1), MIN);
        due("10: and round again", x.sum(0, 0, 2), -1);
    }

    private static void sumIsNoRead() {
        VersionStore x = new VersionStore();
        x.begin(true);
        x.sum(0, 0, 15);
        x.sum(0, 3, 3);
        put(x, 3, 1);
        due("10: sum binds nothing", x.might(0), 1);
        due("10: the view stays", x.sum(0, 3, 3), 0);
        due("10: commit", x.commit(0), 0);
        // Nor does it take away a read that was there.
        x.begin(true);
        x.read(0, 3);
        x.sum(0, 0, 15);
        put(x, 3, 2);
        due("10: the read before it binds", x.commit(0), 1);
    }

    // Promise 11

    private static void tidyChangesNoAnswer() {
        VersionStore x = new VersionStore();
        x.tidy();
        due("11: open after tidy of a new object", x.open(), 0);
        put(x, 1, 10);
        x.begin(false);
        x.begin(true);
        x.tidy();
        put(x, 1, 11);
        x.tidy();
        put(x, 1, 12);
        x.write(0, 2, 5);
        x.tidy();
        due("11: the view stays", x.read(0, 1), 10);
        due("11: the own write stays", x.read(0, 2), 5);
        due("11: the sum stays", x.sum(0, 0, 15), 15);
        due("11: the committed state stays", x.committed(1), 12);
        due("11: all stay open", x.open(), 2);
        due("11: might of the writer", x.might(0), 1);
        due("11: read of the serial one", x.read(1, 1), 10);
        x.tidy();
        due("11: a conflict stays", x.commit(1), 1);
        x.write(0, 1, 1);
        x.tidy();
        due("11: a conflict stays for a late write", x.commit(0), 1);
        x.tidy();
        due("11: the next number", x.begin(false), 0);
    }

    // Promise 12

    private static void openCounts() {
        VersionStore x = new VersionStore();
        for (int n = 0; n < 6; n++) {
            due("12: open", x.open(), n);
            x.begin(n % 2 == 0);
        }
        due("12: all open", x.open(), 6);
        x.begin(false);
        due("12: none more", x.open(), 6);
        x.abort(0);
        due("12: after abort", x.open(), 5);
        x.abort(0);
        due("12: after a wrong abort", x.open(), 5);
        x.commit(5);
        due("12: after commit", x.open(), 4);
        x.commit(5);
        due("12: after a wrong commit", x.open(), 4);
        x.write(3, 0, 1);
        put(x, 0, 2);
        x.commit(3);
        due("12: after a commit that might not", x.open(), 3);
    }

    // Wrong transactions, for the promises 3 to 8 and 10

    private static void wrongTransactions() {
        VersionStore x = new VersionStore();
        put(x, 0, 6);
        for (int t = 0; t < 6; t++) {
            x.begin(true);
        }
        for (int t : NO_TRANSACTIONS) {
            due("3: read of no transaction", x.read(t, 0), 0);
            due("4: write of no transaction", x.write(t, 0, 7), -1);
            due("5: add of no transaction", x.add(t, 0, 7), 0);
            due("6: commit of no transaction", x.commit(t), -1);
            due("7: abort of no transaction", x.abort(t), -1);
            due("8: might of no transaction", x.might(t), -1);
            due("10: sum of no transaction", x.sum(t, 0, 15), 0);
        }
        due("12: all are open still", x.open(), 6);
        for (int t = 0; t < 6; t++) {
            due("3: no view has changed", x.read(t, 0), 6);
        }
        due("9: nor the committed state", x.committed(0), 6);
    }
}

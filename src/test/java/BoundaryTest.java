import java.util.ArrayList;
import java.util.List;
import java.util.function.Supplier;
import java.util.function.ToIntFunction;

/**
 * One test for each sentence of the document that names a boundary case: too small, too large,
 * empty, full, a wrap-around, a refused call. main lists them with their promises; the words are
 * the document's, shortened, at times with the case that is meant in brackets behind them.
 */
public final class BoundaryTest {
    private static final int MAX = Integer.MAX_VALUE;
    private static final int MIN = Integer.MIN_VALUE;

    // 16, 32 and 95 would be good places in a row of all transactions' cells, 32 is 0 as a shift.
    private static final int[] NO_CELLS = {-1, 16, -2, 17, -16, 32, 95, 96, MIN, MAX};

    // In the state busy(): 3 has committed, 4 has failed to, 5 was aborted; the rest never were.
    private static final int[] NOT_OPEN = {3, 4, 5, -1, 6, -2, 7, -6, 16, MIN, MAX};
    private static final int[] OPEN = {0, 1, 2};

    private static int wrong = 0;
    private static int tests = 0;
    private static String place = "";

    private static void sentence(String promise, String words, Runnable test) {
        place = promise + ", \"" + words + "\"";
        tests++;
        test.run();
    }

    private static void fault(String told) {
        wrong++;
        System.out.println(place + ": " + told);
    }

    private static void due(String what, int got, int want) {
        if (got != want) {
            fault(what + " answered " + got + ", due is " + want);
        }
    }

    public static void main(String[] args) {
        newObject();
        begin();
        read();
        write();
        add();
        commit();
        serialCommit();
        abort();
        might();
        committed();
        sum();
        tidy();
        open();
        longRuns();
        System.out.println(wrong == 0
            ? tests + " boundary sentences hold" : wrong + " answers are not as due");
        if (wrong != 0) {
            System.exit(1);
        }
    }

    private static void newObject() {
        String p = "promise 1";
        sentence(p, "CELLS are 0 to 15", BoundaryTest::firstAndLastCell);
        sentence(p, "with ints", BoundaryTest::leastAndGreatestInt);
        sentence(p, "(0 at the start)", BoundaryTest::cellsAtTheStart);
        sentence(p, "TRANSACTIONS are 0 to 5", BoundaryTest::firstAndLastTransaction);
        sentence(p, "(none at the start)", BoundaryTest::transactionsAtTheStart);
    }

    private static void begin() {
        String p = "promise 2";
        sentence(p, "the least number that is not open", BoundaryTest::leastOfEachSet);
        sentence(p, "or -1 if all are open", BoundaryTest::beginWithAllOpen);
        sentence(p, "-1 if all are open (and opens nothing)", BoundaryTest::refusedBegin);
        sentence(p, "it is serial or not", BoundaryTest::serialAnew);
        sentence(p, "the whole committed state of that moment", BoundaryTest::wholeView);
        sentence(p, "of that moment (not of others' open writes)", BoundaryTest::viewOfThatMoment);
    }

    private static void read() {
        String p = "promise 3";
        sentence(p, "its own last write of a cell if there is one", BoundaryTest::ownWriteOfZero);
        sentence(p, "0 if it is not open", BoundaryTest::readNotOpen);
        sentence(p, "or there is no such cell", BoundaryTest::readNoSuchCell);
        sentence(p, "it is not open or there is no such cell (both)", BoundaryTest::readNeither);
        sentence(p, "(then nothing is remembered of it)", BoundaryTest::refusedRead);
    }

    private static void write() {
        String p = "promise 4";
        sentence(p, "Answers 0", BoundaryTest::writeAnswersZero);
        sentence(p, "-1 if it is not open", BoundaryTest::writeNotOpen);
        sentence(p, "-1 if cell is not from 0 to 15", BoundaryTest::writeNoSuchCell);
        sentence(p, "it is not open or cell is not (both)", BoundaryTest::writeNeither);
        sentence(p, "and changes nothing", BoundaryTest::refusedWrite);
    }

    private static void add() {
        String p = "promise 5";
        sentence(p, "adds amount (wrapping)", BoundaryTest::addWraps);
        sentence(p, "and writes that", BoundaryTest::addWritesTheWrappedSum);
        sentence(p, "counts as a write (of 0 too)", BoundaryTest::addOfNothingIsAWrite);
        sentence(p, "0 if it is not open", BoundaryTest::addNotOpen);
        sentence(p, "0 if there is no such cell", BoundaryTest::addNoSuchCell);
        sentence(p, "it is not open or there is no such cell (both)", BoundaryTest::addNeither);
        sentence(p, "and changes nothing", BoundaryTest::refusedAdd);
    }

    private static void commit() {
        String p = "promise 6";
        sentence(p, "Answers 0 if it might (nothing written)", BoundaryTest::commitOfNothing);
        sentence(p, "for each cell that it has written", BoundaryTest::eachWrittenCellBinds);
        sentence(p, "that committed after it began", BoundaryTest::commitsAroundTheBeginning);
        sentence(p, "no transaction that committed", BoundaryTest::onlyCommittedOnesBind);
        sentence(p, "(whichever value)", BoundaryTest::whicheverValue);
        sentence(p, "all its writes enter the committed state", BoundaryTest::allWritesEnter);
        sentence(p, "1 if it might not", BoundaryTest::commitThatMightNot);
        sentence(p, "(its writes are forgotten)", BoundaryTest::failedWritesAreForgotten);
        sentence(p, "In both cases it is open no longer", BoundaryTest::openNoLonger);
        sentence(p, "-1 if it is not open", BoundaryTest::commitNotOpen);
        sentence(p, "-1 if it is not open (and commits nothing)", BoundaryTest::refusedCommit);
    }

    private static void serialCommit() {
        String p = "promise 6, serial";
        sentence(p, "for each cell that it has read", BoundaryTest::eachReadCellBinds);
        sentence(p, "A SERIAL transaction (no other)", BoundaryTest::readsBindSerialOnly);
        sentence(p, "no write of its own of that cell yet", BoundaryTest::writeOfAnotherCell);
        sentence(p, "that committed after it began", BoundaryTest::readAfterTheOtherCommit);
    }

    private static void abort() {
        String p = "promise 7";
        sentence(p, "is open no longer", BoundaryTest::abortCloses);
        sentence(p, "its writes are forgotten", BoundaryTest::abortedWritesAreForgotten);
        sentence(p, "or -1 if it is not open", BoundaryTest::abortNotOpen);
        sentence(p, "-1 if it is not open (and ends nothing)", BoundaryTest::refusedAbort);
    }

    private static void might() {
        String p = "promise 8";
        sentence(p, "1 if the transaction might commit now", BoundaryTest::mightNow);
        sentence(p, "0 if not", BoundaryTest::mightNot);
        sentence(p, "-1 if it is not open", BoundaryTest::mightNotOpen);
        sentence(p, "might commit (but does not)", BoundaryTest::mightChangesNothing);
    }

    private static void committed() {
        String p = "promise 9";
        sentence(p, "the committed state (no open write)", BoundaryTest::openWritesAreNotCommitted);
        sentence(p, "0 if there is no such cell", BoundaryTest::committedNoSuchCell);
    }

    private static void sum() {
        String p = "promise 10";
        sentence(p, "The sum (wrapping)", BoundaryTest::sumWraps);
        sentence(p, "from first to last", BoundaryTest::sumOfEachRange);
        sentence(p, "(as far as there are such)", BoundaryTest::sumBeyondTheCells);
        sentence(p, "from first to last (none)", BoundaryTest::sumOfNoCells);
        sentence(p, "what the transaction would read", BoundaryTest::sumOfOwnWritesAndView);
        sentence(p, "0 if it is not open", BoundaryTest::sumNotOpen);
        sentence(p, "This is remembered as no read", BoundaryTest::sumIsNoRead);
    }

    private static void tidy() {
        String p = "promise 11";
        sentence(p, "Changes no answer (of a new object)", BoundaryTest::tidyOfANewObject);
        sentence(p, "Changes no answer (some open)", BoundaryTest::tidyWithSomeOpen);
        sentence(p, "Changes no answer (all open)", BoundaryTest::tidyWithAllOpen);
    }

    private static void open() {
        String p = "promise 12";
        sentence(p, "How many transactions are open", BoundaryTest::openOfEachSet);
        sentence(p, "are open (after refused calls)", BoundaryTest::openAfterRefusedCalls);
    }

    private static void longRuns() {
        String p = "promises 2 to 10";
        String words = "at most 512 calls";
        sentence(p, words + " (the first commit still counts)", BoundaryTest::oldestCommit);
        sentence(p, words + " (and no other cell's)", BoundaryTest::manyCommitsToOtherCells);
        sentence(p, words + " (the first view still stands)", BoundaryTest::oldestView);
        sentence(p, words + " (numbers are not used up)", BoundaryTest::numbersAreNotUsedUp);
        sentence(p, words + " (wrapping again and again)", BoundaryTest::wrapsAgainAndAgain);
    }

    // States to begin from

    private static void put(VersionStore x, int cell, int value) {
        int t = x.begin(false);
        x.write(t, cell, value);
        x.commit(t);
    }

    // Each cell c holds 100 + c, so that a 0 is never there by chance.
    private static VersionStore filled() {
        VersionStore x = new VersionStore();
        x.begin(false);
        for (int c = 0; c < 16; c++) {
            x.write(0, c, 100 + c);
        }
        x.commit(0);
        return x;
    }

    // Three open, three ended in the three ways there are. 0 is serial and might commit, 1 might
    // not, 2 is serial and has done nothing.
    private static VersionStore busy() {
        VersionStore x = filled();
        for (int t = 0; t < 6; t++) {
            x.begin(t % 2 == 0);
        }
        x.write(0, 0, 1000);
        x.read(0, 6);
        x.write(1, 1, 1001);
        x.read(1, 7);
        x.write(3, 15, 1003);
        x.write(4, 15, 1004);
        x.write(4, 4, 1004);
        x.write(5, 5, 1005);
        x.commit(3);
        x.commit(4);
        x.abort(5);
        x.write(1, 15, 1015);
        return x;
    }

    private static VersionStore full() {
        VersionStore x = busy();
        for (int t = 3; t < 6; t++) {
            x.begin(t % 2 == 0);
        }
        return x;
    }

    private static VersionStore withOpen(int set) {
        VersionStore x = new VersionStore();
        for (int t = 0; t < 6; t++) {
            x.begin(false);
        }
        for (int t = 0; t < 6; t++) {
            if ((set >> t & 1) == 0) {
                x.abort(t);
            }
        }
        return x;
    }

    // What an object remembers is brought to light by several looks, each at an object of its own,
    // so that no look hides from another what the call before it has changed.

    private interface Look {
        void at(VersionStore x, List<String> told);
    }

    private static void changesNothing(
            String what, Supplier<VersionStore> state, ToIntFunction<VersionStore> call) {
        for (Look look : looks()) {
            VersionStore touched = state.get();
            call.applyAsInt(touched);
            List<String> got = new ArrayList<>();
            List<String> want = new ArrayList<>();
            look.at(touched, got);
            look.at(state.get(), want);
            for (int i = 0; i < want.size(); i++) {
                if (!got.get(i).equals(want.get(i))) {
                    fault("after " + what + " " + got.get(i) + ", without it " + want.get(i));
                    return;
                }
            }
        }
    }

    private static List<Look> looks() {
        List<Look> looks = new ArrayList<>();
        looks.add(BoundaryTest::tellValues);
        looks.add(BoundaryTest::tellCommits);
        for (int c = 0; c < 16; c++) {
            int cell = c;
            looks.add((x, told) -> tellBound(x, told, cell));
            looks.add((x, told) -> tellOvertaken(x, told, cell));
            looks.add((x, told) -> tellSerial(x, told, cell));
            looks.add((x, told) -> tellNext(x, told, cell));
        }
        return looks;
    }

    private static void tellValues(VersionStore x, List<String> told) {
        told.add("open() " + x.open());
        tellCommitted(x, told);
        for (int t = 0; t < 6; t++) {
            for (int c = 0; c < 16; c++) {
                told.add("sum(" + t + ", " + c + ", " + c + ") " + x.sum(t, c, c));
            }
        }
        tellMights(x, told);
    }

    private static void tellCommits(VersionStore x, List<String> told) {
        for (int t = 0; t < 6; t++) {
            told.add("commit(" + t + ") " + x.commit(t));
            tellCommitted(x, told);
        }
    }

    // Who has written the cell, or read it and is serial, might no longer commit.
    private static void tellBound(VersionStore x, List<String> told, int cell) {
        tellPut(x, told, cell);
        tellMights(x, told);
    }

    // Who writes a cell that was overtaken might no longer commit.
    private static void tellOvertaken(VersionStore x, List<String> told, int cell) {
        for (int t = 0; t < 6; t++) {
            told.add("write(" + t + ", " + cell + ", 7) " + x.write(t, cell, 7));
        }
        tellMights(x, told);
    }

    private static void tellSerial(VersionStore x, List<String> told, int cell) {
        for (int t = 0; t < 6; t++) {
            told.add("read(" + t + ", " + cell + ") " + x.read(t, cell));
        }
        tellPut(x, told, cell);
        tellMights(x, told);
    }

    // The next transactions with the same numbers.
    private static void tellNext(VersionStore x, List<String> told, int cell) {
        for (int t = 0; t < 6; t++) {
            told.add("abort(" + t + ") " + x.abort(t));
        }
        for (int t = 0; t < 6; t++) {
            told.add("begin(true) " + x.begin(true));
        }
        for (int t = 0; t < 6; t++) {
            told.add("sum(" + t + ", 0, " + cell + ") " + x.sum(t, 0, cell));
        }
        tellPut(x, told, cell);
        tellMights(x, told);
    }

    private static void tellCommitted(VersionStore x, List<String> told) {
        for (int c = 0; c < 16; c++) {
            told.add("committed(" + c + ") " + x.committed(c));
        }
    }

    private static void tellMights(VersionStore x, List<String> told) {
        for (int t = 0; t < 6; t++) {
            told.add("might(" + t + ") " + x.might(t));
        }
    }

    // 1 gives up its number, so that there is one. In busy() and full() it might not commit, and
    // has nothing to hide but its values.
    private static void tellPut(VersionStore x, List<String> told, int cell) {
        told.add("abort(1) " + x.abort(1));
        int own = x.begin(false);
        told.add("begin(false) " + own);
        told.add("write(" + own + ", " + cell + ", 7) " + x.write(own, cell, 7));
        told.add("commit(" + own + ") " + x.commit(own));
    }

    // Promise 1

    private static void firstAndLastCell() {
        for (int c : new int[] {0, 15}) {
            VersionStore x = new VersionStore();
            x.begin(false);
            due("write to cell " + c, x.write(0, c, 5), 0);
            due("read of cell " + c, x.read(0, c), 5);
            due("add to cell " + c, x.add(0, c, 1), 6);
            due("sum of cell " + c, x.sum(0, c, c), 6);
            x.commit(0);
            due("committed of cell " + c, x.committed(c), 6);
        }
    }

    private static void leastAndGreatestInt() {
        for (int value : new int[] {MIN, MAX, -1, 65536, -65537}) {
            VersionStore x = new VersionStore();
            x.begin(false);
            x.write(0, 3, value);
            due("own read of " + value, x.read(0, 3), value);
            x.commit(0);
            due("committed of " + value, x.committed(3), value);
            x.begin(false);
            due("read in a view of " + value, x.read(0, 3), value);
        }
    }

    private static void cellsAtTheStart() {
        VersionStore x = new VersionStore();
        for (int c = 0; c < 16; c++) {
            due("committed of cell " + c, x.committed(c), 0);
        }
        x.begin(false);
        for (int c = 0; c < 16; c++) {
            due("read of cell " + c, x.read(0, c), 0);
        }
    }

    private static void firstAndLastTransaction() {
        VersionStore x = new VersionStore();
        for (int t = 0; t < 6; t++) {
            due("begin", x.begin(false), t);
        }
        for (int t = 0; t < 6; t++) {
            due("write of transaction " + t, x.write(t, t, t + 1), 0);
            due("read of transaction " + t, x.read(t, t), t + 1);
            due("add of transaction " + t, x.add(t, t, 10), t + 11);
            due("sum of transaction " + t, x.sum(t, 0, 15), t + 11);
            due("might of transaction " + t, x.might(t), 1);
        }
        for (int t = 0; t < 6; t++) {
            due("commit of transaction " + t, x.commit(t), 0);
            due("committed after it", x.committed(t), t + 11);
        }
    }

    private static void transactionsAtTheStart() {
        VersionStore x = new VersionStore();
        due("open", x.open(), 0);
        for (int t = 0; t < 6; t++) {
            due("write of " + t, x.write(t, 0, 1), -1);
            due("might of " + t, x.might(t), -1);
            due("abort of " + t, x.abort(t), -1);
            due("commit of " + t, x.commit(t), -1);
        }
    }

    // Promise 2

    private static void leastOfEachSet() {
        for (int set = 0; set < 63; set++) {
            VersionStore x = withOpen(set);
            int least = Integer.numberOfTrailingZeros(~set);
            due("begin with the open set " + set, x.begin(set % 2 == 0), least);
            due("might of it", x.might(least), 1);
        }
    }

    private static void beginWithAllOpen() {
        VersionStore x = withOpen(63);
        due("begin(false)", x.begin(false), -1);
        due("begin(true)", x.begin(true), -1);
        x.abort(5);
        due("begin with one free", x.begin(true), 5);
        due("begin with none free again", x.begin(true), -1);
    }

    private static void refusedBegin() {
        changesNothing("begin(false)", BoundaryTest::full, x -> x.begin(false));
        changesNothing("begin(true)", BoundaryTest::full, x -> x.begin(true));
    }

    // The same number, once serial and once not, in both orders.
    private static void serialAnew() {
        for (int first = 0; first < 2; first++) {
            VersionStore x = new VersionStore();
            x.begin(first == 1);
            x.abort(0);
            x.begin(first == 0);
            x.read(0, 2);
            put(x, 2, 1);
            due("commit, serial: " + (first == 0), x.commit(0), first == 0 ? 1 : 0);
        }
    }

    private static void wholeView() {
        VersionStore x = filled();
        for (int t = 0; t < 5; t++) {
            x.begin(t % 2 == 0);
        }
        for (int c = 0; c < 16; c++) {
            put(x, c, 200 + c);
        }
        for (int t = 0; t < 5; t++) {
            for (int c = 0; c < 16; c++) {
                due("first read(" + t + ", " + c + ")", x.read(t, c), 100 + c);
            }
        }
    }

    private static void viewOfThatMoment() {
        VersionStore x = filled();
        x.begin(false);
        x.begin(false);
        x.write(0, 3, 9);
        x.begin(false);
        due("read beside a later open write", x.read(1, 3), 103);
        due("read beside an earlier open write", x.read(2, 3), 103);
        x.commit(0);
        due("read after its commit", x.read(1, 3), 103);
        due("read of the third after its commit", x.read(2, 3), 103);
        due("begin after its commit", x.begin(false), 0);
        due("read of the one that began after it", x.read(0, 3), 9);
    }

    // Promise 3

    private static void ownWriteOfZero() {
        VersionStore x = filled();
        x.begin(false);
        x.write(0, 3, 8);
        x.write(0, 3, 0);
        due("read of an own 0", x.read(0, 3), 0);
        due("sum of an own 0", x.sum(0, 3, 3), 0);
        due("add to an own 0", x.add(0, 3, 4), 4);
        x.write(0, 3, 0);
        x.commit(0);
        due("committed of an own 0", x.committed(3), 0);
    }

    private static void readNotOpen() {
        VersionStore x = busy();
        for (int t : NOT_OPEN) {
            for (int c = 0; c < 16; c++) {
                due("read(" + t + ", " + c + ")", x.read(t, c), 0);
            }
        }
    }

    private static void readNoSuchCell() {
        VersionStore x = busy();
        for (int t : OPEN) {
            for (int c : NO_CELLS) {
                due("read(" + t + ", " + c + ")", x.read(t, c), 0);
            }
        }
    }

    private static void readNeither() {
        VersionStore x = busy();
        for (int t : NOT_OPEN) {
            for (int c : NO_CELLS) {
                due("read(" + t + ", " + c + ")", x.read(t, c), 0);
            }
        }
    }

    private static void refusedRead() {
        for (int t : NOT_OPEN) {
            changesNothing("read(" + t + ", 2)", BoundaryTest::busy, x -> x.read(t, 2));
        }
        for (int c : NO_CELLS) {
            for (int t : OPEN) {
                changesNothing("read(" + t + ", " + c + ")", BoundaryTest::busy,
                    x -> x.read(t, c));
            }
        }
    }

    // Promise 4

    private static void writeAnswersZero() {
        VersionStore x = busy();
        due("write of a negative value", x.write(2, 0, -1), 0);
        due("write of the least", x.write(2, 15, MIN), 0);
        due("write of the value that is there", x.write(2, 4, 104), 0);
        due("write to a cell that was overtaken", x.write(0, 15, 5), 0);
    }

    private static void writeNotOpen() {
        VersionStore x = busy();
        for (int t : NOT_OPEN) {
            due("write(" + t + ", 2, 77)", x.write(t, 2, 77), -1);
        }
    }

    private static void writeNoSuchCell() {
        VersionStore x = busy();
        for (int t : OPEN) {
            for (int c : NO_CELLS) {
                due("write(" + t + ", " + c + ", 77)", x.write(t, c, 77), -1);
            }
        }
    }

    private static void writeNeither() {
        VersionStore x = busy();
        for (int t : NOT_OPEN) {
            for (int c : NO_CELLS) {
                due("write(" + t + ", " + c + ", 77)", x.write(t, c, 77), -1);
            }
        }
    }

    private static void refusedWrite() {
        for (int t : NOT_OPEN) {
            changesNothing("write(" + t + ", 2, 77)", BoundaryTest::busy, x -> x.write(t, 2, 77));
        }
        for (int c : NO_CELLS) {
            for (int t : OPEN) {
                changesNothing("write(" + t + ", " + c + ", 77)", BoundaryTest::busy,
                    x -> x.write(t, c, 77));
            }
        }
    }

    // Promise 5

    private static void addWraps() {
        VersionStore x = new VersionStore();
        x.begin(false);
        x.write(0, 0, MAX);
        due("greatest and 1", x.add(0, 0, 1), MIN);
        due("least and -1", x.add(0, 0, -1), MAX);
        due("greatest and greatest", x.add(0, 0, MAX), -2);
        x.write(0, 0, MIN);
        due("least and least", x.add(0, 0, MIN), 0);
    }

    private static void addWritesTheWrappedSum() {
        VersionStore x = new VersionStore();
        put(x, 0, MAX);
        x.begin(false);
        x.add(0, 0, MAX);
        due("read", x.read(0, 0), -2);
        due("add to it", x.add(0, 0, 5), 3);
        x.commit(0);
        due("committed", x.committed(0), 3);
    }

    private static void addOfNothingIsAWrite() {
        VersionStore x = filled();
        x.begin(false);
        due("add of 0", x.add(0, 3, 0), 103);
        put(x, 3, 103);
        due("commit after add of 0", x.commit(0), 1);
        x.begin(false);
        due("add with the sum 0", x.add(0, 4, -104), 0);
        x.commit(0);
        due("committed of the sum 0", x.committed(4), 0);
    }

    private static void addNotOpen() {
        VersionStore x = busy();
        for (int t : NOT_OPEN) {
            due("add(" + t + ", 2, 77)", x.add(t, 2, 77), 0);
        }
    }

    private static void addNoSuchCell() {
        VersionStore x = busy();
        for (int t : OPEN) {
            for (int c : NO_CELLS) {
                due("add(" + t + ", " + c + ", 77)", x.add(t, c, 77), 0);
            }
        }
    }

    private static void addNeither() {
        VersionStore x = busy();
        for (int t : NOT_OPEN) {
            for (int c : NO_CELLS) {
                due("add(" + t + ", " + c + ", 77)", x.add(t, c, 77), 0);
            }
        }
    }

    private static void refusedAdd() {
        for (int t : NOT_OPEN) {
            changesNothing("add(" + t + ", 2, 77)", BoundaryTest::busy, x -> x.add(t, 2, 77));
        }
        for (int c : NO_CELLS) {
            for (int t : OPEN) {
                changesNothing("add(" + t + ", " + c + ", 77)", BoundaryTest::busy,
                    x -> x.add(t, c, 77));
            }
        }
    }

    // Promise 6

    private static void commitOfNothing() {
        for (int serial = 0; serial < 2; serial++) {
            VersionStore x = filled();
            x.begin(serial == 1);
            put(x, 0, 1);
            put(x, 15, 2);
            due("commit", x.commit(0), 0);
            due("committed of cell 0", x.committed(0), 1);
            due("committed of cell 15", x.committed(15), 2);
            due("committed of cell 7", x.committed(7), 107);
        }
    }

    private static void eachWrittenCellBinds() {
        for (int c = 0; c < 16; c++) {
            VersionStore x = new VersionStore();
            x.begin(false);
            x.begin(false);
            for (int d = 0; d < 16; d++) {
                x.write(0, d, 1);
                if (d != c) {
                    x.write(1, d, 1);
                }
            }
            put(x, c, 2);
            due("commit of one that wrote cell " + c + " too", x.commit(0), 1);
            due("commit of one that wrote all but cell " + c, x.commit(1), 0);
        }
    }

    private static void commitsAroundTheBeginning() {
        VersionStore x = new VersionStore();
        x.begin(false);
        x.write(0, 3, 1);
        x.begin(false);
        x.write(1, 4, 1);
        x.commit(0);
        due("the least free number", x.begin(false), 0);
        x.commit(1);
        x.write(0, 3, 2);
        due("might, the other having committed just before it began", x.might(0), 1);
        x.write(0, 4, 2);
        due("commit, the other having begun before it and committed after", x.commit(0), 1);
    }

    private static void onlyCommittedOnesBind() {
        VersionStore x = new VersionStore();
        for (int t = 0; t < 4; t++) {
            x.begin(false);
            x.write(t, 3, t);
        }
        x.write(1, 5, 1);
        put(x, 5, 2);
        x.abort(0);
        due("commit that fails", x.commit(1), 1);
        due("might beside an open, an aborted and a failed writer", x.might(2), 1);
        due("commit beside them", x.commit(2), 0);
        due("commit beside one that committed", x.commit(3), 1);
    }

    private static void whicheverValue() {
        VersionStore x = filled();
        x.begin(false);
        x.begin(false);
        x.write(0, 3, 103);
        x.write(1, 3, 103);
        due("commit of the value that is there", x.commit(0), 0);
        due("commit of the same value once more", x.commit(1), 1);
        x.begin(false);
        put(x, 4, 0);
        put(x, 4, 104);
        x.write(0, 4, 1);
        due("commit after the value went and came back", x.commit(0), 1);
    }

    private static void allWritesEnter() {
        VersionStore x = filled();
        x.begin(false);
        for (int c = 0; c < 16; c++) {
            x.write(0, c, -1 - c);
        }
        due("commit", x.commit(0), 0);
        for (int c = 0; c < 16; c++) {
            due("committed of cell " + c, x.committed(c), -1 - c);
        }
    }

    private static void commitThatMightNot() {
        VersionStore x = busy();
        due("commit", x.commit(1), 1);
        due("commit again", x.commit(1), -1);
    }

    private static void failedWritesAreForgotten() {
        VersionStore x = busy();
        x.commit(1);
        due("committed of the cell that was free", x.committed(1), 101);
        due("committed of the cell in dispute", x.committed(15), 1003);
        x.write(2, 1, 5);
        due("might of another writer", x.might(2), 1);
        due("begin", x.begin(false), 1);
        due("read of the next with that number", x.read(1, 1), 101);
        put(x, 1, 8);
        due("commit of the next with that number", x.commit(1), 0);
        due("committed after it", x.committed(1), 8);
    }

    private static void openNoLonger() {
        VersionStore x = busy();
        due("commit that might", x.commit(0), 0);
        due("might after it", x.might(0), -1);
        due("write after it", x.write(0, 2, 1), -1);
        due("open after it", x.open(), 2);
        due("commit that might not", x.commit(1), 1);
        due("might after that", x.might(1), -1);
        due("write after that", x.write(1, 2, 1), -1);
        due("open after that", x.open(), 1);
    }

    private static void commitNotOpen() {
        VersionStore x = busy();
        for (int t : NOT_OPEN) {
            due("commit(" + t + ")", x.commit(t), -1);
        }
    }

    private static void refusedCommit() {
        for (int t : NOT_OPEN) {
            changesNothing("commit(" + t + ")", BoundaryTest::busy, x -> x.commit(t));
        }
    }

    // Promise 6, serial

    private static void eachReadCellBinds() {
        for (int c = 0; c < 16; c++) {
            VersionStore x = new VersionStore();
            x.begin(true);
            x.begin(true);
            for (int d = 0; d < 16; d++) {
                x.read(0, d);
                if (d != c) {
                    x.read(1, d);
                }
            }
            put(x, c, 0);
            due("commit of one that read cell " + c + " too", x.commit(0), 1);
            due("commit of one that read all but cell " + c, x.commit(1), 0);
        }
    }

    private static void readsBindSerialOnly() {
        VersionStore x = filled();
        x.begin(false);
        for (int c = 0; c < 16; c++) {
            x.read(0, c);
        }
        for (int c = 0; c < 15; c++) {
            put(x, c, 1);
        }
        x.write(0, 15, 1);
        due("commit of one that is not serial", x.commit(0), 0);
    }

    private static void writeOfAnotherCell() {
        VersionStore x = filled();
        x.begin(true);
        x.write(0, 3, 1);
        x.read(0, 4);
        put(x, 4, 1);
        due("commit, a cell beside the own write having been read", x.commit(0), 1);
        x.begin(true);
        x.read(0, 5);
        x.write(0, 5, 1);
        due("commit, the cell read before the own write and left alone", x.commit(0), 0);
    }

    private static void readAfterTheOtherCommit() {
        VersionStore x = filled();
        x.begin(true);
        put(x, 4, 1);
        due("might before the read", x.might(0), 1);
        due("read", x.read(0, 4), 104);
        due("might after the read", x.might(0), 0);
        due("commit", x.commit(0), 1);
        x.begin(true);
        due("read by one that began after it", x.read(0, 4), 1);
        due("commit of one that began after it", x.commit(0), 0);
    }

    // Promise 7

    private static void abortCloses() {
        VersionStore x = busy();
        due("abort of one that might commit", x.abort(0), 0);
        due("abort of one that might not", x.abort(1), 0);
        due("abort of one that did nothing", x.abort(2), 0);
        for (int t : OPEN) {
            due("might(" + t + ") after it", x.might(t), -1);
        }
        due("open after all", x.open(), 0);
    }

    private static void abortedWritesAreForgotten() {
        VersionStore x = busy();
        x.abort(0);
        due("committed", x.committed(0), 100);
        x.write(2, 0, 5);
        due("might of another writer", x.might(2), 1);
        due("begin", x.begin(false), 0);
        due("read of the next with that number", x.read(0, 0), 100);
        put(x, 0, 8);
        due("commit of the next with that number", x.commit(0), 0);
        due("committed after it", x.committed(0), 8);
    }

    private static void abortNotOpen() {
        VersionStore x = busy();
        for (int t : NOT_OPEN) {
            due("abort(" + t + ")", x.abort(t), -1);
        }
    }

    private static void refusedAbort() {
        for (int t : NOT_OPEN) {
            changesNothing("abort(" + t + ")", BoundaryTest::busy, x -> x.abort(t));
        }
    }

    // Promise 8

    private static void mightNow() {
        VersionStore x = new VersionStore();
        x.begin(false);
        due("might of one that did nothing", x.might(0), 1);
        x.write(0, 3, 1);
        due("might before another's commit", x.might(0), 1);
        x.begin(false);
        x.write(1, 3, 2);
        due("might beside an open writer", x.might(0), 1);
        x.commit(1);
        due("might after another's commit", x.might(0), 0);
    }

    private static void mightNot() {
        VersionStore x = busy();
        due("might of one with a cell overtaken", x.might(1), 0);
        put(x, 6, 1);
        due("might of a serial one with a read overtaken", x.might(0), 0);
        due("commit of the first", x.commit(1), 1);
        due("commit of the serial one", x.commit(0), 1);
    }

    private static void mightNotOpen() {
        VersionStore x = busy();
        for (int t : NOT_OPEN) {
            due("might(" + t + ")", x.might(t), -1);
        }
    }

    private static void mightChangesNothing() {
        for (int t : OPEN) {
            changesNothing("might(" + t + ")", BoundaryTest::busy, x -> x.might(t));
        }
        for (int t : NOT_OPEN) {
            changesNothing("might(" + t + ")", BoundaryTest::busy, x -> x.might(t));
        }
    }

    // Promise 9

    private static void openWritesAreNotCommitted() {
        VersionStore x = filled();
        x.begin(false);
        for (int c = 0; c < 16; c++) {
            x.write(0, c, 1);
            due("committed of cell " + c, x.committed(c), 100 + c);
        }
    }

    private static void committedNoSuchCell() {
        VersionStore x = busy();
        for (int c : NO_CELLS) {
            due("committed(" + c + ")", x.committed(c), 0);
        }
    }

    // Promise 10

    private static void sumWraps() {
        VersionStore x = new VersionStore();
        x.begin(false);
        for (int c = 0; c < 16; c++) {
            x.write(0, c, c % 2 == 0 ? MAX : 1);
        }
        due("greatest and 1", x.sum(0, 0, 1), MIN);
        due("round by one turn", x.sum(0, 0, 2), -1);
        due("round by four turns", x.sum(0, 0, 15), 0);
        x.write(0, 0, MIN);
        x.write(0, 1, -1);
        due("least and -1", x.sum(0, 0, 1), MAX);
    }

    private static void sumOfEachRange() {
        VersionStore x = new VersionStore();
        x.begin(false);
        for (int c = 0; c < 16; c++) {
            x.write(0, c, 1 << c);
        }
        for (int first = 0; first < 16; first++) {
            for (int last = first; last < 16; last++) {
                int want = (1 << last + 1) - (1 << first);
                due("sum(0, " + first + ", " + last + ")", x.sum(0, first, last), want);
            }
        }
    }

    // The sums are of the last transaction too, whose row has no other one behind it.
    private static void sumBeyondTheCells() {
        VersionStore x = withOpen(63);
        for (int t = 0; t < 6; t++) {
            for (int c = 0; c < 16; c++) {
                x.write(t, c, 1 << c);
            }
        }
        for (int t = 0; t < 6; t++) {
            due("sum(t, -1, 0)", x.sum(t, -1, 0), 1);
            due("sum(t, least, 1)", x.sum(t, MIN, 1), 3);
            due("sum(t, 15, 16)", x.sum(t, 15, 16), 32768);
            due("sum(t, 14, greatest)", x.sum(t, 14, MAX), 49152);
            due("sum(t, -1, 16)", x.sum(t, -1, 16), 65535);
            due("sum(t, least, greatest)", x.sum(t, MIN, MAX), 65535);
        }
    }

    private static void sumOfNoCells() {
        VersionStore x = filled();
        x.begin(false);
        due("sum(0, 3, 2)", x.sum(0, 3, 2), 0);
        due("sum(0, 15, 0)", x.sum(0, 15, 0), 0);
        due("sum(0, 16, 16)", x.sum(0, 16, 16), 0);
        due("sum(0, 16, greatest)", x.sum(0, 16, MAX), 0);
        due("sum(0, -1, -1)", x.sum(0, -1, -1), 0);
        due("sum(0, least, -1)", x.sum(0, MIN, -1), 0);
        due("sum(0, greatest, least)", x.sum(0, MAX, MIN), 0);
        due("sum(0, 16, -1)", x.sum(0, 16, -1), 0);
    }

    private static void sumOfOwnWritesAndView() {
        VersionStore x = filled();
        x.begin(false);
        x.begin(false);
        x.write(1, 2, 9000);
        put(x, 1, 5000);
        x.write(0, 0, 0);
        due("an own 0, a view and another's open write", x.sum(0, 0, 2), 101 + 102);
        x.commit(1);
        due("the same after the other's commit", x.sum(0, 0, 2), 101 + 102);
    }

    private static void sumNotOpen() {
        VersionStore x = busy();
        for (int t : NOT_OPEN) {
            due("sum(" + t + ", 0, 15)", x.sum(t, 0, 15), 0);
        }
    }

    private static void sumIsNoRead() {
        for (int t : OPEN) {
            changesNothing("sum(" + t + ", 0, 15)", BoundaryTest::busy, x -> x.sum(t, 0, 15));
            changesNothing("sum(" + t + ", 9, 9)", BoundaryTest::busy, x -> x.sum(t, 9, 9));
            changesNothing("sum(" + t + ", -1, 16)", BoundaryTest::busy, x -> x.sum(t, -1, 16));
        }
        for (int t : NOT_OPEN) {
            changesNothing("sum(" + t + ", 0, 15)", BoundaryTest::busy, x -> x.sum(t, 0, 15));
        }
    }

    // Promise 11

    private static int tidied(VersionStore x) {
        x.tidy();
        x.tidy();
        return 0;
    }

    private static void tidyOfANewObject() {
        changesNothing("tidy()", VersionStore::new, BoundaryTest::tidied);
    }

    private static void tidyWithSomeOpen() {
        changesNothing("tidy()", BoundaryTest::busy, BoundaryTest::tidied);
    }

    private static void tidyWithAllOpen() {
        changesNothing("tidy()", BoundaryTest::full, BoundaryTest::tidied);
    }

    // Promise 12

    private static void openOfEachSet() {
        for (int set = 0; set < 64; set++) {
            due("open with the open set " + set, withOpen(set).open(), Integer.bitCount(set));
        }
    }

    private static void openAfterRefusedCalls() {
        VersionStore x = full();
        x.begin(false);
        due("open after a refused begin", x.open(), 6);
        x.abort(4);
        x.abort(4);
        due("open after a refused abort", x.open(), 5);
        x.commit(4);
        due("open after a refused commit", x.open(), 5);
        x.commit(-1);
        x.abort(6);
        due("open after calls of no transaction", x.open(), 5);
    }

    // At most 512 calls. The comments count them.

    private static void oldestCommit() {
        VersionStore x = new VersionStore();
        x.begin(false); // 1
        put(x, 15, 1); // 4
        for (int i = 0; i < 168; i++) {
            put(x, i % 15, i); // 508
        }
        due("might before the write", x.might(0), 1); // 509
        x.write(0, 15, 2); // 510
        due("might after the write", x.might(0), 0); // 511
        due("commit as the 512th call", x.commit(0), 1); // 512
    }

    private static void manyCommitsToOtherCells() {
        VersionStore x = new VersionStore();
        x.begin(true); // 1
        for (int i = 0; i < 169; i++) {
            put(x, i % 15, i); // 508
        }
        x.read(0, 15); // 509
        x.write(0, 15, 2); // 510
        due("commit", x.commit(0), 0); // 511
        due("committed as the 512th call", x.committed(15), 2); // 512
    }

    private static void oldestView() {
        VersionStore x = filled(); // 18
        x.begin(true); // 19
        for (int i = 0; i < 163; i++) {
            put(x, i % 16, i); // 508
        }
        due("committed", x.committed(1), 161); // 509
        due("might of a serial one that has not read", x.might(0), 1); // 510
        due("sum", x.sum(0, 0, 15), 1720); // 511
        due("read as the 512th call", x.read(0, 15), 115); // 512
    }

    private static void numbersAreNotUsedUp() {
        VersionStore x = new VersionStore();
        for (int i = 0; i < 255; i++) {
            due("begin", x.begin(i % 2 == 0), 0);
            due("its end", i % 3 == 0 ? x.abort(0) : x.commit(0), 0); // 510
        }
        due("begin as the 511th call", x.begin(false), 0);
        due("open as the 512th call", x.open(), 1);
    }

    private static void wrapsAgainAndAgain() {
        VersionStore x = new VersionStore();
        x.begin(true); // 1
        int want = 0;
        for (int i = 0; i < 509; i++) {
            want += MAX;
            due("add of the greatest", x.add(0, 8, MAX), want); // 510
        }
        due("commit", x.commit(0), 0); // 511
        due("committed as the 512th call", x.committed(8), MAX - 508); // 512
    }
}

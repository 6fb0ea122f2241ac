import java.util.List;
import java.util.function.Consumer;
import java.util.function.Function;

/**
 * 'A refused call changes nothing' and 'No question changes anything': a book with the call and a book without it
 * answer the same from there on.
 */
public final class UnchangedTest {
    private static final List<Consumer<Book>> WAYS_ON = List.of(
        x -> { },
        Book::close,
        UnchangedTest::goOnWithEntries,
        UnchangedTest::goOnWithUndoneBatch);
    private static final List<Consumer<Book>> STATES = List.of(
        UnchangedTest::empty,
        UnchangedTest::ordinary,
        UnchangedTest::soundBatch,
        UnchangedTest::unsoundBatch,
        UnchangedTest::full,
        UnchangedTest::fullInBatch);

    public static void main(String[] args) {
        testRefusedPost();
        testRefusedTransfer();
        testRefusedCancel();
        testRefusedFloor();
        testRefusedOpenAndClose();
        testQuestions();
        Sentences.end();
    }

    private static void testRefusedPost() {
        refusedAlways("post, -1", -1, x -> x.post(4, 0, 1));
        refusedAlways("post, -2", -2, x -> x.post(0, 48, 1));
        refusedAlways("post, -3 for 0", -3, x -> x.post(0, 0, 0));
        refusedAlways("post, -3 for 10001", -3, x -> x.post(0, 0, 10001));
        refusedAlways("post, -3 for -10001", -3, x -> x.post(0, 0, -10001));
        refused("post, -4", -4, x -> x.post(0, 0, 1), UnchangedTest::full);
        refused("post, -4, in a batch", -4, x -> x.post(0, 0, 1), UnchangedTest::fullInBatch);
        refused("post, -5, no entry", -5, x -> x.post(0, 0, -1), UnchangedTest::empty);
        refused("post, -5", -5, x -> x.post(0, 5, -31), UnchangedTest::ordinary);
        refused("post, -5, with 59 entries", -5, x -> x.post(1, 0, -1), UnchangedTest::almostFull);
    }

    private static void testRefusedTransfer() {
        refusedAlways("transfer, -1 for 16", -1, x -> x.transfer(16, 0, 1));
        refusedAlways("transfer, -1 for -1", -1, x -> x.transfer(-1, 0, 1));
        refusedAlways("transfer, -1 for the same", -1, x -> x.transfer(5, 0, 1));
        refusedAlways("transfer, -2", -2, x -> x.transfer(1, 48, 1));
        refusedAlways("transfer, -3 for 0", -3, x -> x.transfer(1, 47, 0));
        refusedAlways("transfer, -3 for 10001", -3, x -> x.transfer(1, 47, 10001));
        refused("transfer, -4, with 59 entries", -4, x -> x.transfer(1, 0, 1), UnchangedTest::almostFull);
        refused("transfer, -4, with 60 entries", -4, x -> x.transfer(1, 0, 1), UnchangedTest::full);
        refused("transfer, -4, in a batch", -4, x -> x.transfer(1, 0, 1), UnchangedTest::fullInBatch);
        refused("transfer, -5, no entry", -5, x -> x.transfer(1, 0, 1), UnchangedTest::empty);
        refused("transfer, -5", -5, x -> x.transfer(1, 20, 31), UnchangedTest::ordinary);
        refused("transfer, -5, with 58 entries", -5, x -> x.transfer(4, 0, 1), x -> x.fill(0, 58));
    }

    private static void testRefusedCancel() {
        refusedAlways("cancel, -1 for -1", -1, x -> x.cancel(-1));
        refusedAlways("cancel, -1 for 60", -1, x -> x.cancel(60));
        refused("cancel, -1, no entry", -1, x -> x.cancel(0), UnchangedTest::empty);
        refused("cancel, -1, the next entry", -1, x -> x.cancel(7), UnchangedTest::ordinary);
        refused("cancel, -2", -2, x -> x.cancel(5), UnchangedTest::ordinary);
        refused("cancel, -2, cancelled before the batch", -2, x -> x.cancel(5), UnchangedTest::unsoundBatch);
        refused("cancel, -2, cancelled in the batch", -2, x -> x.cancel(0), UnchangedTest::unsoundBatch);
        refused("cancel, -2, put in and cancelled in the batch", -2, x -> x.cancel(9), UnchangedTest::unsoundBatch);
        refused("cancel, -3", -3, x -> x.cancel(0), UnchangedTest::ordinary);
        refused("cancel, -3, the last entry", -3, x -> x.cancel(59), x -> {
            x.floor(0, -59).is(0);
            for (int number = 0; number < 59; number++) {
                x.post(0, 1, -1).is(number);
            }
            x.post(0, 0, 1).is(59);
            x.floor(0, -58).is(-59);
        });
    }

    private static void testRefusedFloor() {
        refusedAlways("floor, -1", -1, x -> x.floor(4, -9));
        refusedAlways("floor, -2 for 10001", -2, x -> x.floor(0, 10001));
        refusedAlways("floor, -2 for -10001", -2, x -> x.floor(0, -10001));
        refused("floor, -3, in an unsound batch", -3, x -> x.floor(0, -9), UnchangedTest::unsoundBatch);
        refused("floor, -3, in a sound batch", -3, x -> x.floor(1, -60), UnchangedTest::soundBatch);
        refused("floor, -4", -4, x -> x.floor(1, -49), UnchangedTest::ordinary);
        refused("floor, -4, no entry", -4, x -> x.floor(3, 1), UnchangedTest::empty);
    }

    private static void testRefusedOpenAndClose() {
        refused("open, -1, in a sound batch", -1, Book::open, UnchangedTest::soundBatch);
        refused("open, -1, in an unsound batch", -1, Book::open, UnchangedTest::unsoundBatch);
        refused("open, -1, with 60 entries", -1, Book::open, UnchangedTest::fullInBatch);
        refused("close, -1, no entry", -1, Book::close, UnchangedTest::empty);
        refused("close, -1", -1, Book::close, UnchangedTest::ordinary);
        refused("close, -1, after a batch that was kept", -1, Book::close, x -> {
            soundBatch(x);
            x.close().is(1);
        });
        refused("close, -1, after a batch that was undone", -1, Book::close, x -> {
            unsoundBatch(x);
            x.close().is(0);
            x.post(3, 0, 4).is(7);
        });
    }

    private static void testQuestions() {
        question("isOpen", Book::isOpen);
        question("entries", Book::entries);
        question("cancelled", x -> x.cancelled(0));
        question("cancelled, not good", x -> x.cancelled(60));
        question("amountOf", x -> x.amountOf(0));
        question("amountOf, not good", x -> x.amountOf(-1));
        question("sound", Book::sound);
        question("balance", x -> x.balance(0, 20));
        question("balance, not good", x -> x.balance(4, 48));
        question("lowest", x -> x.lowest(0, 0, 47));
        question("lowest, account not good", x -> x.lowest(4, 0, 47));
        question("lowest, days not good", x -> x.lowest(0, 1, 0));
        question("total", x -> x.total(0, 0, 47));
        question("total, not good", x -> x.total(0, 0, 48));
        question("firstBelow", x -> x.firstBelow(0, 0, 1));
        question("firstBelow, account not good", x -> x.firstBelow(4, 0, 1));
        question("firstBelow, day not good", x -> x.firstBelow(0, 48, 1));
        question("firstBelow, none", x -> x.firstBelow(0, 0, Book.MIN));
        question("free", x -> x.free(0, 0));
        question("free, account not good", x -> x.free(4, 0));
        question("free, day not good", x -> x.free(0, -1));
        question("firstFree", x -> x.firstFree(2, 1));
        question("firstFree, account not good", x -> x.firstFree(-1, 1));
        question("firstFree, x not good", x -> x.firstFree(0, 0));
        question("firstFree, none", x -> x.firstFree(0, 1000000));
        question("daysBelow", x -> x.daysBelow(0, 31));
        question("daysBelow, not good", x -> x.daysBelow(-1, 31));
    }

    private static void refused(String kind, int due, Function<Book, Answer> call, Consumer<Book> before) {
        refused(kind, due, call, List.of(before));
    }

    private static void refusedAlways(String kind, int due, Function<Book, Answer> call) {
        refused(kind, due, call, STATES);
    }

    private static void refused(String kind, int due, Function<Book, Answer> call, List<Consumer<Book>> states) {
        Sentences.test("A refused call changes nothing: " + kind, () -> {
            for (Consumer<Book> before : states) {
                Book x = new Book();
                before.accept(x);
                call.apply(x).is(due);
                call.apply(x).is(due);
                changesNothing(before, call);
            }
        });
    }

    private static void question(String kind, Function<Book, Answer> call) {
        Sentences.test("No question changes anything: " + kind, () -> {
            for (Consumer<Book> before : STATES) {
                changesNothing(before, call);
            }
        });
    }

    private static void changesNothing(Consumer<Book> before, Function<Book, Answer> call) {
        for (Consumer<Book> wayOn : WAYS_ON) {
            Book without = new Book();
            before.accept(without);
            Book with = new Book();
            before.accept(with);
            call.apply(with);
            compare(answersOn(without, wayOn), answersOn(with, wayOn));
        }
    }

    private static List<Answer> answersOn(Book x, Consumer<Book> wayOn) {
        int start = x.calls();
        wayOn.accept(x);
        askAll(x);
        return x.answersFrom(start);
    }

    private static void compare(List<Answer> without, List<Answer> with) {
        for (int i = 0; i < without.size(); i++) {
            if (!without.get(i).equals(with.get(i))) {
                Sentences.wrong(without.get(i) + " without the call, " + with.get(i) + " after it");
            }
        }
    }

    private static void askAll(Book x) {
        x.isOpen();
        x.entries();
        x.sound();
        for (int entry = 0; entry <= 60; entry++) {
            x.cancelled(entry);
            x.amountOf(entry);
        }
        for (int account = 0; account < 4; account++) {
            x.free(account, 47);
            for (int day = 0; day < 48; day++) {
                x.balance(account, day);
            }
        }
    }

    private static void goOnWithEntries(Book x) {
        x.post(2, 40, 3);
        x.transfer(9, 41, 1);
        x.cancel(1);
        x.floor(3, -2);
        x.post(3, 47, -1);
    }

    /** Shows what the book thinks was done since a batch was opened. */
    private static void goOnWithUndoneBatch(Book x) {
        x.close();
        x.open();
        x.cancel(1);
        x.cancel(2);
        x.post(3, 0, -10000);
        x.cancel(0);
        x.close();
    }

    // The states ask no question, as a question that changes something would then hide in both books.

    private static void empty(Book x) {
    }

    /** Account 0 has 100 from day 5, 60 from day 10, 30 from day 20; account 1 is at its floor; 5 is cancelled. */
    private static void ordinary(Book x) {
        x.floor(1, -50).is(0);
        x.post(0, 5, 100).is(0);
        x.post(0, 10, -40).is(1);
        x.post(1, 0, -50).is(2);
        x.transfer(2, 20, 30).is(3);
        x.post(3, 47, 7).is(5);
        x.cancel(5).is(7);
        x.post(3, 46, 8).is(6);
    }

    private static void soundBatch(Book x) {
        ordinary(x);
        x.open().is(0);
        x.cancel(1).is(-40);
        x.post(3, 0, 2).is(7);
    }

    private static void unsoundBatch(Book x) {
        ordinary(x);
        x.open().is(0);
        x.cancel(0).is(100);
        x.post(3, 0, -1).is(7);
        x.transfer(14, 3, 5).is(8);
        x.cancel(9).is(5);
        x.post(3, 1, 1).is(10);
    }

    private static void almostFull(Book x) {
        x.fill(0, 59);
        x.cancel(3).is(1);
    }

    private static void full(Book x) {
        x.fill(0, 60);
        x.cancel(3).is(1);
    }

    private static void fullInBatch(Book x) {
        x.fill(0, 56);
        x.cancel(3).is(1);
        x.open().is(0);
        x.cancel(4).is(1);
        x.transfer(1, 0, 100).is(56);
        x.post(2, 0, 1).is(58);
        x.cancel(58).is(1);
        x.post(2, 0, 3).is(59);
    }
}

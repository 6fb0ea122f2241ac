/** 'In every method the tests are made in the order named': each two reasons for refusal that can meet, in one call. */
public final class OrderTest {
    public static void main(String[] args) {
        Sentences.test("post: account before all others", OrderTest::postAccountFirst);
        Sentences.test("post: day before amount, room and soundness", OrderTest::postDayNext);
        Sentences.test("post: amount before room and soundness", OrderTest::postAmountNext);
        Sentences.test("post: room before soundness", OrderTest::postRoomNext);
        Sentences.test("transfer: route before all others", OrderTest::transferRouteFirst);
        Sentences.test("transfer: from and to the same before all others", OrderTest::transferSameFirst);
        Sentences.test("transfer: day before amount, room and soundness", OrderTest::transferDayNext);
        Sentences.test("transfer: amount before room and soundness", OrderTest::transferAmountNext);
        Sentences.test("transfer: room before soundness", OrderTest::transferRoomNext);
        Sentences.test("cancel: not good before cancelled", OrderTest::cancelGoodBeforeCancelled);
        Sentences.test("cancel: not good before unsound", OrderTest::cancelGoodBeforeUnsound);
        Sentences.test("cancel: cancelled before unsound", OrderTest::cancelCancelledBeforeUnsound);
        Sentences.test("floor: account before all others", OrderTest::floorAccountFirst);
        Sentences.test("floor: range before batch and soundness", OrderTest::floorRangeNext);
        Sentences.test("floor: batch before soundness", OrderTest::floorBatchNext);
        Sentences.test("lowest: account before days", OrderTest::lowestAccountFirst);
        Sentences.test("firstBelow: account before day and none", OrderTest::firstBelowAccountFirst);
        Sentences.test("firstBelow: day before none", OrderTest::firstBelowDayNext);
        Sentences.test("free: account before day", OrderTest::freeAccountFirst);
        Sentences.test("firstFree: account before x and none", OrderTest::firstFreeAccountFirst);
        Sentences.test("firstFree: x before none", OrderTest::firstFreeAskedNext);
        Sentences.end();
    }

    private static void postAccountFirst() {
        Book x = new Book();
        x.post(4, 48, 1).is(-1);
        x.post(4, 0, 0).is(-1);
        x.post(4, 0, -1).is(-1);
        x.post(-1, -1, 10001).is(-1);
        Book full = Book.withEntries(60);
        full.post(4, 0, 1).is(-1);
        full.post(-1, 48, 0).is(-1);
    }

    private static void postDayNext() {
        Book x = new Book();
        x.post(0, 48, 0).is(-2);
        x.post(0, -1, -10001).is(-2);
        x.post(0, -1, -1).is(-2);
        x.post(0, 48, -1).is(-2);
        Book full = Book.withEntries(60);
        full.post(0, 48, 1).is(-2);
        full.post(0, -1, 0).is(-2);
    }

    private static void postAmountNext() {
        Book x = new Book();
        x.post(0, 0, -10001).is(-3);
        x.post(0, 0, Book.MIN).is(-3);
        Book full = Book.withEntries(60);
        full.post(0, 0, 0).is(-3);
        full.post(0, 0, 10001).is(-3);
        full.post(0, 0, -10001).is(-3);
    }

    private static void postRoomNext() {
        Book full = Book.withEntries(60);
        full.post(1, 0, -1).is(-4);
        full.post(0, 0, -10000).is(-4);
    }

    private static void transferRouteFirst() {
        Book x = new Book();
        x.transfer(16, 48, 1).is(-1);
        x.transfer(-1, 0, 0).is(-1);
        x.transfer(16, 0, 1).is(-1);
        Book full = Book.withEntries(59);
        full.transfer(16, 0, 1).is(-1);
        full.transfer(-1, -1, 10001).is(-1);
    }

    private static void transferSameFirst() {
        Book x = new Book();
        x.transfer(0, 48, 1).is(-1);
        x.transfer(5, 0, 0).is(-1);
        x.transfer(10, 0, 1).is(-1);
        Book full = Book.withEntries(59);
        full.transfer(15, 0, 1).is(-1);
        full.transfer(0, -1, 10001).is(-1);
    }

    private static void transferDayNext() {
        Book x = new Book();
        x.transfer(1, 48, 0).is(-2);
        x.transfer(1, -1, 10001).is(-2);
        x.transfer(1, -1, 1).is(-2);
        Book full = Book.withEntries(59);
        full.transfer(1, 48, 1).is(-2);
        full.transfer(1, -1, 0).is(-2);
    }

    private static void transferAmountNext() {
        Book x = new Book();
        x.transfer(1, 0, 10001).is(-3);
        x.transfer(1, 0, -1).is(-3);
        Book full = Book.withEntries(59);
        full.transfer(1, 0, 0).is(-3);
        full.transfer(1, 0, 10001).is(-3);
        full.transfer(4, 0, 10001).is(-3);
    }

    private static void transferRoomNext() {
        Book almostFull = Book.withEntries(59);
        almostFull.transfer(4, 0, 1).is(-4);
        Book full = Book.withEntries(60);
        full.transfer(4, 0, 1).is(-4);
    }

    /** Only an entry that an undone batch took out can be cancelled and not good. */
    private static void cancelGoodBeforeCancelled() {
        Book x = new Book();
        x.open().is(0);
        x.post(0, 0, 5).is(0);
        x.cancel(0).is(5);
        x.post(0, 0, -1).is(1);
        x.close().is(0);
        x.cancel(0).is(-1);
        x.cancel(1).is(-1);
    }

    private static void cancelGoodBeforeUnsound() {
        Book x = new Book();
        x.open().is(0);
        x.post(0, 0, 5).is(0);
        x.post(1, 0, -1).is(1);
        x.close().is(0);
        x.cancel(0).is(-1);
    }

    /** The book would be unsound if the amount were taken off twice. */
    private static void cancelCancelledBeforeUnsound() {
        Book x = new Book();
        x.post(0, 0, 5).is(0);
        x.cancel(0).is(5);
        x.cancel(0).is(-2);
    }

    private static void floorAccountFirst() {
        Book x = new Book();
        x.floor(4, 10001).is(-1);
        x.floor(-1, 1).is(-1);
        x.open().is(0);
        x.floor(4, 0).is(-1);
        x.floor(-1, -10001).is(-1);
    }

    private static void floorRangeNext() {
        Book x = new Book();
        x.floor(0, 10001).is(-2);
        x.open().is(0);
        x.floor(0, 10001).is(-2);
        x.floor(0, -10001).is(-2);
    }

    private static void floorBatchNext() {
        Book x = new Book();
        x.open().is(0);
        x.floor(0, 1).is(-3);
        x.floor(0, 10000).is(-3);
        x.post(0, 0, -1).is(0);
        x.floor(0, 0).is(-3);
    }

    private static void lowestAccountFirst() {
        Book x = new Book();
        for (int[] span : Book.badSpans()) {
            x.lowest(4, span[0], span[1]).is(-1000000);
            x.lowest(-1, span[0], span[1]).is(-1000000);
        }
    }

    private static void firstBelowAccountFirst() {
        Book x = new Book();
        x.firstBelow(4, 48, 1).is(-1);
        x.firstBelow(-1, -1, 1).is(-1);
        x.firstBelow(4, 0, Book.MIN).is(-1);
        x.firstBelow(-1, 48, 0).is(-1);
    }

    private static void firstBelowDayNext() {
        Book x = new Book();
        x.firstBelow(0, 48, 0).is(-2);
        x.firstBelow(0, -1, Book.MIN).is(-2);
    }

    private static void freeAccountFirst() {
        Book x = new Book();
        x.free(4, 48).is(-1);
        x.free(-1, -1).is(-1);
    }

    private static void firstFreeAccountFirst() {
        Book x = new Book();
        x.firstFree(4, 0).is(-1);
        x.firstFree(-1, 1000001).is(-1);
        x.firstFree(4, 1).is(-1);
    }

    private static void firstFreeAskedNext() {
        Book x = new Book();
        x.firstFree(0, 1000001).is(-2);
        x.firstFree(0, Book.MAX).is(-2);
        x.firstFree(0, 0).is(-2);
    }
}

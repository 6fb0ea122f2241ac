/** Promises 1 to 7, the new object and the calls that change it: each clause with a test of its own. */
public final class ChangesTest {
    public static void main(String[] args) {
        Sentences.test("Promise 1: The empty book", ChangesTest::newObject);
        Sentences.test("Promise 1: also beside a book that is not empty", ChangesTest::newObjectBesideAnother);
        testPost();
        testTransfer();
        testCancel();
        testFloor();
        testOpenAndClose();
        Sentences.end();
    }

    private static void testPost() {
        Sentences.test("Promise 2: Puts an entry in", ChangesTest::postPutsIn);
        Sentences.test("Promise 2: -1 if account is not good", ChangesTest::postBadAccount);
        Sentences.test("Promise 2: -2 if day is not good", ChangesTest::postBadDay);
        Sentences.test("Promise 2: -3 if amount is 0", ChangesTest::postZero);
        Sentences.test("Promise 2: -3 if amount is not in -10000 .. 10000", ChangesTest::postBadAmount);
        Sentences.test("Promise 2: -4 if there are 60 entries", ChangesTest::postFull);
        Sentences.test("Promise 2: -4 if there are 60 entries, in a batch", ChangesTest::postFullInBatch);
        Sentences.test("Promise 2: -5 if the book would be unsound, by one", ChangesTest::postBelowFloor);
        Sentences.test("Promise 2: -5 if the book would be unsound, on a later day", ChangesTest::postBelowLater);
        Sentences.test("Promise 2: -5 if no batch is open", ChangesTest::postBelowInBatch);
        Sentences.test("Promise 2: -5 if it would be unsound, with 59 entries", ChangesTest::postBelowAtLastPlace);
        Sentences.test("Promise 2: otherwise answers the entry's number", ChangesTest::postNumber);
    }

    private static void testTransfer() {
        Sentences.test("Promise 3: first -amount on from, then amount on to", ChangesTest::transferPutsIn);
        Sentences.test("Promise 3: both on the day", ChangesTest::transferDay);
        Sentences.test("Promise 3: -1 if route is not in 0 .. 15", ChangesTest::transferBadRoute);
        Sentences.test("Promise 3: -1 if from and to are the same", ChangesTest::transferSame);
        Sentences.test("Promise 3: -2 if day is not good", ChangesTest::transferBadDay);
        Sentences.test("Promise 3: -3 if amount is not in 1 .. 10000", ChangesTest::transferBadAmount);
        Sentences.test("Promise 3: -4 if there are more than 58: 58", ChangesTest::transferAt58);
        Sentences.test("Promise 3: -4 if there are more than 58: 59", ChangesTest::transferAt59);
        Sentences.test("Promise 3: -4 if there are more than 58: 60", ChangesTest::transferAt60);
        Sentences.test("Promise 3: -4 if there are more than 58, in a batch", ChangesTest::transferFullInBatch);
        Sentences.test("Promise 3: -5 if the book would be unsound, by one", ChangesTest::transferBelowFloor);
        Sentences.test("Promise 3: -5 if it would be unsound, on a later day", ChangesTest::transferBelowLater);
        Sentences.test("Promise 3: -5 if no batch is open", ChangesTest::transferBelowInBatch);
        Sentences.test("Promise 3: unsound with both: neither stays", ChangesTest::transferNeitherStays);
        Sentences.test("Promise 3: otherwise answers the first one's number", ChangesTest::transferNumber);
    }

    private static void testCancel() {
        Sentences.test("Promise 4: Cancels an entry, and no other", ChangesTest::cancelOne);
        Sentences.test("Promise 4: -1 if entry is not good: no entry", ChangesTest::cancelInEmpty);
        Sentences.test("Promise 4: -1 if entry is not good: some entries", ChangesTest::cancelBadEntry);
        Sentences.test("Promise 4: -1 if entry is not good: 60 entries", ChangesTest::cancelInFull);
        Sentences.test("Promise 4: -2 if it is cancelled", ChangesTest::cancelTwice);
        Sentences.test("Promise 4: -2 if it is cancelled, and a batch between", ChangesTest::cancelTwiceAcrossBatch);
        Sentences.test("Promise 4: -3 if the book would be unsound, by one", ChangesTest::cancelBelowFloor);
        Sentences.test("Promise 4: -3 if it would be unsound, on one day only", ChangesTest::cancelBelowOneDay);
        Sentences.test("Promise 4: -3 if no batch is open", ChangesTest::cancelBelowInBatch);
        Sentences.test("Promise 4: otherwise answers its amount", ChangesTest::cancelAmount);
        Sentences.test("Promise 4: its amount, also if it looks like a refusal", ChangesTest::cancelLooksRefused);
        Sentences.test("Promise 4: the same in a batch", ChangesTest::cancelLooksRefusedInBatch);
        Sentences.test("Promise 4: one entry of a transfer alone", ChangesTest::cancelHalf);
    }

    private static void testFloor() {
        Sentences.test("Promise 5: Sets the floor of an account, and of no other", ChangesTest::floorOfOne);
        Sentences.test("Promise 5: -1 if account is not good", ChangesTest::floorBadAccount);
        Sentences.test("Promise 5: -2 if floor is not in -10000 .. 10000", ChangesTest::floorOutOfRange);
        Sentences.test("Promise 5: -3 if a batch is open", ChangesTest::floorInBatch);
        Sentences.test("Promise 5: -4 if the book would be unsound, by one", ChangesTest::floorAboveLowest);
        Sentences.test("Promise 5: -4 if the book would be unsound, an empty one", ChangesTest::floorOfEmpty);
        Sentences.test("Promise 5: otherwise answers the floor before", ChangesTest::floorBefore);
        Sentences.test("Promise 5: the floor before, also if it looks like a refusal", ChangesTest::floorLooksRefused);
        Sentences.test("Promise 5: the floor before, and not one that was refused", ChangesTest::floorAfterRefusal);
    }

    private static void testOpenAndClose() {
        Sentences.test("Promise 6: Opens a batch; otherwise 0", ChangesTest::openAnswers);
        Sentences.test("Promise 6: -1 if one is open", ChangesTest::openTwice);
        Sentences.test("Promise 6: -1, and the batch is still the first one", ChangesTest::openTwiceUndone);
        Sentences.test("Promise 6: again after one was kept", ChangesTest::openAfterKept);
        Sentences.test("Promise 6: again after one was undone", ChangesTest::openAfterUndone);
        Sentences.test("Promise 6: with 60 entries", ChangesTest::openFull);
        Sentences.test("Promise 7: -1 if none is open", ChangesTest::closeNone);
        Sentences.test("Promise 7: -1 if none is open any more", ChangesTest::closeTwice);
        Sentences.test("Promise 7: 1 if all is kept", ChangesTest::closeKeeps);
        Sentences.test("Promise 7: 1 for an empty batch", ChangesTest::closeEmptyBatch);
        Sentences.test("Promise 7: 0 if all was undone", ChangesTest::closeUndoes);
        Sentences.test("Promise 7: Closes the batch, kept", ChangesTest::closedAfterKept);
        Sentences.test("Promise 7: Closes the batch, undone", ChangesTest::closedAfterUndone);
        Sentences.test("Promise 7: kept with 60 entries, from 58 and 59", ChangesTest::closeKeepsFull);
    }

    private static void newObject() {
        Book x = new Book();
        x.entries().is(0);
        x.isOpen().is(0);
        x.sound().is(1);
        x.cancelled(0).is(-1);
        x.amountOf(0).is(0);
        for (int account = 0; account < 4; account++) {
            x.balance(account, 0).is(0);
            x.balance(account, 47).is(0);
            x.lowest(account, 0, 47).is(0);
            x.total(account, 0, 47).is(0);
            x.firstBelow(account, 0, 0).is(-3);
            x.firstBelow(account, 0, 1).is(0);
            x.free(account, 0).is(0);
            x.firstFree(account, 1).is(-3);
            x.daysBelow(account, 0).is(0);
            x.daysBelow(account, 1).is(48);
        }
    }

    private static void newObjectBesideAnother() {
        Book x = new Book();
        x.floor(0, -3).is(0);
        x.post(0, 0, 5).is(0);
        x.cancel(0).is(5);
        x.open().is(0);
        x.post(1, 0, -6).is(1);
        Book y = new Book();
        y.entries().is(0);
        y.isOpen().is(0);
        y.sound().is(1);
        y.cancelled(0).is(-1);
        y.balance(1, 47).is(0);
        y.floor(0, 0).is(0);
        y.post(0, 0, 7).is(0);
        x.amountOf(0).is(5);
        x.close().is(0);
        y.entries().is(1);
    }

    private static void postPutsIn() {
        Book x = new Book();
        x.post(1, 12, 30).is(0);
        x.post(1, 9, 4).is(1);
        x.post(1, 13, -20).is(2);
        x.entries().is(3);
        x.amountOf(0).is(30);
        x.amountOf(1).is(4);
        x.amountOf(2).is(-20);
        x.cancelled(2).is(0);
        x.balance(1, 8).is(0);
        x.balance(1, 9).is(4);
        x.balance(1, 12).is(34);
        x.balance(1, 13).is(14);
    }

    private static void postBadAccount() {
        Book x = new Book();
        for (int account : Book.badAccounts()) {
            x.post(account, 0, 1).is(-1);
        }
        x.entries().is(0);
        x.post(0, 0, 1).is(0);
        x.post(3, 0, 1).is(1);
    }

    private static void postBadDay() {
        Book x = new Book();
        for (int day : Book.badDays()) {
            x.post(0, day, 1).is(-2);
        }
        x.entries().is(0);
        x.post(0, 0, 1).is(0);
        x.post(0, 47, 1).is(1);
    }

    private static void postZero() {
        Book x = new Book();
        x.post(0, 0, 0).is(-3);
        x.entries().is(0);
        x.post(0, 0, 1).is(0);
        x.post(0, 0, -1).is(1);
        x.open().is(0);
        x.post(0, 0, 0).is(-3);
        x.entries().is(2);
    }

    private static void postBadAmount() {
        int[] bad = {10001, -10001, Book.MIN, Book.MIN + 1, Book.MAX};
        Book x = new Book();
        x.open().is(0);
        for (int amount : bad) {
            x.post(0, 0, amount).is(-3);
        }
        x.entries().is(0);
        x.post(0, 0, 10000).is(0);
        x.post(0, 0, -10000).is(1);
        x.balance(0, 0).is(0);
    }

    private static void postFull() {
        Book x = Book.withEntries(59);
        x.post(1, 0, 7).is(59);
        x.post(1, 0, 7).is(-4);
        x.entries().is(60);
        x.balance(1, 0).is(7);
    }

    private static void postFullInBatch() {
        Book x = Book.withEntries(59);
        x.open().is(0);
        x.post(1, 0, -7).is(59);
        x.post(1, 0, 7).is(-4);
        x.entries().is(60);
        x.balance(1, 0).is(-7);
        x.close().is(0);
        x.post(1, 0, 7).is(59);
        x.post(1, 0, 7).is(-4);
    }

    private static void postBelowFloor() {
        int[] floors = {-10000, -6, 0, 6, 9999};
        for (int floor : floors) {
            Book x = new Book();
            x.post(2, 0, 10000).is(0);
            x.floor(2, floor).is(0);
            x.post(2, 0, -10000).is(floor > 0 ? -5 : 1);
            int over = floor > 0 ? 10000 - floor : -floor;
            if (over < 10000) {
                x.post(2, 0, -over - 1).is(-5);
            }
            if (over > 0) {
                x.post(2, 0, -over).is(floor > 0 ? 1 : 2);
            }
            x.post(2, 0, -1).is(-5);
            x.post(2, 47, -1).is(-5);
            x.balance(2, 47).is(floor);
        }
    }

    private static void postBelowLater() {
        Book x = new Book();
        x.post(0, 10, 100).is(0);
        x.post(0, 30, -60).is(1);
        x.post(0, 31, 60).is(2);
        x.post(0, 9, -1).is(-5);
        x.post(0, 10, -41).is(-5);
        x.post(0, 30, -41).is(-5);
        x.post(0, 31, -101).is(-5);
        x.post(0, 31, -100).is(3);
        x.post(0, 47, -1).is(-5);
        x.post(0, 10, -1).is(-5);
    }

    private static void postBelowInBatch() {
        Book x = new Book();
        x.post(0, 0, -1).is(-5);
        x.open().is(0);
        x.post(0, 0, -1).is(0);
        x.post(3, 47, -10000).is(1);
        x.close().is(0);
        x.post(0, 0, -1).is(-5);
        x.open().is(0);
        x.close().is(1);
        x.post(0, 0, -1).is(-5);
    }

    private static void postBelowAtLastPlace() {
        Book x = Book.withEntries(59);
        x.post(1, 0, -1).is(-5);
        x.post(0, 0, -60).is(-5);
        x.entries().is(59);
        x.post(0, 0, -59).is(59);
        x.balance(0, 0).is(0);
    }

    private static void postNumber() {
        Book x = new Book();
        x.post(3, 47, 10).is(0);
        x.post(0, 0, 10).is(1);
        x.cancel(1).is(10);
        x.post(0, 0, 10).is(2);
        x.open().is(0);
        x.post(0, 0, 10).is(3);
        x.close().is(1);
        x.post(0, 0, 10).is(4);
    }

    private static void transferPutsIn() {
        for (int from = 0; from < 4; from++) {
            for (int to = 0; to < 4; to++) {
                if (from != to) {
                    transferPutsIn(from, to);
                }
            }
        }
    }

    private static void transferPutsIn(int from, int to) {
        Book x = new Book();
        x.post(from, 5, 100).is(0);
        x.transfer(4 * from + to, 6, 30).is(1);
        x.entries().is(3);
        x.amountOf(1).is(-30);
        x.amountOf(2).is(30);
        for (int account = 0; account < 4; account++) {
            x.balance(account, 6).is(account == from ? 70 : account == to ? 30 : 0);
        }
    }

    private static void transferDay() {
        int[] days = {0, 1, 46, 47};
        for (int day : days) {
            Book x = new Book();
            x.post(1, 0, 100).is(0);
            x.transfer(6, day, 30).is(1);
            if (day > 0) {
                x.balance(1, day - 1).is(100);
                x.balance(2, day - 1).is(0);
            }
            x.balance(1, day).is(70);
            x.balance(2, day).is(30);
            x.balance(1, 47).is(70);
            x.balance(2, 47).is(30);
        }
    }

    private static void transferBadRoute() {
        int[] bad = {-1, 16, -2, -3, -4, 17, 20, Book.MIN, Book.MIN + 1, Book.MAX, Book.MAX - 1};
        Book x = new Book();
        x.open().is(0);
        for (int route : bad) {
            x.transfer(route, 0, 1).is(-1);
        }
        x.entries().is(0);
        x.transfer(1, 0, 1).is(0);
        x.transfer(14, 0, 1).is(2);
    }

    private static void transferSame() {
        Book x = new Book();
        for (int account = 0; account < 4; account++) {
            x.post(account, 0, 10).is(account);
        }
        for (int account = 0; account < 4; account++) {
            x.transfer(5 * account, 0, 1).is(-1);
        }
        x.entries().is(4);
        x.open().is(0);
        x.transfer(0, 0, 1).is(-1);
        x.transfer(15, 0, 1).is(-1);
        x.entries().is(4);
    }

    private static void transferBadDay() {
        Book x = new Book();
        x.post(0, 0, 10).is(0);
        for (int day : Book.badDays()) {
            x.transfer(1, day, 1).is(-2);
        }
        x.entries().is(1);
        x.transfer(1, 0, 1).is(1);
        x.transfer(1, 47, 1).is(3);
    }

    private static void transferBadAmount() {
        int[] bad = {0, -1, 10001, -10000, -10001, Book.MIN, Book.MAX};
        Book x = new Book();
        x.open().is(0);
        for (int amount : bad) {
            x.transfer(1, 0, amount).is(-3);
        }
        x.entries().is(0);
        x.transfer(1, 0, 1).is(0);
        x.transfer(1, 0, 10000).is(2);
        x.balance(1, 0).is(10001);
    }

    private static void transferAt58() {
        Book x = Book.withEntries(58);
        x.transfer(4, 0, 1).is(-5);
        x.entries().is(58);
        x.transfer(1, 47, 3).is(58);
        x.entries().is(60);
        x.amountOf(58).is(-3);
        x.amountOf(59).is(3);
        x.balance(1, 47).is(3);
    }

    private static void transferAt59() {
        Book x = Book.withEntries(59);
        x.transfer(1, 47, 3).is(-4);
        x.entries().is(59);
        x.balance(0, 47).is(59);
        x.post(1, 47, 3).is(59);
    }

    private static void transferAt60() {
        Book x = Book.withEntries(60);
        x.transfer(1, 47, 3).is(-4);
        x.entries().is(60);
        x.balance(0, 47).is(60);
        x.balance(1, 47).is(0);
    }

    private static void transferFullInBatch() {
        Book x = Book.withEntries(56);
        x.open().is(0);
        x.transfer(14, 0, 3).is(56);
        x.transfer(14, 0, 3).is(58);
        x.transfer(14, 0, 3).is(-4);
        x.close().is(0);
        x.entries().is(56);
        x.fill(56, 59);
        x.open().is(0);
        x.transfer(14, 0, 3).is(-4);
        x.entries().is(59);
    }

    private static void transferBelowFloor() {
        Book x = new Book();
        x.post(0, 10, 50).is(0);
        x.transfer(2, 10, 51).is(-5);
        x.transfer(2, 9, 1).is(-5);
        x.transfer(2, 10, 50).is(1);
        x.floor(3, -20).is(0);
        x.transfer(13, 0, 21).is(-5);
        x.transfer(13, 0, 20).is(3);
        x.transfer(13, 0, 1).is(-5);
        x.floor(1, 5).is(0);
        x.transfer(4, 0, 16).is(-5);
        x.transfer(4, 0, 15).is(5);
        x.transfer(4, 47, 1).is(-5);
    }

    private static void transferBelowLater() {
        Book x = new Book();
        x.post(0, 10, 50).is(0);
        x.post(0, 20, -40).is(1);
        x.post(0, 21, 40).is(2);
        x.transfer(3, 10, 11).is(-5);
        x.transfer(3, 21, 51).is(-5);
        x.transfer(3, 10, 10).is(3);
        x.transfer(3, 47, 41).is(-5);
        x.transfer(3, 47, 40).is(5);
    }

    private static void transferBelowInBatch() {
        Book x = new Book();
        x.transfer(11, 0, 1).is(-5);
        x.open().is(0);
        x.transfer(11, 0, 1).is(0);
        x.transfer(14, 0, 10000).is(2);
        x.close().is(0);
        x.transfer(11, 0, 1).is(-5);
        x.entries().is(0);
    }

    private static void transferNeitherStays() {
        Book x = new Book();
        x.post(2, 5, 7).is(0);
        x.transfer(9, 5, 8).is(-5);
        x.entries().is(1);
        x.amountOf(1).is(0);
        x.amountOf(2).is(0);
        x.balance(1, 47).is(0);
        x.balance(2, 47).is(7);
        x.post(3, 0, 2).is(1);
        x.entries().is(2);
    }

    private static void transferNumber() {
        Book x = new Book();
        x.floor(0, -100).is(0);
        x.transfer(1, 9, 1).is(0);
        x.transfer(4, 9, 1).is(2);
        x.post(0, 0, 1).is(4);
        x.transfer(2, 9, 1).is(5);
        x.entries().is(7);
    }

    private static void cancelOne() {
        for (int entry = 0; entry < 3; entry++) {
            Book x = new Book();
            x.post(0, 3, 10).is(0);
            x.post(0, 3, 20).is(1);
            x.post(1, 3, 40).is(2);
            x.cancel(entry).is(10 << entry);
            x.cancelled(0).is(entry == 0 ? 1 : 0);
            x.cancelled(1).is(entry == 1 ? 1 : 0);
            x.cancelled(2).is(entry == 2 ? 1 : 0);
            x.balance(0, 3).is(entry == 0 ? 20 : entry == 1 ? 10 : 30);
            x.balance(1, 3).is(entry == 2 ? 0 : 40);
            x.entries().is(3);
        }
    }

    private static void cancelInEmpty() {
        Book x = new Book();
        x.cancel(0).is(-1);
        x.cancel(-1).is(-1);
        x.open().is(0);
        x.cancel(0).is(-1);
    }

    private static void cancelBadEntry() {
        Book x = new Book();
        x.post(0, 0, 10).is(0);
        x.post(0, 0, 20).is(1);
        x.post(0, 0, 30).is(2);
        for (int entry : Book.badEntries(3)) {
            x.cancel(entry).is(-1);
        }
        x.balance(0, 0).is(60);
        x.cancel(0).is(10);
        x.cancel(2).is(30);
    }

    private static void cancelInFull() {
        Book x = Book.withEntries(60);
        for (int entry : Book.badEntries(60)) {
            x.cancel(entry).is(-1);
        }
        x.cancel(59).is(1);
        x.cancel(0).is(1);
        x.balance(0, 0).is(58);
    }

    private static void cancelTwice() {
        Book x = new Book();
        x.floor(0, -100).is(0);
        x.post(0, 0, 10).is(0);
        x.post(0, 0, -10).is(1);
        x.cancel(0).is(10);
        x.cancel(0).is(-2);
        x.cancel(1).is(-10);
        x.cancel(1).is(-2);
        x.cancelled(0).is(1);
        x.cancelled(1).is(1);
        x.balance(0, 0).is(0);
    }

    private static void cancelTwiceAcrossBatch() {
        Book x = new Book();
        x.post(0, 0, 10).is(0);
        x.post(0, 0, 11).is(1);
        x.cancel(0).is(10);
        x.open().is(0);
        x.cancel(0).is(-2);
        x.cancel(1).is(11);
        x.cancel(1).is(-2);
        x.close().is(1);
        x.cancel(0).is(-2);
        x.cancel(1).is(-2);
    }

    private static void cancelBelowFloor() {
        int[] floors = {-7, 0, 7};
        for (int floor : floors) {
            Book x = new Book();
            x.post(0, 0, 50).is(0);
            x.post(0, 0, 51).is(1);
            x.floor(0, floor).is(0);
            x.post(0, 20, floor - 51).is(2);
            x.cancel(1).is(-3);
            x.cancelled(1).is(0);
            x.balance(0, 20).is(floor + 50);
            x.cancel(0).is(50);
            x.balance(0, 20).is(floor);
        }
    }

    private static void cancelBelowOneDay() {
        Book x = new Book();
        x.post(0, 5, 10).is(0);
        x.post(0, 20, -10).is(1);
        x.post(0, 21, 10).is(2);
        x.cancel(0).is(-3);
        x.cancel(2).is(10);
        x.post(0, 47, 10).is(3);
        x.post(0, 47, -10).is(4);
        x.cancel(3).is(-3);
        x.cancel(4).is(-10);
        x.cancel(3).is(10);
        x.cancel(0).is(-3);
        x.cancel(1).is(-10);
        x.cancel(0).is(10);
    }

    private static void cancelBelowInBatch() {
        Book x = new Book();
        x.post(0, 10, 50).is(0);
        x.post(0, 20, -30).is(1);
        x.cancel(0).is(-3);
        x.open().is(0);
        x.cancel(0).is(50);
        x.close().is(0);
        x.cancel(0).is(-3);
        x.cancelled(0).is(0);
    }

    private static void cancelAmount() {
        Book x = new Book();
        x.post(0, 0, 10000).is(0);
        x.post(0, 0, 1).is(1);
        x.post(0, 0, -10000).is(2);
        x.post(0, 0, 77).is(3);
        x.cancel(2).is(-10000);
        x.cancel(1).is(1);
        x.cancel(3).is(77);
        x.cancel(0).is(10000);
        x.balance(0, 0).is(0);
    }

    private static void cancelLooksRefused() {
        for (int amount = -5; amount < 0; amount++) {
            Book x = new Book();
            x.post(0, 0, 10).is(0);
            x.post(0, 0, amount).is(1);
            x.cancel(1).is(amount);
            x.cancelled(1).is(1);
            x.balance(0, 0).is(10);
            x.cancel(1).is(-2);
        }
    }

    private static void cancelLooksRefusedInBatch() {
        for (int amount = -5; amount < 0; amount++) {
            Book x = new Book();
            x.open().is(0);
            x.post(0, 0, amount).is(0);
            x.cancel(0).is(amount);
            x.cancelled(0).is(1);
            x.close().is(1);
            x.cancelled(0).is(1);
            x.entries().is(1);
        }
    }

    private static void cancelHalf() {
        Book x = new Book();
        x.post(1, 0, 9).is(0);
        x.transfer(4, 0, 9).is(1);
        x.cancel(2).is(9);
        x.balance(0, 0).is(0);
        x.balance(1, 0).is(0);
        x.cancelled(1).is(0);
        x.cancel(1).is(-9);
        x.balance(1, 0).is(9);
    }

    private static void floorOfOne() {
        for (int account = 0; account < 4; account++) {
            Book x = new Book();
            x.floor(account, -30).is(0);
            for (int asked = 0; asked < 4; asked++) {
                x.free(asked, 0).is(asked == account ? 30 : 0);
                x.post(asked, 0, -30).is(asked == account ? 0 : -5);
            }
        }
    }

    private static void floorBadAccount() {
        Book x = new Book();
        for (int account : Book.badAccounts()) {
            x.floor(account, -1).is(-1);
        }
        for (int account = 0; account < 4; account++) {
            x.free(account, 0).is(0);
        }
        x.floor(0, -6).is(0);
        x.floor(3, -6).is(0);
    }

    private static void floorOutOfRange() {
        int[] bad = {-10001, 10001, Book.MIN, Book.MAX};
        Book x = new Book();
        x.post(0, 0, 10000).is(0);
        x.post(0, 0, 10000).is(1);
        for (int floor : bad) {
            x.floor(0, floor).is(-2);
        }
        x.free(0, 0).is(20000);
        x.floor(0, 10000).is(0);
        x.floor(0, -10000).is(10000);
        x.free(0, 0).is(30000);
    }

    private static void floorInBatch() {
        Book x = new Book();
        x.open().is(0);
        x.floor(0, -5).is(-3);
        x.floor(0, 0).is(-3);
        x.floor(0, 5).is(-3);
        x.free(0, 0).is(0);
        x.close().is(1);
        x.floor(0, -5).is(0);
        x.open().is(0);
        x.post(0, 0, -6).is(0);
        x.floor(0, -6).is(-3);
        x.close().is(0);
        x.floor(0, 0).is(-5);
    }

    private static void floorAboveLowest() {
        int[] days = {0, 1, 23, 46, 47};
        for (int day : days) {
            Book x = new Book();
            x.post(2, 0, 50).is(0);
            x.post(2, day, -13).is(1);
            if (day < 47) {
                x.post(2, day + 1, 13).is(2);
            }
            x.floor(2, 38).is(-4);
            x.floor(2, 10000).is(-4);
            x.free(2, day).is(37);
            x.floor(2, 37).is(0);
            x.floor(2, 37).is(37);
            x.floor(2, 38).is(-4);
            x.floor(2, 36).is(37);
        }
    }

    private static void floorOfEmpty() {
        Book x = new Book();
        x.floor(0, 1).is(-4);
        x.floor(0, 0).is(0);
        x.floor(0, -1).is(0);
        x.floor(0, 1).is(-4);
        x.floor(0, 0).is(-1);
        x.post(0, 1, 100).is(0);
        x.floor(0, 1).is(-4);
        x.post(0, 0, 1).is(1);
        x.floor(0, 1).is(0);
    }

    private static void floorBefore() {
        Book x = new Book();
        x.post(1, 0, 10000).is(0);
        x.floor(1, 10000).is(0);
        x.floor(1, 9999).is(10000);
        x.floor(1, -10000).is(9999);
        x.floor(1, 1).is(-10000);
        x.floor(1, 0).is(1);
        x.floor(1, 0).is(0);
        x.floor(0, -7).is(0);
        x.floor(2, 0).is(0);
        x.floor(3, 0).is(0);
    }

    private static void floorLooksRefused() {
        Book x = new Book();
        for (int before = 0; before > -6; before--) {
            x.floor(3, before - 1).is(before);
            x.free(3, 0).is(1 - before);
        }
    }

    private static void floorAfterRefusal() {
        Book x = new Book();
        x.floor(0, -8).is(0);
        x.floor(0, 1).is(-4);
        x.floor(0, 10001).is(-2);
        x.open().is(0);
        x.floor(0, -9).is(-3);
        x.close().is(1);
        x.floor(0, -10).is(-8);
    }

    private static void openAnswers() {
        Book x = new Book();
        x.open().is(0);
        x.isOpen().is(1);
        x.post(0, 0, -1).is(0);
    }

    private static void openTwice() {
        Book x = new Book();
        x.open().is(0);
        x.open().is(-1);
        x.open().is(-1);
        x.isOpen().is(1);
        x.close().is(1);
        x.close().is(-1);
    }

    private static void openTwiceUndone() {
        Book x = new Book();
        x.post(0, 0, 5).is(0);
        x.open().is(0);
        x.cancel(0).is(5);
        x.post(0, 0, -1).is(1);
        x.open().is(-1);
        x.post(0, 0, -1).is(2);
        x.close().is(0);
        x.entries().is(1);
        x.cancelled(0).is(0);
    }

    private static void openAfterKept() {
        Book x = new Book();
        x.open().is(0);
        x.post(0, 0, 1).is(0);
        x.close().is(1);
        x.open().is(0);
        x.isOpen().is(1);
        x.post(0, 0, -2).is(1);
        x.close().is(0);
        x.entries().is(1);
    }

    private static void openAfterUndone() {
        Book x = new Book();
        x.open().is(0);
        x.post(0, 0, -1).is(0);
        x.close().is(0);
        x.open().is(0);
        x.isOpen().is(1);
        x.post(0, 0, -1).is(0);
        x.post(0, 0, 1).is(1);
        x.close().is(1);
        x.entries().is(2);
    }

    private static void openFull() {
        Book x = Book.withEntries(60);
        x.open().is(0);
        x.cancel(59).is(1);
        x.post(0, 0, 1).is(-4);
        x.close().is(1);
        x.entries().is(60);
        x.cancelled(59).is(1);
        x.balance(0, 0).is(59);
    }

    private static void closeNone() {
        Book x = new Book();
        x.close().is(-1);
        x.isOpen().is(0);
        x.post(0, 0, 4).is(0);
        x.close().is(-1);
        x.entries().is(1);
        x.balance(0, 0).is(4);
    }

    private static void closeTwice() {
        Book x = new Book();
        x.open().is(0);
        x.close().is(1);
        x.close().is(-1);
        x.open().is(0);
        x.post(0, 0, -1).is(0);
        x.close().is(0);
        x.close().is(-1);
    }

    private static void closeKeeps() {
        Book x = new Book();
        x.open().is(0);
        x.post(0, 0, 1).is(0);
        x.close().is(1);
        x.entries().is(1);
        x.balance(0, 0).is(1);
    }

    private static void closeEmptyBatch() {
        Book x = new Book();
        x.open().is(0);
        x.close().is(1);
        x.post(0, 0, 3).is(0);
        x.open().is(0);
        x.close().is(1);
        x.entries().is(1);
    }

    private static void closeUndoes() {
        Book x = new Book();
        x.open().is(0);
        x.post(0, 0, 3).is(0);
        x.post(1, 0, -1).is(1);
        x.close().is(0);
        x.entries().is(0);
        x.balance(0, 0).is(0);
        x.balance(1, 0).is(0);
        x.sound().is(1);
    }

    private static void closedAfterKept() {
        Book x = new Book();
        x.open().is(0);
        x.post(0, 0, 3).is(0);
        x.close().is(1);
        x.isOpen().is(0);
        x.post(0, 0, -4).is(-5);
        x.floor(0, 3).is(0);
    }

    private static void closedAfterUndone() {
        Book x = new Book();
        x.open().is(0);
        x.post(0, 0, -3).is(0);
        x.close().is(0);
        x.isOpen().is(0);
        x.post(0, 0, -4).is(-5);
        x.floor(0, -3).is(0);
    }

    private static void closeKeepsFull() {
        Book x = Book.withEntries(58);
        x.open().is(0);
        x.transfer(1, 0, 58).is(58);
        x.close().is(1);
        x.entries().is(60);
        x.balance(1, 0).is(58);
        Book y = Book.withEntries(59);
        y.open().is(0);
        y.post(0, 0, -59).is(59);
        y.close().is(1);
        y.entries().is(60);
        y.balance(0, 0).is(0);
    }
}

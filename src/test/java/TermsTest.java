/** Each sentence of 'What it is' and 'Terms' that names a boundary case, with a test of its own. */
public final class TermsTest {
    public static void main(String[] args) {
        Sentences.test("at most 512 calls: the last one is a change", TermsTest::lastCallChanges);
        Sentences.test("at most 512 calls: the last one is a question", TermsTest::lastCallAsks);
        Sentences.test("four ACCOUNTS, 0 .. 3", TermsTest::accounts);
        Sentences.test("48 DAYS, 0 .. 47", TermsTest::days);
        Sentences.test("at most 60 ENTRIES, put in by post", TermsTest::sixtyByPost);
        Sentences.test("at most 60 ENTRIES, put in by transfer", TermsTest::sixtyByTransfer);
        Sentences.test("numbered 0, 1, 2, .. in the order in which they were accepted", TermsTest::numbers);
        Sentences.test("A cancelled entry stays in the list", TermsTest::cancelledStays);
        Sentences.test("A cancelled entry stays in the list: a full list stays full", TermsTest::cancelledGivesNoRoom);
        Sentences.test("but its amount counts no more", TermsTest::cancelledCountsNoMore);
        Sentences.test("THE BALANCE of an account is the sum of its entries", TermsTest::balanceOfAccount);
        Sentences.test("whose day is that day or an earlier one", TermsTest::balanceOfDay);
        Sentences.test("Every account has a FLOOR, 0 at first", TermsTest::floorAtFirst);
        Sentences.test("SOUND if on every day every account's balance ..", TermsTest::soundOnEveryDay);
        Sentences.test(".. is at least its floor", TermsTest::soundAtLeastFloor);
        Sentences.test("The empty book is sound", TermsTest::emptyIsSound);
        Sentences.test("A BATCH may be open; none is at first", TermsTest::noBatchAtFirst);
        Sentences.test("While no batch is open, unsound is refused: post", TermsTest::refusedPost);
        Sentences.test("While no batch is open, unsound is refused: transfer", TermsTest::refusedTransfer);
        Sentences.test("While no batch is open, unsound is refused: cancel", TermsTest::refusedCancel);
        Sentences.test("While no batch is open, unsound is refused: floor", TermsTest::refusedFloor);
        Sentences.test("While a batch is open, entries are taken without that test", TermsTest::batchTakesEntries);
        Sentences.test("While a batch is open, cancellations are taken without it", TermsTest::batchTakesCancellations);
        Sentences.test("closing keeps entries if the book is sound then", TermsTest::keptEntries);
        Sentences.test("closing keeps cancellations if the book is sound then", TermsTest::keptCancellations);
        Sentences.test("closing keeps: a later batch that is undone does not undo them", TermsTest::keptForGood);
        Sentences.test("sound then: unsound in between does not matter", TermsTest::soundOnlyThen);
        Sentences.test("sound then: the last call decides", TermsTest::unsoundOnlyThen);
        Sentences.test("sound then: at each account's floor", TermsTest::closeAtFloor);
        Sentences.test("otherwise: one account on one day is enough", TermsTest::closeBelowOnOneDay);
        Sentences.test("the entries put in since are taken out of the list", TermsTest::undoneEntries);
        Sentences.test("taken out: the numbers are given again", TermsTest::undoneNumbers);
        Sentences.test("taken out: there is room again", TermsTest::undoneRoom);
        Sentences.test("taken out: also those cancelled since", TermsTest::undoneCancelledEntries);
        Sentences.test("the cancellations made since are made undone", TermsTest::undoneCancellations);
        Sentences.test("made undone: also those of a full list", TermsTest::undoneCancellationsOfFull);
        Sentences.test("since the batch was opened: what stood before it stays", TermsTest::undoneKeepsEarlier);
        Sentences.test("since the batch was opened: and not since a batch before it", TermsTest::undoneOneBatch);
        Sentences.test("No balance or sum leaves the range of an int: greatest", TermsTest::greatestSums);
        Sentences.test("No balance or sum leaves the range of an int: least", TermsTest::leastSums);
        Sentences.test("an entry is good if there is such an entry", TermsTest::goodEntries);
        Sentences.end();
    }

    private static void lastCallChanges() {
        Book x = new Book();
        x.post(0, 0, 5).is(0);
        while (x.calls() < Book.MOST_CALLS - 1) {
            x.balance(0, 47).is(5);
        }
        x.post(0, 47, -5).is(1);
    }

    private static void lastCallAsks() {
        Book x = new Book();
        x.post(0, 0, 5).is(0);
        while (x.calls() < Book.MOST_CALLS - 3) {
            x.open().is(0);
            x.close().is(1);
        }
        x.open().is(0);
        x.post(0, 47, -5).is(1);
        x.total(0, 46, 47).is(5);
        if (x.calls() != Book.MOST_CALLS) {
            Sentences.wrong("the test ends at call " + x.calls());
        }
    }

    private static void accounts() {
        Book x = new Book();
        for (int account = 0; account < 4; account++) {
            x.post(account, 0, 10 + account).is(account);
        }
        for (int account = 0; account < 4; account++) {
            x.balance(account, 0).is(10 + account);
            x.lowest(account, 0, 47).is(10 + account);
            x.total(account, 0, 0).is(10 + account);
            x.firstBelow(account, 0, 11 + account).is(0);
            x.free(account, 0).is(10 + account);
            x.firstFree(account, 10 + account).is(0);
            x.daysBelow(account, 11 + account).is(48);
            x.floor(account, 10 + account).is(0);
        }
        for (int account : Book.badAccounts()) {
            x.post(account, 0, 1).is(-1);
            x.floor(account, 0).is(-1);
            x.balance(account, 0).is(-1000000);
            x.lowest(account, 0, 47).is(-1000000);
            x.total(account, 0, 47).is(-2000000000);
            x.firstBelow(account, 0, 1).is(-1);
            x.free(account, 0).is(-1);
            x.firstFree(account, 1).is(-1);
            x.daysBelow(account, 1).is(-1);
        }
    }

    private static void days() {
        Book x = new Book();
        x.post(0, 0, 100).is(0);
        x.post(0, 47, 10).is(1);
        x.transfer(1, 0, 5).is(2);
        x.transfer(1, 47, 5).is(4);
        x.balance(0, 0).is(95);
        x.balance(0, 47).is(100);
        x.firstBelow(0, 0, 96).is(0);
        x.firstBelow(0, 47, 101).is(47);
        x.free(0, 0).is(95);
        x.free(0, 47).is(100);
        for (int day : Book.badDays()) {
            x.post(0, day, 1).is(-2);
            x.transfer(1, day, 1).is(-2);
            x.balance(0, day).is(-1000000);
            x.firstBelow(0, day, 1000).is(-2);
            x.free(0, day).is(-2);
        }
    }

    private static void sixtyByPost() {
        Book x = new Book();
        for (int number = 0; number < 60; number++) {
            x.entries().is(number);
            x.post(number % 4, number % 48, 1).is(number);
        }
        x.entries().is(60);
        x.post(0, 0, 1).is(-4);
        x.entries().is(60);
        x.total(0, 47, 47).is(15);
    }

    private static void sixtyByTransfer() {
        Book x = new Book();
        x.floor(0, -30).is(0);
        for (int number = 0; number < 60; number += 2) {
            x.transfer(1, 47, 1).is(number);
            x.entries().is(number + 2);
        }
        x.transfer(4, 47, 1).is(-4);
        x.post(1, 47, 1).is(-4);
        x.entries().is(60);
        x.balance(0, 47).is(-30);
        x.balance(1, 47).is(30);
    }

    private static void numbers() {
        Book x = new Book();
        x.post(0, 0, -1).is(-5);
        x.post(0, 47, 30).is(0);
        x.post(0, 48, 1).is(-2);
        x.post(3, 0, 31).is(1);
        x.transfer(1, 46, 1).is(-5);
        x.transfer(1, 47, 2).is(2);
        x.post(2, 20, 32).is(4);
        x.amountOf(0).is(30);
        x.amountOf(1).is(31);
        x.amountOf(2).is(-2);
        x.amountOf(3).is(2);
        x.amountOf(4).is(32);
        x.cancel(1).is(31);
        x.post(2, 20, 33).is(5);
    }

    private static void cancelledStays() {
        Book x = new Book();
        x.post(0, 0, 5).is(0);
        x.post(0, 0, 6).is(1);
        x.post(0, 0, 7).is(2);
        x.cancel(0).is(5);
        x.cancel(2).is(7);
        x.entries().is(3);
        x.cancelled(0).is(1);
        x.cancelled(1).is(0);
        x.cancelled(2).is(1);
        x.amountOf(0).is(5);
        x.amountOf(1).is(6);
        x.amountOf(2).is(7);
        x.post(0, 0, 8).is(3);
    }

    private static void cancelledGivesNoRoom() {
        Book x = Book.withEntries(60);
        x.cancel(0).is(1);
        x.cancel(59).is(1);
        x.post(0, 0, 1).is(-4);
        x.transfer(1, 0, 1).is(-4);
        x.entries().is(60);
    }

    private static void cancelledCountsNoMore() {
        Book x = new Book();
        x.post(1, 10, 5).is(0);
        x.post(1, 20, -2).is(1);
        x.cancel(1).is(-2);
        x.balance(1, 20).is(5);
        x.lowest(1, 10, 47).is(5);
        x.total(1, 20, 21).is(10);
        x.firstBelow(1, 10, 5).is(-3);
        x.free(1, 10).is(5);
        x.firstFree(1, 5).is(10);
        x.daysBelow(1, 5).is(10);
        x.cancel(0).is(5);
        x.balance(1, 47).is(0);
        x.post(1, 47, -1).is(-5);
        x.floor(1, 1).is(-4);
        x.sound().is(1);
    }

    private static void balanceOfAccount() {
        for (int account = 0; account < 4; account++) {
            Book x = new Book();
            x.post(account, 3, 9).is(0);
            x.post(account, 3, -4).is(1);
            for (int asked = 0; asked < 4; asked++) {
                x.balance(asked, 3).is(asked == account ? 5 : 0);
            }
        }
    }

    private static void balanceOfDay() {
        for (int day = 0; day < 48; day++) {
            Book x = new Book();
            x.post(2, day, 6).is(0);
            for (int asked = 0; asked < 48; asked++) {
                x.balance(2, asked).is(asked < day ? 0 : 6);
            }
        }
    }

    private static void floorAtFirst() {
        for (int account = 0; account < 4; account++) {
            Book x = new Book();
            x.post(account, 0, -1).is(-5);
            x.post(account, 0, 1).is(0);
            x.free(account, 0).is(1);
            x.post(account, 0, -1).is(1);
            x.floor(account, -1).is(0);
        }
    }

    private static void soundOnEveryDay() {
        for (int account = 0; account < 4; account++) {
            for (int day = 0; day < 48; day++) {
                Book x = new Book();
                x.open().is(0);
                x.post(account, day, -1).is(0);
                if (day < 47) {
                    x.post(account, day + 1, 1).is(1);
                }
                x.sound().is(0);
                x.post(account, day, 1).is(day < 47 ? 2 : 1);
                x.sound().is(1);
            }
        }
    }

    private static void soundAtLeastFloor() {
        int[] floors = {-10000, -5, 0, 7, 10000};
        for (int account = 0; account < 4; account++) {
            for (int floor : floors) {
                Book x = new Book();
                x.post(account, 0, 10000).is(0);
                x.floor(account, floor).is(0);
                x.open().is(0);
                x.post(account, 0, -10000).is(1);
                x.sound().is(floor <= 0 ? 1 : 0);
                if (floor != 0) {
                    x.post(account, 0, floor).is(2);
                }
                x.sound().is(1);
                x.post(account, 47, -1).is(floor == 0 ? 2 : 3);
                x.sound().is(0);
            }
        }
    }

    private static void emptyIsSound() {
        Book x = new Book();
        x.sound().is(1);
        x.open().is(0);
        x.sound().is(1);
        x.close().is(1);
        x.sound().is(1);
    }

    private static void noBatchAtFirst() {
        Book x = new Book();
        x.isOpen().is(0);
        Book closed = new Book();
        closed.close().is(-1);
        Book checked = new Book();
        checked.post(0, 0, -1).is(-5);
        Book opened = new Book();
        opened.open().is(0);
        opened.isOpen().is(1);
    }

    private static void refusedPost() {
        Book x = new Book();
        x.post(1, 20, 100).is(0);
        x.post(1, 30, -60).is(1);
        x.post(1, 19, -1).is(-5);
        x.post(1, 20, -41).is(-5);
        x.post(1, 47, -41).is(-5);
        x.post(2, 47, -1).is(-5);
        x.post(1, 20, -40).is(2);
        x.post(1, 30, -1).is(-5);
        x.sound().is(1);
    }

    private static void refusedTransfer() {
        Book x = new Book();
        x.post(1, 20, 100).is(0);
        x.transfer(6, 19, 1).is(-5);
        x.transfer(6, 20, 101).is(-5);
        x.transfer(9, 20, 1).is(-5);
        x.transfer(6, 20, 100).is(1);
        x.transfer(6, 47, 1).is(-5);
        x.sound().is(1);
    }

    private static void refusedCancel() {
        Book x = new Book();
        x.post(1, 20, 100).is(0);
        x.post(1, 20, 1).is(1);
        x.post(1, 47, -100).is(2);
        x.cancel(0).is(-3);
        x.cancel(1).is(1);
        x.cancel(2).is(-100);
        x.cancel(0).is(100);
        x.sound().is(1);
    }

    private static void refusedFloor() {
        Book x = new Book();
        x.post(1, 0, 100).is(0);
        x.post(1, 47, -10).is(1);
        x.floor(1, 91).is(-4);
        x.floor(1, 90).is(0);
        x.floor(1, 91).is(-4);
        x.sound().is(1);
    }

    private static void batchTakesEntries() {
        Book x = new Book();
        x.open().is(0);
        x.post(0, 0, -10000).is(0);
        x.transfer(1, 47, 10000).is(1);
        x.transfer(11, 0, 1).is(3);
        x.entries().is(5);
        x.balance(0, 47).is(-20000);
        x.balance(2, 0).is(-1);
        x.sound().is(0);
    }

    private static void batchTakesCancellations() {
        Book x = new Book();
        x.post(0, 10, 50).is(0);
        x.post(0, 20, -30).is(1);
        x.open().is(0);
        x.cancel(0).is(50);
        x.cancelled(0).is(1);
        x.balance(0, 20).is(-30);
        x.sound().is(0);
    }

    private static void keptEntries() {
        Book x = new Book();
        x.post(0, 0, 5).is(0);
        x.open().is(0);
        x.post(0, 0, -5).is(1);
        x.transfer(4, 47, 3).is(2);
        x.post(1, 47, 3).is(4);
        x.close().is(1);
        x.entries().is(5);
        x.amountOf(1).is(-5);
        x.amountOf(4).is(3);
        x.balance(0, 46).is(0);
        x.balance(0, 47).is(3);
        x.balance(1, 47).is(0);
        x.isOpen().is(0);
    }

    private static void keptCancellations() {
        Book x = new Book();
        x.post(0, 0, 5).is(0);
        x.post(0, 0, 6).is(1);
        x.open().is(0);
        x.post(0, 0, 7).is(2);
        x.cancel(0).is(5);
        x.cancel(2).is(7);
        x.close().is(1);
        x.cancelled(0).is(1);
        x.cancelled(1).is(0);
        x.cancelled(2).is(1);
        x.balance(0, 47).is(6);
        x.isOpen().is(0);
    }

    private static void keptForGood() {
        Book x = new Book();
        x.open().is(0);
        x.post(0, 0, 5).is(0);
        x.post(0, 0, 6).is(1);
        x.cancel(0).is(5);
        x.close().is(1);
        x.open().is(0);
        x.post(0, 0, -7).is(2);
        x.close().is(0);
        x.entries().is(2);
        x.cancelled(0).is(1);
        x.cancelled(1).is(0);
        x.balance(0, 0).is(6);
    }

    private static void soundOnlyThen() {
        Book x = new Book();
        x.open().is(0);
        x.post(0, 0, -1).is(0);
        x.sound().is(0);
        x.post(0, 0, 1).is(1);
        x.close().is(1);
        x.entries().is(2);
        x.open().is(0);
        x.cancel(1).is(1);
        x.sound().is(0);
        x.cancel(0).is(-1);
        x.close().is(1);
        x.cancelled(0).is(1);
        x.cancelled(1).is(1);
    }

    private static void unsoundOnlyThen() {
        Book x = new Book();
        x.open().is(0);
        x.post(0, 0, 4).is(0);
        x.post(1, 0, 4).is(1);
        x.sound().is(1);
        x.post(2, 47, -1).is(2);
        x.close().is(0);
        x.entries().is(0);
        x.isOpen().is(0);
    }

    private static void closeAtFloor() {
        for (int account = 0; account < 4; account++) {
            Book kept = new Book();
            kept.floor(account, -3).is(0);
            kept.open().is(0);
            kept.post(account, 0, -3).is(0);
            kept.close().is(1);
            kept.entries().is(1);
            Book undone = new Book();
            undone.floor(account, -3).is(0);
            undone.open().is(0);
            undone.post(account, 0, -4).is(0);
            undone.close().is(0);
            undone.entries().is(0);
        }
    }

    private static void closeBelowOnOneDay() {
        for (int account = 0; account < 4; account++) {
            int[] days = {0, 23, 46};
            for (int day : days) {
                Book x = new Book();
                x.open().is(0);
                x.post(account, day, -1).is(0);
                x.post(account, day + 1, 1).is(1);
                x.close().is(0);
            }
            Book last = new Book();
            last.open().is(0);
            last.post(account, 47, -1).is(0);
            last.close().is(0);
        }
    }

    private static void undoneEntries() {
        Book x = new Book();
        x.post(0, 5, 40).is(0);
        x.open().is(0);
        x.post(0, 6, 1).is(1);
        x.transfer(1, 7, 2).is(2);
        x.post(3, 0, -1).is(4);
        x.close().is(0);
        x.entries().is(1);
        for (int entry = 1; entry < 6; entry++) {
            x.cancelled(entry).is(-1);
            x.amountOf(entry).is(0);
            x.cancel(entry).is(-1);
        }
        x.balance(0, 47).is(40);
        x.balance(1, 47).is(0);
        x.balance(3, 47).is(0);
        x.sound().is(1);
    }

    private static void undoneNumbers() {
        Book x = new Book();
        x.post(0, 5, 40).is(0);
        x.open().is(0);
        x.post(3, 9, -1).is(1);
        x.post(3, 9, -2).is(2);
        x.close().is(0);
        x.post(1, 8, 7).is(1);
        x.transfer(6, 8, 3).is(2);
        x.entries().is(4);
        x.amountOf(1).is(7);
        x.amountOf(2).is(-3);
        x.amountOf(3).is(3);
        x.balance(1, 7).is(0);
        x.balance(1, 8).is(4);
        x.balance(2, 8).is(3);
        x.balance(3, 47).is(0);
    }

    private static void undoneRoom() {
        Book x = new Book();
        x.open().is(0);
        for (int number = 0; number < 60; number++) {
            x.post(0, 0, -1).is(number);
        }
        x.post(0, 0, 1).is(-4);
        x.close().is(0);
        x.entries().is(0);
        x.fill(0, 60);
        x.post(0, 0, 1).is(-4);
        x.balance(0, 0).is(60);
    }

    private static void undoneCancelledEntries() {
        Book x = new Book();
        x.post(0, 5, 40).is(0);
        x.open().is(0);
        x.post(0, 5, 1).is(1);
        x.cancel(1).is(1);
        x.post(3, 5, -1).is(2);
        x.close().is(0);
        x.cancelled(1).is(-1);
        x.post(1, 5, 9).is(1);
        x.cancelled(1).is(0);
        x.balance(1, 5).is(9);
        x.transfer(4, 5, 9).is(2);
        x.cancelled(2).is(0);
        x.cancelled(3).is(0);
        x.balance(0, 5).is(49);
    }

    private static void undoneCancellations() {
        Book x = new Book();
        x.post(0, 5, 40).is(0);
        x.post(1, 5, 41).is(1);
        x.post(1, 6, -41).is(2);
        x.open().is(0);
        x.cancel(0).is(40);
        x.cancel(1).is(41);
        x.close().is(0);
        x.entries().is(3);
        x.cancelled(0).is(0);
        x.cancelled(1).is(0);
        x.cancelled(2).is(0);
        x.balance(0, 5).is(40);
        x.balance(1, 5).is(41);
        x.balance(1, 6).is(0);
        x.cancel(0).is(40);
    }

    private static void undoneCancellationsOfFull() {
        Book x = Book.withEntries(59);
        x.post(0, 47, -59).is(59);
        x.open().is(0);
        x.cancel(0).is(1);
        x.cancel(58).is(1);
        x.close().is(0);
        x.entries().is(60);
        x.cancelled(0).is(0);
        x.cancelled(58).is(0);
        x.balance(0, 0).is(59);
        x.balance(0, 47).is(0);
    }

    private static void undoneKeepsEarlier() {
        Book x = new Book();
        x.floor(0, -9).is(0);
        x.post(0, 5, 40).is(0);
        x.post(0, 5, 41).is(1);
        x.post(0, 5, 42).is(2);
        x.cancel(0).is(40);
        x.open().is(0);
        x.cancel(0).is(-2);
        x.cancel(2).is(42);
        x.post(0, 5, -51).is(3);
        x.close().is(0);
        x.entries().is(3);
        x.cancelled(0).is(1);
        x.cancelled(1).is(0);
        x.cancelled(2).is(0);
        x.balance(0, 5).is(83);
        x.free(0, 5).is(92);
        x.floor(0, 0).is(-9);
    }

    private static void undoneOneBatch() {
        Book x = new Book();
        x.post(0, 0, 10).is(0);
        x.post(0, 0, 11).is(1);
        x.open().is(0);
        x.cancel(0).is(10);
        x.post(0, 0, -12).is(2);
        x.close().is(0);
        x.cancel(0).is(10);
        x.open().is(0);
        x.post(0, 0, -12).is(2);
        x.close().is(0);
        x.cancelled(0).is(1);
        x.cancelled(1).is(0);
        x.entries().is(2);
        x.balance(0, 0).is(11);
    }

    private static void greatestSums() {
        Book x = new Book();
        x.floor(0, -10000).is(0);
        for (int number = 0; number < 60; number++) {
            x.post(0, 0, 10000).is(number);
        }
        x.balance(0, 0).is(600000);
        x.balance(0, 47).is(600000);
        x.lowest(0, 0, 47).is(600000);
        x.total(0, 0, 47).is(28800000);
        x.free(0, 0).is(610000);
        x.firstFree(0, 610000).is(0);
        x.firstFree(0, 610001).is(-3);
        x.firstBelow(0, 0, 600001).is(0);
        x.firstBelow(0, 0, 600000).is(-3);
    }

    private static void leastSums() {
        Book x = new Book();
        x.open().is(0);
        for (int number = 0; number < 60; number++) {
            x.post(3, 0, -10000).is(number);
        }
        x.balance(3, 47).is(-600000);
        x.lowest(3, 0, 47).is(-600000);
        x.total(3, 0, 47).is(-28800000);
        x.free(3, 0).is(0);
        x.daysBelow(3, -600000).is(0);
        x.daysBelow(3, -599999).is(48);
        x.close().is(0);
        x.entries().is(0);
    }

    private static void goodEntries() {
        Book x = new Book();
        noneGood(x, 0);
        x.post(0, 0, 8).is(0);
        x.amountOf(0).is(8);
        noneGood(x, 1);
        x.open().is(0);
        x.post(0, 0, -9).is(1);
        x.amountOf(1).is(-9);
        noneGood(x, 2);
        x.close().is(0);
        noneGood(x, 1);
        x.fill(1, 60);
        x.amountOf(59).is(1);
        x.cancelled(59).is(0);
        x.cancel(59).is(1);
        noneGood(x, 60);
    }

    private static void noneGood(Book x, int count) {
        for (int entry : Book.badEntries(count)) {
            x.cancel(entry).is(-1);
            x.cancelled(entry).is(-1);
            x.amountOf(entry).is(0);
        }
    }
}

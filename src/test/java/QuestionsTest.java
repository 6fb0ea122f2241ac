/** Promises 8 to 19, the questions: each clause with a test of its own. */
public final class QuestionsTest {
    public static void main(String[] args) {
        Sentences.test("Promise 8: 1 if a batch is open, otherwise 0", QuestionsTest::isOpenAnswers);
        testEntries();
        testSoundAndBalance();
        testSpans();
        testFirstBelow();
        testFree();
        testFirstFree();
        testDaysBelow();
        Sentences.end();
    }

    private static void testEntries() {
        Sentences.test("Promise 9: How many entries there are: 0 to 60", QuestionsTest::entriesCounted);
        Sentences.test("Promise 9: cancelled ones included", QuestionsTest::entriesWithCancelled);
        Sentences.test("Promise 9: in a batch, and after it", QuestionsTest::entriesInBatch);
        Sentences.test("Promise 10: 1 if the entry is cancelled, otherwise 0", QuestionsTest::cancelledAnswers);
        Sentences.test("Promise 10: in a batch, and after it", QuestionsTest::cancelledInBatch);
        Sentences.test("Promise 10: -1 if entry is not good: no entry", QuestionsTest::cancelledInEmpty);
        Sentences.test("Promise 10: -1 if entry is not good: some entries", QuestionsTest::cancelledBadEntry);
        Sentences.test("Promise 10: -1 if entry is not good: 60 entries", QuestionsTest::cancelledInFull);
        Sentences.test("Promise 11: The amount of the entry", QuestionsTest::amountOfEntry);
        Sentences.test("Promise 11: cancelled or not", QuestionsTest::amountOfCancelled);
        Sentences.test("Promise 11: 0 if entry is not good: no entry", QuestionsTest::amountOfInEmpty);
        Sentences.test("Promise 11: 0 if entry is not good: some entries", QuestionsTest::amountOfBadEntry);
        Sentences.test("Promise 11: 0 if entry is not good: 60 entries", QuestionsTest::amountOfInFull);
    }

    private static void testSoundAndBalance() {
        Sentences.test("Promise 12: 1 if the book is sound", QuestionsTest::soundAnswers);
        Sentences.test("Promise 12: otherwise 0", QuestionsTest::unsoundAnswers);
        Sentences.test("Promise 13: The account's balance on the day", QuestionsTest::balanceAnswers);
        Sentences.test("Promise 13: below 0", QuestionsTest::balanceBelowZero);
        Sentences.test("Promise 13: -1000000 if account is not good", QuestionsTest::balanceBadAccount);
        Sentences.test("Promise 13: -1000000 if day is not good", QuestionsTest::balanceBadDay);
    }

    private static void testSpans() {
        Sentences.test("Promise 14: The least balance on the days first .. last", QuestionsTest::lowestAnswers);
        Sentences.test("Promise 14: first and last are among the days", QuestionsTest::lowestEnds);
        Sentences.test("Promise 14: first and last are the same day", QuestionsTest::lowestOneDay);
        Sentences.test("Promise 14: -1000000 if account is not good", QuestionsTest::lowestBadAccount);
        Sentences.test("Promise 14: -2000000 unless 0 <= first <= last <= 47", QuestionsTest::lowestBadSpan);
        Sentences.test("Promise 15: The sum of the balances on the days first .. last", QuestionsTest::totalAnswers);
        Sentences.test("Promise 15: first and last are among the days", QuestionsTest::totalEnds);
        Sentences.test("Promise 15: first and last are the same day", QuestionsTest::totalOneDay);
        Sentences.test("Promise 15: -2000000000 if account is not good", QuestionsTest::totalBadAccount);
        Sentences.test("Promise 15: -2000000000 unless 0 <= first <= last <= 47", QuestionsTest::totalBadSpan);
    }

    private static void testFirstBelow() {
        Sentences.test("Promise 16: The first day", QuestionsTest::firstBelowFirst);
        Sentences.test("Promise 16: from the given one on", QuestionsTest::firstBelowFrom);
        Sentences.test("Promise 16: is less than bound, not the same", QuestionsTest::firstBelowSame);
        Sentences.test("Promise 16: bound is any int: the greatest", QuestionsTest::firstBelowGreatest);
        Sentences.test("Promise 16: bound is any int: the least", QuestionsTest::firstBelowLeast);
        Sentences.test("Promise 16: -1 if account is not good", QuestionsTest::firstBelowBadAccount);
        Sentences.test("Promise 16: -2 if day is not good", QuestionsTest::firstBelowBadDay);
        Sentences.test("Promise 16: -3 if there is none", QuestionsTest::firstBelowNone);
    }

    private static void testFree() {
        Sentences.test("Promise 17: The least over all days from the given one on", QuestionsTest::freeAnswers);
        Sentences.test("Promise 17: balance minus its floor", QuestionsTest::freeMinusFloor);
        Sentences.test("Promise 17: but 0 if that is negative", QuestionsTest::freeNegative);
        Sentences.test("Promise 17: -1 if account is not good", QuestionsTest::freeBadAccount);
        Sentences.test("Promise 17: -2 if day is not good", QuestionsTest::freeBadDay);
    }

    private static void testFirstFree() {
        Sentences.test("Promise 18: The first day d", QuestionsTest::firstFreeFirst);
        Sentences.test("Promise 18: free(account, d) is at least x", QuestionsTest::firstFreeAtLeast);
        Sentences.test("Promise 18: free looks at the later days too", QuestionsTest::firstFreeLaterDays);
        Sentences.test("Promise 18: with its floor", QuestionsTest::firstFreeFloor);
        Sentences.test("Promise 18: -1 if account is not good", QuestionsTest::firstFreeBadAccount);
        Sentences.test("Promise 18: -2 if x is not in 1 .. 1000000", QuestionsTest::firstFreeBadAsked);
        Sentences.test("Promise 18: -3 if there is none", QuestionsTest::firstFreeNone);
    }

    private static void testDaysBelow() {
        Sentences.test("Promise 19: On how many days", QuestionsTest::daysBelowCounted);
        Sentences.test("Promise 19: less than bound, not the same", QuestionsTest::daysBelowSame);
        Sentences.test("Promise 19: bound is any int: the greatest", QuestionsTest::daysBelowGreatest);
        Sentences.test("Promise 19: bound is any int: the least", QuestionsTest::daysBelowLeast);
        Sentences.test("Promise 19: -1 if account is not good", QuestionsTest::daysBelowBadAccount);
    }

    /** Account 0 stands at 0, 10 from day 4, 3 from day 9, 8 from day 12 and -2 on day 47; its floor is -4. */
    private static Book steps() {
        Book x = new Book();
        x.floor(0, -4).is(0);
        x.post(0, 12, 5).is(0);
        x.post(0, 4, 10).is(1);
        x.post(0, 47, -10).is(2);
        x.post(0, 9, -7).is(3);
        return x;
    }

    private static void isOpenAnswers() {
        Book x = new Book();
        x.isOpen().is(0);
        x.close().is(-1);
        x.isOpen().is(0);
        x.open().is(0);
        x.isOpen().is(1);
        x.open().is(-1);
        x.isOpen().is(1);
        x.close().is(1);
        x.isOpen().is(0);
        x.open().is(0);
        x.post(0, 0, -1).is(0);
        x.isOpen().is(1);
        x.close().is(0);
        x.isOpen().is(0);
    }

    private static void entriesCounted() {
        Book x = new Book();
        for (int count = 0; count < 60; count++) {
            x.entries().is(count);
            x.post(0, 0, 1).is(count);
        }
        x.entries().is(60);
        x.post(0, 0, 1).is(-4);
        x.entries().is(60);
    }

    private static void entriesWithCancelled() {
        Book x = new Book();
        x.post(0, 0, 1).is(0);
        x.cancel(0).is(1);
        x.entries().is(1);
        x.post(0, 0, 2).is(1);
        x.entries().is(2);
        x.cancel(1).is(2);
        x.entries().is(2);
    }

    private static void entriesInBatch() {
        Book x = new Book();
        x.post(0, 0, 1).is(0);
        x.open().is(0);
        x.entries().is(1);
        x.transfer(11, 0, 1).is(1);
        x.entries().is(3);
        x.close().is(0);
        x.entries().is(1);
        x.open().is(0);
        x.post(0, 0, 1).is(1);
        x.close().is(1);
        x.entries().is(2);
    }

    private static void cancelledAnswers() {
        Book x = new Book();
        x.post(2, 4, 12).is(0);
        x.post(2, 4, -12).is(1);
        x.cancelled(0).is(0);
        x.cancelled(1).is(0);
        x.cancel(0).is(-3);
        x.cancelled(0).is(0);
        x.cancel(1).is(-12);
        x.cancelled(0).is(0);
        x.cancelled(1).is(1);
    }

    private static void cancelledInBatch() {
        Book x = new Book();
        x.post(0, 0, 5).is(0);
        x.post(0, 0, -5).is(1);
        x.open().is(0);
        x.cancel(0).is(5);
        x.cancelled(0).is(1);
        x.post(0, 0, 1).is(2);
        x.cancelled(2).is(0);
        x.close().is(0);
        x.cancelled(0).is(0);
        x.cancelled(2).is(-1);
        x.open().is(0);
        x.cancel(1).is(-5);
        x.close().is(1);
        x.cancelled(1).is(1);
    }

    private static void cancelledInEmpty() {
        Book x = new Book();
        for (int entry : Book.badEntries(0)) {
            x.cancelled(entry).is(-1);
        }
    }

    private static void cancelledBadEntry() {
        Book x = Book.withEntries(3);
        x.cancel(1).is(1);
        for (int entry : Book.badEntries(3)) {
            x.cancelled(entry).is(-1);
        }
        x.cancelled(0).is(0);
        x.cancelled(2).is(0);
    }

    private static void cancelledInFull() {
        Book x = Book.withEntries(60);
        for (int entry : Book.badEntries(60)) {
            x.cancelled(entry).is(-1);
        }
        x.cancelled(0).is(0);
        x.cancelled(59).is(0);
        x.cancel(59).is(1);
        x.cancelled(59).is(1);
    }

    private static void amountOfEntry() {
        Book x = new Book();
        x.post(2, 4, 10000).is(0);
        x.post(2, 4, -10000).is(1);
        x.post(1, 0, 1).is(2);
        x.transfer(6, 3, 1).is(3);
        x.amountOf(0).is(10000);
        x.amountOf(1).is(-10000);
        x.amountOf(2).is(1);
        x.amountOf(3).is(-1);
        x.amountOf(4).is(1);
    }

    private static void amountOfCancelled() {
        Book x = new Book();
        x.post(2, 4, 12).is(0);
        x.post(2, 4, -12).is(1);
        x.cancel(1).is(-12);
        x.amountOf(1).is(-12);
        x.cancel(0).is(12);
        x.amountOf(0).is(12);
        x.open().is(0);
        x.post(3, 0, -9).is(2);
        x.cancel(2).is(-9);
        x.amountOf(2).is(-9);
    }

    private static void amountOfInEmpty() {
        Book x = new Book();
        for (int entry : Book.badEntries(0)) {
            x.amountOf(entry).is(0);
        }
        x.post(0, 0, -1).is(-5);
        x.amountOf(0).is(0);
    }

    private static void amountOfBadEntry() {
        Book x = Book.withEntries(3);
        x.open().is(0);
        x.post(3, 0, -9).is(3);
        x.close().is(0);
        for (int entry : Book.badEntries(3)) {
            x.amountOf(entry).is(0);
        }
        x.amountOf(0).is(1);
        x.amountOf(2).is(1);
    }

    private static void amountOfInFull() {
        Book x = Book.withEntries(60);
        for (int entry : Book.badEntries(60)) {
            x.amountOf(entry).is(0);
        }
        x.amountOf(0).is(1);
        x.amountOf(59).is(1);
    }

    private static void soundAnswers() {
        Book x = new Book();
        x.sound().is(1);
        x.post(0, 0, 5).is(0);
        x.sound().is(1);
        x.open().is(0);
        x.post(0, 47, -5).is(1);
        x.sound().is(1);
        x.close().is(1);
        x.sound().is(1);
        x.floor(1, -5).is(0);
        x.open().is(0);
        x.post(1, 0, -5).is(2);
        x.sound().is(1);
    }

    private static void unsoundAnswers() {
        Book x = new Book();
        x.floor(1, -5).is(0);
        x.open().is(0);
        x.post(1, 47, -6).is(0);
        x.sound().is(0);
        x.post(1, 47, 1).is(1);
        x.sound().is(1);
        x.cancel(1).is(1);
        x.sound().is(0);
        x.close().is(0);
        x.sound().is(1);
    }

    private static void balanceAnswers() {
        Book x = new Book();
        x.post(1, 20, 7).is(0);
        x.post(1, 0, 3).is(1);
        x.post(1, 47, 5).is(2);
        x.post(1, 20, 11).is(3);
        x.balance(1, 0).is(3);
        x.balance(1, 19).is(3);
        x.balance(1, 20).is(21);
        x.balance(1, 46).is(21);
        x.balance(1, 47).is(26);
        x.balance(0, 47).is(0);
        x.balance(2, 47).is(0);
    }

    private static void balanceBelowZero() {
        Book x = new Book();
        x.open().is(0);
        x.post(3, 5, -9).is(0);
        x.post(3, 6, 8).is(1);
        x.balance(3, 4).is(0);
        x.balance(3, 5).is(-9);
        x.balance(3, 6).is(-1);
    }

    private static void balanceBadAccount() {
        Book x = steps();
        for (int account : Book.badAccounts()) {
            x.balance(account, 0).is(-1000000);
            x.balance(account, 47).is(-1000000);
            x.balance(account, 48).is(-1000000);
        }
        x.post(3, 0, 6).is(4);
        x.balance(0, 4).is(10);
        x.balance(3, 4).is(6);
    }

    private static void balanceBadDay() {
        Book x = steps();
        x.post(3, 0, 6).is(4);
        for (int day : Book.badDays()) {
            x.balance(0, day).is(-1000000);
            x.balance(3, day).is(-1000000);
        }
        x.balance(0, 0).is(0);
        x.balance(0, 47).is(-2);
    }

    private static void lowestAnswers() {
        Book x = steps();
        x.lowest(0, 0, 47).is(-2);
        x.lowest(0, 0, 46).is(0);
        x.lowest(0, 4, 46).is(3);
        x.lowest(1, 0, 47).is(0);
        x.open().is(0);
        x.post(0, 20, -1000).is(4);
        x.post(0, 21, 1000).is(5);
        x.lowest(0, 0, 47).is(-992);
        x.post(1, 0, 4).is(6);
        x.lowest(1, 0, 47).is(4);
    }

    private static void lowestEnds() {
        Book x = steps();
        x.lowest(0, 3, 8).is(0);
        x.lowest(0, 4, 8).is(10);
        x.lowest(0, 4, 9).is(3);
        x.lowest(0, 11, 20).is(3);
        x.lowest(0, 12, 20).is(8);
        x.lowest(0, 12, 46).is(8);
        x.lowest(0, 12, 47).is(-2);
    }

    private static void lowestOneDay() {
        Book x = steps();
        x.lowest(0, 0, 0).is(0);
        x.lowest(0, 4, 4).is(10);
        x.lowest(0, 9, 9).is(3);
        x.lowest(0, 46, 46).is(8);
        x.lowest(0, 47, 47).is(-2);
    }

    private static void lowestBadAccount() {
        Book x = steps();
        for (int account : Book.badAccounts()) {
            x.lowest(account, 0, 47).is(-1000000);
            x.lowest(account, 47, 47).is(-1000000);
        }
        x.post(3, 0, 6).is(4);
        x.lowest(0, 4, 46).is(3);
        x.lowest(3, 0, 47).is(6);
    }

    private static void lowestBadSpan() {
        Book x = steps();
        for (int[] span : Book.badSpans()) {
            x.lowest(0, span[0], span[1]).is(-2000000);
        }
        x.lowest(0, 0, 47).is(-2);
    }

    private static void totalAnswers() {
        Book x = steps();
        x.total(0, 0, 47).is(5 * 10 + 3 * 3 + 35 * 8 - 2);
        x.total(0, 0, 3).is(0);
        x.total(1, 0, 47).is(0);
        x.post(1, 0, 1).is(4);
        x.total(1, 0, 47).is(48);
    }

    private static void totalEnds() {
        Book x = steps();
        x.total(0, 3, 4).is(10);
        x.total(0, 4, 5).is(20);
        x.total(0, 8, 9).is(13);
        x.total(0, 45, 46).is(16);
        x.total(0, 46, 47).is(6);
        x.post(0, 0, 1).is(4);
        x.total(0, 0, 1).is(2);
        x.total(0, 0, 3).is(4);
    }

    private static void totalOneDay() {
        Book x = steps();
        x.total(0, 8, 8).is(10);
        x.total(0, 9, 9).is(3);
        x.total(0, 47, 47).is(-2);
        x.post(0, 0, 1).is(4);
        x.total(0, 0, 0).is(1);
    }

    private static void totalBadAccount() {
        Book x = steps();
        for (int account : Book.badAccounts()) {
            x.total(account, 0, 47).is(-2000000000);
            x.total(account, 47, 47).is(-2000000000);
            x.total(account, 1, 0).is(-2000000000);
        }
        x.post(3, 0, 6).is(4);
        x.total(0, 4, 4).is(10);
        x.total(3, 0, 0).is(6);
    }

    private static void totalBadSpan() {
        Book x = steps();
        for (int[] span : Book.badSpans()) {
            x.total(0, span[0], span[1]).is(-2000000000);
        }
        x.total(0, 0, 4).is(10);
    }

    private static void firstBelowFirst() {
        Book x = steps();
        x.firstBelow(0, 0, 0).is(47);
        x.firstBelow(0, 0, 1).is(0);
        x.firstBelow(0, 4, 4).is(9);
        x.firstBelow(0, 4, 9).is(9);
        x.firstBelow(0, 4, 11).is(4);
        x.firstBelow(1, 0, 1).is(0);
    }

    private static void firstBelowFrom() {
        Book x = steps();
        x.firstBelow(0, 3, 1).is(3);
        x.firstBelow(0, 4, 1).is(47);
        x.firstBelow(0, 9, 4).is(9);
        x.firstBelow(0, 11, 4).is(11);
        x.firstBelow(0, 12, 4).is(47);
        x.firstBelow(0, 46, 9).is(46);
        x.firstBelow(0, 47, -1).is(47);
    }

    private static void firstBelowSame() {
        Book x = steps();
        x.firstBelow(0, 4, 3).is(47);
        x.firstBelow(0, 4, 10).is(9);
        x.firstBelow(0, 47, -2).is(-3);
        x.firstBelow(0, 47, -1).is(47);
        x.firstBelow(1, 0, 0).is(-3);
    }

    private static void firstBelowGreatest() {
        Book x = steps();
        x.firstBelow(0, 0, Book.MAX).is(0);
        x.firstBelow(0, 5, Book.MAX).is(5);
        x.firstBelow(0, 47, Book.MAX).is(47);
        x.firstBelow(0, 0, Book.MAX - 1).is(0);
    }

    private static void firstBelowLeast() {
        Book x = steps();
        x.firstBelow(0, 0, Book.MIN).is(-3);
        x.firstBelow(0, 5, Book.MIN).is(-3);
        x.firstBelow(0, 47, Book.MIN).is(-3);
        x.firstBelow(0, 0, Book.MIN + 1).is(-3);
    }

    private static void firstBelowBadAccount() {
        Book x = steps();
        for (int account : Book.badAccounts()) {
            x.firstBelow(account, 0, 1).is(-1);
        }
        x.firstBelow(3, 0, 1).is(0);
    }

    private static void firstBelowBadDay() {
        Book x = steps();
        for (int day : Book.badDays()) {
            x.firstBelow(0, day, 1).is(-2);
        }
        x.firstBelow(0, 0, 1).is(0);
        x.firstBelow(0, 47, 1).is(47);
    }

    private static void firstBelowNone() {
        Book x = steps();
        x.firstBelow(0, 0, -2).is(-3);
        x.firstBelow(0, 47, -2).is(-3);
        x.cancel(2).is(-10);
        x.firstBelow(0, 4, 3).is(-3);
        x.firstBelow(0, 12, 8).is(-3);
        x.firstBelow(0, 47, 8).is(-3);
    }

    private static void freeAnswers() {
        Book x = steps();
        x.free(0, 0).is(2);
        x.free(0, 47).is(2);
        x.cancel(2).is(-10);
        x.free(0, 0).is(4);
        x.free(0, 3).is(4);
        x.free(0, 4).is(7);
        x.free(0, 9).is(7);
        x.free(0, 11).is(7);
        x.free(0, 12).is(12);
        x.free(0, 47).is(12);
        x.free(1, 0).is(0);
    }

    private static void freeMinusFloor() {
        Book x = new Book();
        x.post(2, 0, 10000).is(0);
        x.free(2, 0).is(10000);
        x.floor(2, 9999).is(0);
        x.free(2, 0).is(1);
        x.floor(2, 10000).is(9999);
        x.free(2, 0).is(0);
        x.floor(2, -10000).is(10000);
        x.free(2, 0).is(20000);
        x.free(2, 47).is(20000);
        x.free(1, 0).is(0);
    }

    private static void freeNegative() {
        Book x = steps();
        x.open().is(0);
        x.post(0, 20, -2).is(4);
        x.free(0, 20).is(0);
        x.post(0, 20, -1).is(5);
        x.free(0, 20).is(0);
        x.free(0, 0).is(0);
        x.post(0, 21, 4).is(6);
        x.free(0, 21).is(3);
        x.free(0, 20).is(3);
        x.post(0, 20, -10000).is(7);
        x.free(0, 20).is(0);
        x.free(0, 47).is(0);
    }

    private static void freeBadAccount() {
        Book x = steps();
        for (int account : Book.badAccounts()) {
            x.free(account, 0).is(-1);
        }
        x.post(3, 0, 6).is(4);
        x.free(0, 0).is(2);
        x.free(3, 0).is(6);
    }

    private static void freeBadDay() {
        Book x = steps();
        for (int day : Book.badDays()) {
            x.free(0, day).is(-2);
        }
        x.free(0, 0).is(2);
        x.free(0, 47).is(2);
    }

    private static void firstFreeFirst() {
        Book x = steps();
        x.firstFree(0, 1).is(0);
        x.firstFree(0, 2).is(0);
        x.cancel(2).is(-10);
        x.firstFree(0, 5).is(4);
        x.firstFree(0, 8).is(12);
        x.post(0, 47, 1).is(4);
        x.firstFree(0, 13).is(47);
    }

    private static void firstFreeAtLeast() {
        Book x = steps();
        x.cancel(2).is(-10);
        x.firstFree(0, 4).is(0);
        x.firstFree(0, 5).is(4);
        x.firstFree(0, 7).is(4);
        x.firstFree(0, 8).is(12);
        x.firstFree(0, 12).is(12);
        x.firstFree(0, 13).is(-3);
    }

    private static void firstFreeLaterDays() {
        Book x = new Book();
        x.post(1, 5, 100).is(0);
        x.post(1, 30, -60).is(1);
        x.post(1, 31, 60).is(2);
        x.firstFree(1, 40).is(5);
        x.firstFree(1, 41).is(31);
        x.firstFree(1, 100).is(31);
        x.open().is(0);
        x.post(1, 47, -101).is(3);
        x.firstFree(1, 1).is(-3);
    }

    private static void firstFreeFloor() {
        Book x = new Book();
        x.post(1, 0, 10).is(0);
        x.firstFree(1, 10).is(0);
        x.floor(1, 4).is(0);
        x.firstFree(1, 6).is(0);
        x.firstFree(1, 7).is(-3);
        x.floor(1, -4).is(4);
        x.firstFree(1, 14).is(0);
        x.firstFree(1, 15).is(-3);
        x.firstFree(0, 1).is(-3);
    }

    private static void firstFreeBadAccount() {
        Book x = steps();
        for (int account : Book.badAccounts()) {
            x.firstFree(account, 1).is(-1);
        }
        x.post(3, 0, 6).is(4);
        x.firstFree(0, 1).is(0);
        x.firstFree(3, 6).is(0);
    }

    private static void firstFreeBadAsked() {
        int[] bad = {0, -1, 1000001, Book.MIN, Book.MAX};
        Book x = steps();
        for (int asked : bad) {
            x.firstFree(0, asked).is(-2);
        }
        x.firstFree(0, 1).is(0);
        x.firstFree(0, 1000000).is(-3);
    }

    private static void firstFreeNone() {
        Book x = new Book();
        x.firstFree(0, 1).is(-3);
        x.firstFree(0, 1000000).is(-3);
        x.post(0, 47, 5).is(0);
        x.firstFree(0, 5).is(47);
        x.firstFree(0, 6).is(-3);
    }

    private static void daysBelowCounted() {
        Book x = steps();
        x.daysBelow(0, -1).is(1);
        x.daysBelow(0, 0).is(1);
        x.daysBelow(0, 1).is(5);
        x.daysBelow(0, 4).is(8);
        x.daysBelow(0, 9).is(43);
        x.daysBelow(0, 11).is(48);
        x.daysBelow(1, 1).is(48);
        x.post(1, 1, 1).is(4);
        x.daysBelow(1, 1).is(1);
    }

    private static void daysBelowSame() {
        Book x = steps();
        x.daysBelow(0, -2).is(0);
        x.daysBelow(0, 3).is(5);
        x.daysBelow(0, 8).is(8);
        x.daysBelow(0, 10).is(43);
        x.daysBelow(1, 0).is(0);
    }

    private static void daysBelowGreatest() {
        Book x = steps();
        x.daysBelow(0, Book.MAX).is(48);
        x.daysBelow(0, Book.MAX - 1).is(48);
    }

    private static void daysBelowLeast() {
        Book x = steps();
        x.daysBelow(0, Book.MIN).is(0);
        x.daysBelow(0, Book.MIN + 1).is(0);
    }

    private static void daysBelowBadAccount() {
        Book x = steps();
        for (int account : Book.badAccounts()) {
            x.daysBelow(account, 1).is(-1);
            x.daysBelow(account, Book.MIN).is(-1);
        }
        x.daysBelow(0, 1).is(5);
        x.daysBelow(3, 1).is(48);
    }
}

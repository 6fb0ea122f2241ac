/** Each promise by hand: ordinary inputs, the edges the document names, and wrong inputs. */
public final class PromisesTest {
    private static int wrong = 0;
    private static String part = "";

    private static void due(String call, int got, int want) {
        if (got != want) {
            wrong++;
            System.out.println(part + ": " + call + " answered " + got + ", due is " + want);
        }
    }

    public static void main(String[] args) {
        newObject();
        postAnswers();
        postTestOrder();
        postFull();
        postSoundness();
        transferAnswers();
        transferTestOrder();
        transferFull();
        transferSoundness();
        cancelAnswers();
        cancelInBatch();
        floorAnswers();
        openAndClose();
        closeUndoes();
        closeKeepsEarlierCancellations();
        batchOfBatches();
        fullListInBatch();
        cancelledAndAmountOf();
        soundAnswers();
        balanceAnswers();
        lowestAnswers();
        totalAnswers();
        firstBelowAnswers();
        freeAnswers();
        firstFreeAnswers();
        daysBelowAnswers();
        greatestSums();
        objectsAreApart();
        System.out.println(wrong == 0 ? "all answers are as due" : wrong + " answers are not as due");
        if (wrong != 0) {
            System.exit(1);
        }
    }

    private static void newObject() {
        part = "promise 1";
        BackdatedBook x = new BackdatedBook();
        due("entries()", x.entries(), 0);
        due("isOpen()", x.isOpen(), 0);
        due("sound()", x.sound(), 1);
        due("cancelled(0)", x.cancelled(0), -1);
        due("amountOf(0)", x.amountOf(0), 0);
        due("close()", x.close(), -1);
        for (int account = 0; account < 4; account++) {
            due("lowest", x.lowest(account, 0, 47), 0);
            due("total", x.total(account, 0, 47), 0);
            due("free", x.free(account, 0), 0);
            due("daysBelow 0", x.daysBelow(account, 0), 0);
            due("daysBelow 1", x.daysBelow(account, 1), 48);
            due("floor before", x.floor(account, 0), 0);
        }
    }

    private static void postAnswers() {
        part = "promise 2";
        BackdatedBook x = new BackdatedBook();
        due("post(0, 0, 1)", x.post(0, 0, 1), 0);
        due("post(3, 47, 10000)", x.post(3, 47, 10000), 1);
        due("post(3, 47, -10000)", x.post(3, 47, -10000), 2);
        due("entries()", x.entries(), 3);
        int[] badAccounts = {-1, 4, Integer.MIN_VALUE, Integer.MAX_VALUE};
        for (int account : badAccounts) {
            due("post account " + account, x.post(account, 0, 1), -1);
        }
        int[] badDays = {-1, 48, Integer.MIN_VALUE, Integer.MAX_VALUE};
        for (int day : badDays) {
            due("post day " + day, x.post(0, day, 1), -2);
        }
        int[] badAmounts = {0, 10001, -10001, Integer.MIN_VALUE, Integer.MAX_VALUE};
        for (int amount : badAmounts) {
            due("post amount " + amount, x.post(0, 0, amount), -3);
        }
        due("entries()", x.entries(), 3);
        due("balance(0, 47)", x.balance(0, 47), 1);
        due("post(1, 3, 5)", x.post(1, 3, 5), 3);
    }

    private static void postTestOrder() {
        part = "promise 2, order";
        BackdatedBook x = new BackdatedBook();
        due("post(4, 48, 0)", x.post(4, 48, 0), -1);
        due("post(0, 48, 0)", x.post(0, 48, 0), -2);
        due("post(0, 0, -10001)", x.post(0, 0, -10001), -3);
        fill(x, 60);
        due("post(4, 48, 0) full", x.post(4, 48, 0), -1);
        due("post(0, 48, 0) full", x.post(0, 48, 0), -2);
        due("post(0, 0, 0) full", x.post(0, 0, 0), -3);
        due("post(0, 0, -10000) full", x.post(0, 0, -10000), -4);
    }

    private static void postFull() {
        part = "promise 2, full";
        BackdatedBook x = new BackdatedBook();
        fill(x, 59);
        due("post(1, 0, -1)", x.post(1, 0, -1), -5);
        due("post(1, 0, 7)", x.post(1, 0, 7), 59);
        due("post(1, 0, 7)", x.post(1, 0, 7), -4);
        due("cancel(5)", x.cancel(5), 1);
        due("post after cancel", x.post(1, 0, 7), -4);
        due("entries()", x.entries(), 60);
        due("balance(1, 0)", x.balance(1, 0), 7);
    }

    private static void postSoundness() {
        part = "promise 2, soundness";
        BackdatedBook x = new BackdatedBook();
        due("post(1, 20, 100)", x.post(1, 20, 100), 0);
        due("post(1, 30, -60)", x.post(1, 30, -60), 1);
        due("earlier day", x.post(1, 19, -1), -5);
        due("later day is hurt", x.post(1, 20, -41), -5);
        due("other account", x.post(2, 47, -1), -5);
        due("entries()", x.entries(), 2);
        due("balance(1, 47)", x.balance(1, 47), 40);
        due("just to the floor", x.post(1, 20, -40), 2);
        due("last day", x.post(1, 47, -1), -5);
        due("before the fall", x.post(1, 29, 5), 3);
        due("last day", x.post(1, 47, -5), 4);
        due("first day", x.post(1, 0, -1), -5);
    }

    private static void transferAnswers() {
        part = "promise 3";
        for (int route = 0; route < 16; route++) {
            BackdatedBook x = new BackdatedBook();
            int from = route / 4;
            int to = route % 4;
            due("post", x.post(from, 5, 100), 0);
            if (from == to) {
                due("same, route " + route, x.transfer(route, 6, 30), -1);
                due("entries()", x.entries(), 1);
                continue;
            }
            due("route " + route, x.transfer(route, 6, 30), 1);
            due("entries()", x.entries(), 3);
            due("amountOf(1)", x.amountOf(1), -30);
            due("amountOf(2)", x.amountOf(2), 30);
            for (int account = 0; account < 4; account++) {
                due("balance day 5", x.balance(account, 5), account == from ? 100 : 0);
                due("balance day 6", x.balance(account, 6), account == from ? 70 : account == to ? 30 : 0);
            }
        }
        BackdatedBook x = new BackdatedBook();
        due("post", x.post(0, 0, 10000), 0);
        due("greatest amount", x.transfer(1, 0, 10000), 1);
        due("least amount", x.transfer(4, 47, 1), 3);
        due("balance(0, 47)", x.balance(0, 47), 1);
        int[] badRoutes = {-1, 16, -4, Integer.MIN_VALUE, Integer.MAX_VALUE};
        for (int route : badRoutes) {
            due("transfer route " + route, x.transfer(route, 47, 1), -1);
        }
        int[] badDays = {-1, 48, Integer.MIN_VALUE, Integer.MAX_VALUE};
        for (int day : badDays) {
            due("transfer day " + day, x.transfer(4, day, 1), -2);
        }
        int[] badAmounts = {0, -1, 10001, Integer.MIN_VALUE, Integer.MAX_VALUE};
        for (int amount : badAmounts) {
            due("transfer amount " + amount, x.transfer(4, 47, amount), -3);
        }
        due("entries()", x.entries(), 5);
    }

    private static void transferTestOrder() {
        part = "promise 3, order";
        BackdatedBook x = new BackdatedBook();
        fill(x, 59);
        due("transfer(0, 48, 0)", x.transfer(0, 48, 0), -1);
        due("transfer(16, 48, 0)", x.transfer(16, 48, 0), -1);
        due("transfer(1, 48, 0)", x.transfer(1, 48, 0), -2);
        due("transfer(1, 0, 0)", x.transfer(1, 0, 0), -3);
        due("transfer(4, 0, 1)", x.transfer(4, 0, 1), -4);
    }

    private static void transferFull() {
        part = "promise 3, full";
        BackdatedBook x = new BackdatedBook();
        fill(x, 58);
        due("unsound at 58", x.transfer(4, 0, 1), -5);
        due("transfer at 58", x.transfer(1, 47, 3), 58);
        due("transfer at 60", x.transfer(1, 47, 3), -4);
        due("entries()", x.entries(), 60);
        BackdatedBook y = new BackdatedBook();
        fill(y, 59);
        due("transfer at 59", y.transfer(1, 47, 3), -4);
        due("post at 59", y.post(0, 47, 3), 59);
    }

    private static void transferSoundness() {
        part = "promise 3, soundness";
        BackdatedBook x = new BackdatedBook();
        due("post", x.post(0, 10, 50), 0);
        due("too much", x.transfer(2, 10, 51), -5);
        due("too early", x.transfer(2, 9, 1), -5);
        due("entries()", x.entries(), 1);
        due("balance(2, 47)", x.balance(2, 47), 0);
        due("all of it", x.transfer(2, 10, 50), 1);
        due("floor(3, -20)", x.floor(3, -20), 0);
        due("below zero, above the floor", x.transfer(13, 0, 20), 3);
        due("below the floor", x.transfer(13, 0, 1), -5);
        due("open()", x.open(), 0);
        due("below the floor in a batch", x.transfer(13, 0, 1), 5);
        due("sound()", x.sound(), 0);
        due("back in the batch", x.transfer(7, 0, 1), 7);
        due("close()", x.close(), 1);
        due("entries()", x.entries(), 9);
    }

    private static void cancelAnswers() {
        part = "promise 4";
        BackdatedBook x = new BackdatedBook();
        due("cancel(0) of none", x.cancel(0), -1);
        due("post", x.post(0, 10, 50), 0);
        due("post", x.post(0, 20, -30), 1);
        int[] badEntries = {-1, 2, 59, 60, 61, Integer.MIN_VALUE, Integer.MAX_VALUE};
        for (int entry : badEntries) {
            due("cancel(" + entry + ")", x.cancel(entry), -1);
        }
        due("would be unsound", x.cancel(0), -3);
        due("cancelled(0)", x.cancelled(0), 0);
        due("balance(0, 10)", x.balance(0, 10), 50);
        due("cancel(1)", x.cancel(1), -30);
        due("twice", x.cancel(1), -2);
        due("balance(0, 20)", x.balance(0, 20), 50);
        due("cancel(0)", x.cancel(0), 50);
        due("twice", x.cancel(0), -2);
        due("entries()", x.entries(), 2);
        due("post", x.post(1, 0, 9), 2);
        due("transfer", x.transfer(4, 0, 9), 3);
        due("one half of a transfer", x.cancel(4), 9);
        due("the other half still counts", x.balance(1, 0), 0);
    }

    private static void cancelInBatch() {
        part = "promise 4, batch";
        BackdatedBook x = new BackdatedBook();
        due("post", x.post(0, 10, 50), 0);
        due("post", x.post(0, 20, -30), 1);
        due("open()", x.open(), 0);
        due("unsound is taken", x.cancel(0), 50);
        due("twice", x.cancel(0), -2);
        due("bad", x.cancel(2), -1);
        due("sound()", x.sound(), 0);
        due("cancel(1)", x.cancel(1), -30);
        due("close()", x.close(), 1);
        due("cancelled(0)", x.cancelled(0), 1);
        due("cancelled(1)", x.cancelled(1), 1);
    }

    private static void floorAnswers() {
        part = "promise 5";
        BackdatedBook x = new BackdatedBook();
        int[] badAccounts = {-1, 4, Integer.MIN_VALUE, Integer.MAX_VALUE};
        for (int account : badAccounts) {
            due("floor account " + account, x.floor(account, 0), -1);
        }
        int[] badFloors = {-10001, 10001, Integer.MIN_VALUE, Integer.MAX_VALUE};
        for (int floor : badFloors) {
            due("floor " + floor, x.floor(0, floor), -2);
        }
        due("bad account first", x.floor(4, 10001), -1);
        due("lowest floor", x.floor(0, -10000), 0);
        due("back", x.floor(0, -1), -10000);
        due("unsound", x.floor(0, 1), -4);
        due("unchanged", x.floor(0, 0), -1);
        due("day 0 is empty", x.post(1, 1, 500), 0);
        due("unsound on day 0", x.floor(1, 1), -4);
        due("post", x.post(1, 0, 10000), 1);
        due("greatest floor", x.floor(1, 10000), 0);
        due("post below", x.post(1, 1, -501), -5);
        due("cancel below", x.cancel(1), -3);
        due("post to it", x.post(1, 1, -500), 2);
        due("open()", x.open(), 0);
        due("in a batch", x.floor(1, 0), -3);
        due("bad account in a batch", x.floor(-1, 0), -1);
        due("bad floor in a batch", x.floor(1, 10001), -2);
        due("unsound in a batch", x.floor(0, 10000), -3);
        due("close()", x.close(), 1);
        due("unchanged", x.floor(1, 9999), 10000);
        due("other accounts' floors", x.floor(2, 0), 0);
        due("other accounts' floors", x.floor(3, 0), 0);
    }

    private static void openAndClose() {
        part = "promises 6, 7, 8";
        BackdatedBook x = new BackdatedBook();
        due("close()", x.close(), -1);
        due("isOpen()", x.isOpen(), 0);
        due("open()", x.open(), 0);
        due("isOpen()", x.isOpen(), 1);
        due("open()", x.open(), -1);
        due("isOpen()", x.isOpen(), 1);
        due("empty batch", x.close(), 1);
        due("isOpen()", x.isOpen(), 0);
        due("close()", x.close(), -1);
        due("open()", x.open(), 0);
        due("post", x.post(0, 0, -1), 0);
        due("a second open is refused", x.open(), -1);
        due("post", x.post(0, 0, -1), 1);
        due("all since the first open is undone", x.close(), 0);
        due("isOpen()", x.isOpen(), 0);
        due("entries()", x.entries(), 0);
        due("the test is back", x.post(0, 0, -1), -5);
    }

    private static void closeUndoes() {
        part = "promise 7, undone";
        BackdatedBook x = new BackdatedBook();
        due("post", x.post(0, 5, 40), 0);
        due("post", x.post(1, 5, 40), 1);
        due("open()", x.open(), 0);
        due("post", x.post(0, 6, 1), 2);
        due("cancel(2)", x.cancel(2), 1);
        due("cancel(1)", x.cancel(1), 40);
        due("transfer", x.transfer(1, 0, 5), 3);
        due("cancel(4)", x.cancel(4), 5);
        due("close()", x.close(), 0);
        due("entries()", x.entries(), 2);
        due("cancelled(0)", x.cancelled(0), 0);
        due("cancelled(1)", x.cancelled(1), 0);
        due("cancelled(2)", x.cancelled(2), -1);
        due("amountOf(2)", x.amountOf(2), 0);
        due("cancel(2)", x.cancel(2), -1);
        due("balance(0, 47)", x.balance(0, 47), 40);
        due("balance(1, 47)", x.balance(1, 47), 40);
        due("the number is used again", x.post(3, 1, 8), 2);
        due("not cancelled as the one before it", x.cancelled(2), 0);
        due("balance(3, 1)", x.balance(3, 1), 8);
        due("transfer", x.transfer(12, 2, 8), 3);
        due("cancelled(4)", x.cancelled(4), 0);
        due("balance(0, 2)", x.balance(0, 2), 8);
    }

    private static void closeKeepsEarlierCancellations() {
        part = "promise 7, earlier cancellations";
        BackdatedBook x = new BackdatedBook();
        due("post", x.post(0, 5, 40), 0);
        due("post", x.post(0, 5, 41), 1);
        due("post", x.post(0, 5, 42), 2);
        due("cancel(0)", x.cancel(0), 40);
        due("open()", x.open(), 0);
        due("cancel(1)", x.cancel(1), 41);
        due("close()", x.close(), 1);
        due("open()", x.open(), 0);
        due("refused", x.cancel(0), -2);
        due("refused", x.cancel(1), -2);
        due("cancel(2)", x.cancel(2), 42);
        due("post", x.post(0, 5, -1), 3);
        due("close()", x.close(), 0);
        due("cancelled(0)", x.cancelled(0), 1);
        due("cancelled(1)", x.cancelled(1), 1);
        due("cancelled(2)", x.cancelled(2), 0);
        due("balance(0, 5)", x.balance(0, 5), 42);
    }

    private static void batchOfBatches() {
        part = "promise 7, one batch after another";
        BackdatedBook x = new BackdatedBook();
        due("open()", x.open(), 0);
        due("post", x.post(0, 0, 10), 0);
        due("close()", x.close(), 1);
        due("open()", x.open(), 0);
        due("cancel(0)", x.cancel(0), 10);
        due("post", x.post(0, 0, -1), 1);
        due("close()", x.close(), 0);
        due("cancelled(0)", x.cancelled(0), 0);
        due("cancel outside", x.cancel(0), 10);
        due("open()", x.open(), 0);
        due("post", x.post(0, 0, -1), 1);
        due("close()", x.close(), 0);
        due("the cancellation outside stays", x.cancelled(0), 1);
        due("entries()", x.entries(), 1);
    }

    private static void fullListInBatch() {
        part = "promises 2, 3, 7, full in a batch";
        BackdatedBook x = new BackdatedBook();
        due("post", x.post(0, 0, 1), 0);
        due("open()", x.open(), 0);
        for (int i = 1; i < 59; i++) {
            due("post " + i, x.post(0, 0, -1), i);
        }
        due("transfer at 59", x.transfer(1, 0, 1), -4);
        due("post at 59", x.post(0, 0, -1), 59);
        due("post at 60", x.post(0, 0, -1), -4);
        due("transfer at 60", x.transfer(1, 0, 1), -4);
        due("cancel(59)", x.cancel(59), -1);
        due("cancel(60)", x.cancel(60), -1);
        due("cancelled(59)", x.cancelled(59), 1);
        due("balance(0, 0)", x.balance(0, 0), -57);
        due("close()", x.close(), 0);
        due("entries()", x.entries(), 1);
        due("room again", x.post(0, 0, 1), 1);
    }

    private static void cancelledAndAmountOf() {
        part = "promises 9, 10, 11";
        BackdatedBook x = new BackdatedBook();
        due("post", x.post(2, 4, 12), 0);
        due("post", x.post(2, 4, -12), 1);
        due("cancel(1)", x.cancel(1), -12);
        due("entries()", x.entries(), 2);
        due("cancelled(0)", x.cancelled(0), 0);
        due("cancelled(1)", x.cancelled(1), 1);
        due("amountOf(0)", x.amountOf(0), 12);
        due("amountOf(1), cancelled", x.amountOf(1), -12);
        due("refused", x.post(2, 4, -13), -5);
        int[] badEntries = {-1, 2, 59, 60, 61, Integer.MIN_VALUE, Integer.MAX_VALUE};
        for (int entry : badEntries) {
            due("cancelled(" + entry + ")", x.cancelled(entry), -1);
            due("amountOf(" + entry + ")", x.amountOf(entry), 0);
        }
        fill(x, 60);
        due("entries()", x.entries(), 60);
        due("cancelled(59)", x.cancelled(59), 0);
        due("amountOf(59)", x.amountOf(59), 1);
        due("cancelled(60)", x.cancelled(60), -1);
        due("amountOf(60)", x.amountOf(60), 0);
    }

    private static void soundAnswers() {
        part = "promise 12";
        for (int account = 0; account < 4; account++) {
            int[] days = {0, 23, 47};
            for (int day : days) {
                BackdatedBook x = new BackdatedBook();
                due("floor", x.floor(account, -5), 0);
                due("open()", x.open(), 0);
                due("post", x.post(account, day, -5), 0);
                due("at the floor", x.sound(), 1);
                due("post", x.post(account, day, -1), 1);
                due("below the floor", x.sound(), 0);
                due("sound changes nothing", x.entries(), 2);
                due("post", x.post(account, day, 1), 2);
                due("at the floor again", x.sound(), 1);
                due("close()", x.close(), 1);
                due("sound()", x.sound(), 1);
            }
        }
    }

    private static void balanceAnswers() {
        part = "promise 13";
        BackdatedBook x = new BackdatedBook();
        due("post", x.post(1, 20, 7), 0);
        due("post", x.post(1, 0, 3), 1);
        due("post", x.post(1, 47, 5), 2);
        due("post", x.post(1, 20, 11), 3);
        due("balance(1, 0)", x.balance(1, 0), 3);
        due("balance(1, 19)", x.balance(1, 19), 3);
        due("balance(1, 20)", x.balance(1, 20), 21);
        due("balance(1, 46)", x.balance(1, 46), 21);
        due("balance(1, 47)", x.balance(1, 47), 26);
        due("balance(0, 47)", x.balance(0, 47), 0);
        due("balance(2, 47)", x.balance(2, 47), 0);
        int[] bad = {-1, 48, Integer.MIN_VALUE, Integer.MAX_VALUE};
        for (int value : bad) {
            due("balance(" + value + ", 0)", x.balance(value, 0), -1000000);
            due("balance(1, " + value + ")", x.balance(1, value), -1000000);
        }
        due("balance(4, 0)", x.balance(4, 0), -1000000);
    }

    /** Account 0 stands at 10 from day 4, 3 from day 9, 8 from day 12 and -2 on day 47. */
    private static BackdatedBook steps() {
        BackdatedBook x = new BackdatedBook();
        due("floor", x.floor(0, -4), 0);
        due("post", x.post(0, 12, 5), 0);
        due("post", x.post(0, 4, 10), 1);
        due("post", x.post(0, 47, -10), 2);
        due("post", x.post(0, 9, -7), 3);
        return x;
    }

    private static void lowestAnswers() {
        part = "promise 14";
        BackdatedBook x = steps();
        due("lowest(0, 0, 47)", x.lowest(0, 0, 47), -2);
        due("lowest(0, 0, 46)", x.lowest(0, 0, 46), 0);
        due("lowest(0, 4, 46)", x.lowest(0, 4, 46), 3);
        due("lowest(0, 4, 8)", x.lowest(0, 4, 8), 10);
        due("lowest(0, 3, 8)", x.lowest(0, 3, 8), 0);
        due("lowest(0, 4, 9)", x.lowest(0, 4, 9), 3);
        due("lowest(0, 11, 20)", x.lowest(0, 11, 20), 3);
        due("lowest(0, 12, 20)", x.lowest(0, 12, 20), 8);
        due("lowest(0, 8, 8)", x.lowest(0, 8, 8), 10);
        due("lowest(0, 0, 0)", x.lowest(0, 0, 0), 0);
        due("lowest(0, 47, 47)", x.lowest(0, 47, 47), -2);
        due("lowest(-1, 0, 0)", x.lowest(-1, 0, 0), -1000000);
        due("lowest(4, 1, 0)", x.lowest(4, 1, 0), -1000000);
        due("lowest(0, 1, 0)", x.lowest(0, 1, 0), -2000000);
        due("lowest(0, -1, 0)", x.lowest(0, -1, 0), -2000000);
        due("lowest(0, 0, 48)", x.lowest(0, 0, 48), -2000000);
        due("lowest(0, 48, 48)", x.lowest(0, 48, 48), -2000000);
        due("lowest(0, MIN, MAX)", x.lowest(0, Integer.MIN_VALUE, Integer.MAX_VALUE), -2000000);
        due("lowest(0, MAX, MIN)", x.lowest(0, Integer.MAX_VALUE, Integer.MIN_VALUE), -2000000);
    }

    private static void totalAnswers() {
        part = "promise 15";
        BackdatedBook x = steps();
        due("total(0, 0, 47)", x.total(0, 0, 47), 50 + 9 + 35 * 8 - 2);
        due("total(0, 0, 3)", x.total(0, 0, 3), 0);
        due("total(0, 3, 4)", x.total(0, 3, 4), 10);
        due("total(0, 8, 9)", x.total(0, 8, 9), 13);
        due("total(0, 8, 8)", x.total(0, 8, 8), 10);
        due("total(0, 47, 47)", x.total(0, 47, 47), -2);
        due("total(1, 0, 47)", x.total(1, 0, 47), 0);
        due("total(-1, 0, 0)", x.total(-1, 0, 0), -2000000000);
        due("total(4, 0, 0)", x.total(4, 0, 0), -2000000000);
        due("total(0, 1, 0)", x.total(0, 1, 0), -2000000000);
        due("total(0, -1, 0)", x.total(0, -1, 0), -2000000000);
        due("total(0, 0, 48)", x.total(0, 0, 48), -2000000000);
        due("total(0, MIN, MAX)", x.total(0, Integer.MIN_VALUE, Integer.MAX_VALUE), -2000000000);
    }

    private static void firstBelowAnswers() {
        part = "promise 16";
        BackdatedBook x = steps();
        due("firstBelow(0, 0, 0)", x.firstBelow(0, 0, 0), 47);
        due("firstBelow(0, 0, 1)", x.firstBelow(0, 0, 1), 0);
        due("firstBelow(0, 4, 3)", x.firstBelow(0, 4, 3), 47);
        due("firstBelow(0, 4, 4)", x.firstBelow(0, 4, 4), 9);
        due("firstBelow(0, 10, 4)", x.firstBelow(0, 10, 4), 10);
        due("firstBelow(0, 12, 4)", x.firstBelow(0, 12, 4), 47);
        due("firstBelow(0, 0, -2)", x.firstBelow(0, 0, -2), -3);
        due("firstBelow(0, 47, -1)", x.firstBelow(0, 47, -1), 47);
        due("firstBelow(0, 5, MAX)", x.firstBelow(0, 5, Integer.MAX_VALUE), 5);
        due("firstBelow(0, 5, MIN)", x.firstBelow(0, 5, Integer.MIN_VALUE), -3);
        due("firstBelow(4, 48, 0)", x.firstBelow(4, 48, 0), -1);
        due("firstBelow(-1, 0, 0)", x.firstBelow(-1, 0, 0), -1);
        due("firstBelow(0, 48, 0)", x.firstBelow(0, 48, 0), -2);
        due("firstBelow(0, -1, 0)", x.firstBelow(0, -1, 0), -2);
    }

    private static void freeAnswers() {
        part = "promise 17";
        BackdatedBook x = steps();
        due("free(0, 0)", x.free(0, 0), 2);
        due("cancel(2)", x.cancel(2), -10);
        due("free(0, 0)", x.free(0, 0), 4);
        due("free(0, 3)", x.free(0, 3), 4);
        due("free(0, 4)", x.free(0, 4), 7);
        due("free(0, 11)", x.free(0, 11), 7);
        due("free(0, 12)", x.free(0, 12), 12);
        due("free(0, 47)", x.free(0, 47), 12);
        due("free(1, 0)", x.free(1, 0), 0);
        due("open()", x.open(), 0);
        due("post", x.post(0, 20, -12), 4);
        due("free at the floor", x.free(0, 0), 0);
        due("post", x.post(0, 20, -1), 5);
        due("free below the floor", x.free(0, 20), 0);
        due("post", x.post(0, 30, 3), 6);
        due("free after it", x.free(0, 30), 2);
        due("free before it", x.free(0, 29), 0);
        due("free(4, 48)", x.free(4, 48), -1);
        due("free(-1, 0)", x.free(-1, 0), -1);
        due("free(0, 48)", x.free(0, 48), -2);
        due("free(0, -1)", x.free(0, -1), -2);
    }

    private static void firstFreeAnswers() {
        part = "promise 18";
        BackdatedBook x = steps();
        due("firstFree(0, 2)", x.firstFree(0, 2), 0);
        due("firstFree(0, 3)", x.firstFree(0, 3), -3);
        due("cancel(2)", x.cancel(2), -10);
        due("firstFree(0, 4)", x.firstFree(0, 4), 0);
        due("firstFree(0, 5)", x.firstFree(0, 5), 4);
        due("firstFree(0, 7)", x.firstFree(0, 7), 4);
        due("firstFree(0, 8)", x.firstFree(0, 8), 12);
        due("firstFree(0, 12)", x.firstFree(0, 12), 12);
        due("firstFree(0, 13)", x.firstFree(0, 13), -3);
        due("post", x.post(0, 47, 1), 4);
        due("firstFree(0, 13)", x.firstFree(0, 13), 47);
        due("firstFree(0, 1000000)", x.firstFree(0, 1000000), -3);
        due("firstFree(0, 1000001)", x.firstFree(0, 1000001), -2);
        due("firstFree(0, 0)", x.firstFree(0, 0), -2);
        due("firstFree(0, MIN)", x.firstFree(0, Integer.MIN_VALUE), -2);
        due("firstFree(0, MAX)", x.firstFree(0, Integer.MAX_VALUE), -2);
        due("firstFree(4, 0)", x.firstFree(4, 0), -1);
        due("firstFree(-1, 1)", x.firstFree(-1, 1), -1);
        due("open()", x.open(), 0);
        due("post", x.post(0, 47, -100), 5);
        due("unsound to the end", x.firstFree(0, 1), -3);
    }

    private static void daysBelowAnswers() {
        part = "promise 19";
        BackdatedBook x = steps();
        due("daysBelow(0, -2)", x.daysBelow(0, -2), 0);
        due("daysBelow(0, -1)", x.daysBelow(0, -1), 1);
        due("daysBelow(0, 0)", x.daysBelow(0, 0), 1);
        due("daysBelow(0, 1)", x.daysBelow(0, 1), 5);
        due("daysBelow(0, 3)", x.daysBelow(0, 3), 5);
        due("daysBelow(0, 4)", x.daysBelow(0, 4), 8);
        due("daysBelow(0, 9)", x.daysBelow(0, 9), 43);
        due("daysBelow(0, 11)", x.daysBelow(0, 11), 48);
        due("daysBelow(0, MAX)", x.daysBelow(0, Integer.MAX_VALUE), 48);
        due("daysBelow(0, MIN)", x.daysBelow(0, Integer.MIN_VALUE), 0);
        due("daysBelow(4, 0)", x.daysBelow(4, 0), -1);
        due("daysBelow(-1, 0)", x.daysBelow(-1, 0), -1);
    }

    private static void greatestSums() {
        part = "greatest sums";
        BackdatedBook x = new BackdatedBook();
        due("floor", x.floor(0, -10000), 0);
        due("floor", x.floor(1, 0), 0);
        for (int i = 0; i < 60; i++) {
            due("post " + i, x.post(0, 0, 10000), i);
        }
        due("balance(0, 47)", x.balance(0, 47), 600000);
        due("total(0, 0, 47)", x.total(0, 0, 47), 28800000);
        due("free(0, 0)", x.free(0, 0), 610000);
        due("firstFree(0, 610000)", x.firstFree(0, 610000), 0);
        due("firstFree(0, 610001)", x.firstFree(0, 610001), -3);
        BackdatedBook y = new BackdatedBook();
        due("open()", y.open(), 0);
        for (int i = 0; i < 60; i++) {
            due("post " + i, y.post(3, 0, -10000), i);
        }
        due("total(3, 0, 47)", y.total(3, 0, 47), -28800000);
        due("lowest(3, 0, 47)", y.lowest(3, 0, 47), -600000);
        due("firstBelow(3, 0, MIN)", y.firstBelow(3, 0, Integer.MIN_VALUE), -3);
        due("close()", y.close(), 0);
        due("entries()", y.entries(), 0);
    }

    private static void objectsAreApart() {
        part = "two objects";
        BackdatedBook x = new BackdatedBook();
        BackdatedBook y = new BackdatedBook();
        due("open()", x.open(), 0);
        due("post", x.post(0, 0, 5), 0);
        due("y.isOpen()", y.isOpen(), 0);
        due("y.entries()", y.entries(), 0);
        due("y.balance(0, 0)", y.balance(0, 0), 0);
    }

    /** Puts entries of 1 on account 0, day 0 in until there are so many. */
    private static void fill(BackdatedBook x, int upTo) {
        for (int i = x.entries(); i < upTo; i++) {
            due("fill " + i, x.post(0, 0, 1), i);
        }
    }
}

/** Accounts with entries on any day, where no day's balance may ever fall below its account's floor. */
public final class BackdatedBook {
    private static final int ACCOUNTS = 4;
    private static final int DAYS = 48;
    private static final int MAX_ENTRIES = 60;
    private static final int MAX_AMOUNT = 10000;
    private static final int MAX_FREE_ASKED = 1000000;
    private static final int NO_BALANCE = -1000000;
    private static final int NO_SPAN = -2000000;
    private static final int NO_TOTAL = -2000000000;

    private final int[] entryAccount = new int[MAX_ENTRIES];
    private final int[] entryDay = new int[MAX_ENTRIES];
    private final int[] entryAmount = new int[MAX_ENTRIES];
    private final boolean[] entryCancelled = new boolean[MAX_ENTRIES];
    // Closing a batch must not revive what was cancelled before it, so its own cancellations are marked.
    private final boolean[] cancelledInBatch = new boolean[MAX_ENTRIES];
    private final int[] floors = new int[ACCOUNTS];
    private int entryCount;
    private boolean batchOpen;
    private int entryCountAtOpen;

    public BackdatedBook() {
        entryCount = 0;
        batchOpen = false;
        entryCountAtOpen = 0;
    }

    public int post(int account, int day, int amount) {
        if (!goodAccount(account)) {
            return -1;
        }
        if (!goodDay(day)) {
            return -2;
        }
        if (amount == 0 || amount < -MAX_AMOUNT || amount > MAX_AMOUNT) {
            return -3;
        }
        if (entryCount >= MAX_ENTRIES) {
            return -4;
        }
        int number = entryCount;
        append(account, day, amount);
        if (mustRefuse()) {
            entryCount = number;
            return -5;
        }
        return number;
    }

    public int transfer(int route, int day, int amount) {
        if (route < 0 || route >= ACCOUNTS * ACCOUNTS) {
            return -1;
        }
        int from = route / ACCOUNTS;
        int to = route % ACCOUNTS;
        if (from == to) {
            return -1;
        }
        if (!goodDay(day)) {
            return -2;
        }
        if (amount < 1 || amount > MAX_AMOUNT) {
            return -3;
        }
        if (entryCount > MAX_ENTRIES - 2) {
            return -4;
        }
        int number = entryCount;
        append(from, day, -amount);
        append(to, day, amount);
        if (mustRefuse()) {
            entryCount = number;
            return -5;
        }
        return number;
    }

    public int cancel(int entry) {
        if (!goodEntry(entry)) {
            return -1;
        }
        if (entryCancelled[entry]) {
            return -2;
        }
        entryCancelled[entry] = true;
        if (mustRefuse()) {
            entryCancelled[entry] = false;
            return -3;
        }
        cancelledInBatch[entry] = batchOpen;
        return entryAmount[entry];
    }

    public int floor(int account, int floor) {
        if (!goodAccount(account)) {
            return -1;
        }
        if (floor < -MAX_AMOUNT || floor > MAX_AMOUNT) {
            return -2;
        }
        if (batchOpen) {
            return -3;
        }
        int before = floors[account];
        floors[account] = floor;
        if (mustRefuse()) {
            floors[account] = before;
            return -4;
        }
        return before;
    }

    public int open() {
        if (batchOpen) {
            return -1;
        }
        batchOpen = true;
        entryCountAtOpen = entryCount;
        for (int entry = 0; entry < MAX_ENTRIES; entry++) {
            cancelledInBatch[entry] = false;
        }
        return 0;
    }

    public int close() {
        if (!batchOpen) {
            return -1;
        }
        batchOpen = false;
        if (bookIsSound()) {
            return 1;
        }
        undoBatch();
        return 0;
    }

    public int isOpen() {
        return batchOpen ? 1 : 0;
    }

    public int entries() {
        return entryCount;
    }

    public int cancelled(int entry) {
        if (!goodEntry(entry)) {
            return -1;
        }
        return entryCancelled[entry] ? 1 : 0;
    }

    public int amountOf(int entry) {
        return goodEntry(entry) ? entryAmount[entry] : 0;
    }

    public int sound() {
        return bookIsSound() ? 1 : 0;
    }

    public int balance(int account, int day) {
        if (!goodAccount(account) || !goodDay(day)) {
            return NO_BALANCE;
        }
        return balanceOn(account, day);
    }

    public int lowest(int account, int first, int last) {
        if (!goodAccount(account)) {
            return NO_BALANCE;
        }
        if (!goodSpan(first, last)) {
            return NO_SPAN;
        }
        return leastBalance(account, first, last);
    }

    public int total(int account, int first, int last) {
        if (!goodAccount(account) || !goodSpan(first, last)) {
            return NO_TOTAL;
        }
        int sum = 0;
        for (int day = first; day <= last; day++) {
            sum += balanceOn(account, day);
        }
        return sum;
    }

    public int firstBelow(int account, int day, int bound) {
        if (!goodAccount(account)) {
            return -1;
        }
        if (!goodDay(day)) {
            return -2;
        }
        for (int later = day; later < DAYS; later++) {
            if (balanceOn(account, later) < bound) {
                return later;
            }
        }
        return -3;
    }

    public int free(int account, int day) {
        if (!goodAccount(account)) {
            return -1;
        }
        if (!goodDay(day)) {
            return -2;
        }
        return freeFrom(account, day);
    }

    public int firstFree(int account, int x) {
        if (!goodAccount(account)) {
            return -1;
        }
        if (x < 1 || x > MAX_FREE_ASKED) {
            return -2;
        }
        for (int day = 0; day < DAYS; day++) {
            if (freeFrom(account, day) >= x) {
                return day;
            }
        }
        return -3;
    }

    public int daysBelow(int account, int bound) {
        if (!goodAccount(account)) {
            return -1;
        }
        int days = 0;
        for (int day = 0; day < DAYS; day++) {
            if (balanceOn(account, day) < bound) {
                days++;
            }
        }
        return days;
    }

    private boolean goodAccount(int account) {
        return account >= 0 && account < ACCOUNTS;
    }

    private boolean goodDay(int day) {
        return day >= 0 && day < DAYS;
    }

    private boolean goodSpan(int first, int last) {
        return first >= 0 && first <= last && last < DAYS;
    }

    private boolean goodEntry(int entry) {
        return entry >= 0 && entry < entryCount;
    }

    private void append(int account, int day, int amount) {
        entryAccount[entryCount] = account;
        entryDay[entryCount] = day;
        entryAmount[entryCount] = amount;
        // The place may have held a cancelled entry that an undone batch took out.
        entryCancelled[entryCount] = false;
        entryCount++;
    }

    private boolean mustRefuse() {
        return !batchOpen && !bookIsSound();
    }

    private void undoBatch() {
        entryCount = entryCountAtOpen;
        for (int entry = 0; entry < entryCount; entry++) {
            if (cancelledInBatch[entry]) {
                entryCancelled[entry] = false;
            }
        }
    }

    private boolean bookIsSound() {
        for (int account = 0; account < ACCOUNTS; account++) {
            if (leastBalance(account, 0, DAYS - 1) < floors[account]) {
                return false;
            }
        }
        return true;
    }

    private int balanceOn(int account, int day) {
        int sum = 0;
        for (int entry = 0; entry < entryCount; entry++) {
            if (entryAccount[entry] == account && entryDay[entry] <= day && !entryCancelled[entry]) {
                sum += entryAmount[entry];
            }
        }
        return sum;
    }

    private int leastBalance(int account, int first, int last) {
        int least = balanceOn(account, first);
        for (int day = first + 1; day <= last; day++) {
            int here = balanceOn(account, day);
            if (here < least) {
                least = here;
            }
        }
        return least;
    }

    private int freeFrom(int account, int day) {
        int spare = leastBalance(account, day, DAYS - 1) - floors[account];
        return spare < 0 ? 0 : spare;
    }
}

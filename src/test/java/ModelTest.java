import java.util.ArrayList;
import java.util.List;
import java.util.Random;

/** Long runs of calls, the same each time, against a second book that keeps whole copies instead of undoing. */
public final class ModelTest {
    private static final int RUNS = 3000;
    private static final int CALLS = 512;
    private static final int REPORTED = 20;
    private static final int[] ODD = {
        Integer.MIN_VALUE, -1000001, -10001, -10000, -1, 0, 1, 3, 4, 15, 16, 47, 48, 59, 60, 10000, 10001,
        1000000, 1000001, Integer.MAX_VALUE,
    };
    private static int wrong = 0;

    private static final class Entry {
        final int account;
        final int day;
        final int amount;
        final boolean cancelled;

        Entry(int account, int day, int amount, boolean cancelled) {
            this.account = account;
            this.day = day;
            this.amount = amount;
            this.cancelled = cancelled;
        }
    }

    /** The document's words over lists that are never changed, only replaced. */
    private static final class Model {
        List<Entry> list = List.of();
        List<Entry> saved = null;
        final int[] floors = new int[4];

        static boolean in(int low, int x, int high) {
            return low <= x && x <= high;
        }

        static int[] balances(List<Entry> list, int account) {
            int[] sums = new int[48];
            for (Entry e : list) {
                for (int day = e.day; e.account == account && !e.cancelled && day < 48; day++) {
                    sums[day] += e.amount;
                }
            }
            return sums;
        }

        static boolean isSound(List<Entry> list, int[] floors) {
            for (int account = 0; account < 4; account++) {
                for (int b : balances(list, account)) {
                    if (b < floors[account]) {
                        return false;
                    }
                }
            }
            return true;
        }

        boolean take(List<Entry> next) {
            if (saved == null && !isSound(next, floors)) {
                return false;
            }
            list = next;
            return true;
        }

        int post(int account, int day, int amount) {
            if (!in(0, account, 3)) return -1;
            if (!in(0, day, 47)) return -2;
            if (amount == 0 || !in(-10000, amount, 10000)) return -3;
            if (list.size() == 60) return -4;
            List<Entry> next = new ArrayList<>(list);
            next.add(new Entry(account, day, amount, false));
            return take(next) ? next.size() - 1 : -5;
        }

        int transfer(int route, int day, int amount) {
            if (!in(0, route, 15) || route % 5 == 0) return -1;
            if (!in(0, day, 47)) return -2;
            if (!in(1, amount, 10000)) return -3;
            if (list.size() > 58) return -4;
            List<Entry> next = new ArrayList<>(list);
            next.add(new Entry(route >> 2, day, -amount, false));
            next.add(new Entry(route & 3, day, amount, false));
            return take(next) ? next.size() - 2 : -5;
        }

        int cancel(int entry) {
            if (!in(0, entry, list.size() - 1)) return -1;
            Entry e = list.get(entry);
            if (e.cancelled) return -2;
            List<Entry> next = new ArrayList<>(list);
            next.set(entry, new Entry(e.account, e.day, e.amount, true));
            return take(next) ? e.amount : -3;
        }

        int floor(int account, int floor) {
            if (!in(0, account, 3)) return -1;
            if (!in(-10000, floor, 10000)) return -2;
            if (saved != null) return -3;
            int[] next = floors.clone();
            next[account] = floor;
            if (!isSound(list, next)) return -4;
            int before = floors[account];
            floors[account] = floor;
            return before;
        }

        int open() {
            if (saved != null) return -1;
            saved = list;
            return 0;
        }

        int close() {
            if (saved == null) return -1;
            boolean kept = isSound(list, floors);
            list = kept ? list : saved;
            saved = null;
            return kept ? 1 : 0;
        }

        int cancelled(int entry) {
            return !in(0, entry, list.size() - 1) ? -1 : list.get(entry).cancelled ? 1 : 0;
        }

        int amountOf(int entry) {
            return !in(0, entry, list.size() - 1) ? 0 : list.get(entry).amount;
        }

        int balance(int account, int day) {
            return !in(0, account, 3) || !in(0, day, 47) ? -1000000 : balances(list, account)[day];
        }

        int lowest(int account, int first, int last) {
            if (!in(0, account, 3)) return -1000000;
            if (!(0 <= first && first <= last && last <= 47)) return -2000000;
            int least = Integer.MAX_VALUE;
            for (int day = first; day <= last; day++) least = Math.min(least, balances(list, account)[day]);
            return least;
        }

        int total(int account, int first, int last) {
            if (!in(0, account, 3) || !(0 <= first && first <= last && last <= 47)) return -2000000000;
            int sum = 0;
            for (int day = last; day >= first; day--) sum += balances(list, account)[day];
            return sum;
        }

        int firstBelow(int account, int day, int bound) {
            if (!in(0, account, 3)) return -1;
            if (!in(0, day, 47)) return -2;
            int found = -3;
            for (int d = 47; d >= day; d--) found = balances(list, account)[d] < bound ? d : found;
            return found;
        }

        int free(int account, int day) {
            if (!in(0, account, 3)) return -1;
            if (!in(0, day, 47)) return -2;
            return Math.max(0, lowest(account, day, 47) - floors[account]);
        }

        /** The last day with too little decides, as what is free never falls from one day to the next. */
        int firstFree(int account, int x) {
            if (!in(0, account, 3)) return -1;
            if (!in(1, x, 1000000)) return -2;
            int day = 48;
            while (day > 0 && balances(list, account)[day - 1] - floors[account] >= x) day--;
            return day == 48 ? -3 : day;
        }

        int daysBelow(int account, int bound) {
            if (!in(0, account, 3)) return -1;
            int days = 0;
            for (int b : balances(list, account)) days += b < bound ? 1 : 0;
            return days;
        }
    }

    private static void due(int run, String call, int got, int want) {
        if (got != want) {
            wrong++;
            if (wrong <= REPORTED) {
                System.out.println("run " + run + ": " + call + " answered " + got + ", due is " + want);
            }
        }
    }

    /** Mostly a value in the range, at times one at or beyond its edges. */
    private static int pick(Random r, int low, int high) {
        int kind = r.nextInt(40);
        if (kind == 0) return ODD[r.nextInt(ODD.length)];
        if (kind == 1) return low - 1;
        if (kind == 2) return high + 1;
        if (kind == 3) return low;
        if (kind == 4) return high;
        return low + r.nextInt(high - low + 1);
    }

    private static void change(Random r, int run, BackdatedBook x, Model m, int spread) {
        int account = pick(r, 0, 3);
        int day = pick(r, 0, 47);
        int amount = pick(r, -spread / 2, spread);
        int entry = pick(r, 0, Math.max(0, m.list.size() - 1));
        switch (r.nextInt(12)) {
            case 0: case 1: case 2:
                due(run, "post(" + account + ", " + day + ", " + amount + ")",
                    x.post(account, day, amount), m.post(account, day, amount));
                break;
            case 3: case 4: case 5: {
                int route = pick(r, 0, 15);
                due(run, "transfer(" + route + ", " + day + ", " + amount + ")",
                    x.transfer(route, day, amount), m.transfer(route, day, amount));
                break;
            }
            case 6: case 7:
                due(run, "cancel(" + entry + ")", x.cancel(entry), m.cancel(entry));
                break;
            case 8: case 9: {
                int floor = pick(r, -spread, spread / 2);
                due(run, "floor(" + account + ", " + floor + ")", x.floor(account, floor), m.floor(account, floor));
                break;
            }
            case 10:
                due(run, "open()", x.open(), m.open());
                break;
            default:
                due(run, "close()", x.close(), m.close());
        }
    }

    private static void ask(Random r, int run, BackdatedBook x, Model m, int spread) {
        int account = pick(r, 0, 3);
        int first = pick(r, 0, 47);
        int last = pick(r, Math.min(47, Math.max(0, first)), 47);
        int bound = pick(r, -spread, spread);
        int entry = pick(r, 0, Math.max(0, m.list.size() - 1));
        String about = "(" + account + ", " + first + ", " + last + "), bound " + bound + ", entry " + entry;
        switch (r.nextInt(12)) {
            case 0: due(run, "isOpen()", x.isOpen(), m.saved == null ? 0 : 1); break;
            case 1: due(run, "entries()", x.entries(), m.list.size()); break;
            case 2: due(run, "cancelled" + about, x.cancelled(entry), m.cancelled(entry)); break;
            case 3: due(run, "amountOf" + about, x.amountOf(entry), m.amountOf(entry)); break;
            case 4: due(run, "sound()", x.sound(), Model.isSound(m.list, m.floors) ? 1 : 0); break;
            case 5: due(run, "balance" + about, x.balance(account, first), m.balance(account, first)); break;
            case 6: due(run, "lowest" + about, x.lowest(account, first, last), m.lowest(account, first, last)); break;
            case 7: due(run, "total" + about, x.total(account, first, last), m.total(account, first, last)); break;
            case 8:
                due(run, "firstBelow" + about, x.firstBelow(account, first, bound), m.firstBelow(account, first, bound));
                break;
            case 9: due(run, "free" + about, x.free(account, first), m.free(account, first)); break;
            case 10: due(run, "firstFree" + about, x.firstFree(account, bound), m.firstFree(account, bound)); break;
            default: due(run, "daysBelow" + about, x.daysBelow(account, bound), m.daysBelow(account, bound));
        }
    }

    public static void main(String[] args) {
        int[] spreads = {4, 60, 10000};
        for (int run = 0; run < RUNS; run++) {
            Random r = new Random(run);
            int spread = spreads[run % spreads.length];
            BackdatedBook x = new BackdatedBook();
            Model m = new Model();
            int changesInTen = 2 + run % 5;
            for (int call = 0; call < CALLS; call++) {
                if (r.nextInt(10) < changesInTen) {
                    change(r, run, x, m, spread);
                } else {
                    ask(r, run, x, m, spread);
                }
            }
        }
        System.out.println(wrong == 0 ? "all answers are as due" : wrong + " answers are not as due");
        if (wrong != 0) {
            System.exit(1);
        }
    }
}

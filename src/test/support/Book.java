import java.util.ArrayList;
import java.util.List;

/** A book under test, which remembers its answers, and is a fault of the test if it is used for too many calls. */
final class Book {
    static final int MIN = Integer.MIN_VALUE;
    static final int MAX = Integer.MAX_VALUE;
    static final int MOST_CALLS = 512;

    private final BackdatedBook book = new BackdatedBook();
    private final List<Answer> answers = new ArrayList<>();

    /** A book with so many entries, each of 1 on account 0 and day 0. */
    static Book withEntries(int count) {
        Book x = new Book();
        x.fill(0, count);
        return x;
    }

    /** Puts entries of 1 on account 0 and day 0 in, of which the first gets the number from. */
    void fill(int from, int upTo) {
        for (int number = from; number < upTo; number++) {
            post(0, 0, 1).is(number);
        }
    }

    int calls() {
        return answers.size();
    }

    List<Answer> answersFrom(int call) {
        return List.copyOf(answers.subList(call, answers.size()));
    }

    static int[] badAccounts() {
        return new int[] {-1, 4, MIN, MAX};
    }

    static int[] badDays() {
        return new int[] {-1, 48, MIN, MAX};
    }

    /** Entries that are not good in a book of so many. */
    static int[] badEntries(int count) {
        return new int[] {-1, count, count + 1, 60, 61, MIN, MAX};
    }

    /** Pairs of first and last that do not keep 0 <= first <= last <= 47. */
    static int[][] badSpans() {
        return new int[][] {
            {-1, 0}, {-1, 47}, {-1, -1}, {0, 48}, {47, 48}, {48, 48}, {1, 0}, {47, 46}, {47, 0}, {0, -1}, {48, 47},
            {MIN, 0}, {0, MAX}, {0, MIN}, {MAX, 47}, {MIN, MIN}, {MAX, MAX}, {MIN, MAX}, {MAX, MIN},
        };
    }

    Answer post(int account, int day, int amount) {
        return answered("post", book.post(account, day, amount), account, day, amount);
    }

    Answer transfer(int route, int day, int amount) {
        return answered("transfer", book.transfer(route, day, amount), route, day, amount);
    }

    Answer cancel(int entry) {
        return answered("cancel", book.cancel(entry), entry);
    }

    Answer floor(int account, int floor) {
        return answered("floor", book.floor(account, floor), account, floor);
    }

    Answer open() {
        return answered("open", book.open());
    }

    Answer close() {
        return answered("close", book.close());
    }

    Answer isOpen() {
        return answered("isOpen", book.isOpen());
    }

    Answer entries() {
        return answered("entries", book.entries());
    }

    Answer cancelled(int entry) {
        return answered("cancelled", book.cancelled(entry), entry);
    }

    Answer amountOf(int entry) {
        return answered("amountOf", book.amountOf(entry), entry);
    }

    Answer sound() {
        return answered("sound", book.sound());
    }

    Answer balance(int account, int day) {
        return answered("balance", book.balance(account, day), account, day);
    }

    Answer lowest(int account, int first, int last) {
        return answered("lowest", book.lowest(account, first, last), account, first, last);
    }

    Answer total(int account, int first, int last) {
        return answered("total", book.total(account, first, last), account, first, last);
    }

    Answer firstBelow(int account, int day, int bound) {
        return answered("firstBelow", book.firstBelow(account, day, bound), account, day, bound);
    }

    Answer free(int account, int day) {
        return answered("free", book.free(account, day), account, day);
    }

    Answer firstFree(int account, int x) {
        return answered("firstFree", book.firstFree(account, x), account, x);
    }

    Answer daysBelow(int account, int bound) {
        return answered("daysBelow", book.daysBelow(account, bound), account, bound);
    }

    private Answer answered(String method, int value, int... arguments) {
        StringBuilder call = new StringBuilder(method).append('(');
        for (int i = 0; i < arguments.length; i++) {
            call.append(i == 0 ? "" : ", ").append(arguments[i]);
        }
        Answer answer = new Answer(call.append(')').toString(), value);
        answers.add(answer);
        if (answers.size() > MOST_CALLS) {
            Sentences.wrong("the test uses its book for more than " + MOST_CALLS + " calls");
        }
        return answer;
    }
}

import java.util.Random;

/** Rules 7 and 11 of LANGUAGE.md: any call in any state ends with an answer, and always with the same one. */
public final class AnyCallTest {
    private static final int CALLS = 25000;
    private static final int[] EDGES = {
        Integer.MIN_VALUE, Integer.MIN_VALUE + 1, -2000000000, -1000001, -10001, -10000, -60, -48, -16, -5, -4, -1, 0, 1,
        2, 3, 4, 5, 14, 15, 16, 46, 47, 48, 58, 59, 60, 61, 9999, 10000, 10001, 1000000, 1000001, 2000000000,
        Integer.MAX_VALUE - 1, Integer.MAX_VALUE,
    };

    public static void main(String[] args) {
        Sentences.test("Rule 7: No call may ever throw, also after the 512th", AnyCallTest::noneThrows);
        Sentences.test("Rule 11: the same calls always give the same answers", AnyCallTest::sameAnswers);
        Sentences.end();
    }

    private static void noneThrows() {
        for (int seed = 0; seed < 4; seed++) {
            BackdatedBook x = new BackdatedBook();
            Random random = new Random(seed);
            for (int call = 0; call < CALLS; call++) {
                call(x, random);
            }
            lookAtState(x);
        }
    }

    /** Beside a third book with other calls, so that nothing that the books might share could hide. */
    private static void sameAnswers() {
        BackdatedBook x = new BackdatedBook();
        BackdatedBook y = new BackdatedBook();
        BackdatedBook other = new BackdatedBook();
        Random forX = new Random(1);
        Random forY = new Random(1);
        Random forOther = new Random(2);
        for (int call = 0; call < CALLS; call++) {
            int first = call(x, forX);
            call(other, forOther);
            int second = call(y, forY);
            if (first != second) {
                Sentences.wrong("call " + call + " answered " + first + " and then " + second);
            }
        }
    }

    /** However long it was used, the book's own count stays one that its list can hold. */
    private static void lookAtState(BackdatedBook x) {
        if (x.entries() < 0 || x.entries() > 60) {
            Sentences.wrong("there are " + x.entries() + " entries");
        }
    }

    /** Mostly an edge, at times a small number, as edges alone would seldom change anything. */
    private static int pick(Random random) {
        return random.nextInt(3) == 0 ? random.nextInt(60) : EDGES[random.nextInt(EDGES.length)];
    }

    private static int call(BackdatedBook x, Random random) {
        int a = pick(random);
        int b = pick(random);
        int c = pick(random);
        switch (random.nextInt(18)) {
            case 0: return x.post(a, b, c);
            case 1: return x.transfer(a, b, c);
            case 2: return x.cancel(a);
            case 3: return x.floor(a, b);
            case 4: return x.open();
            case 5: return x.close();
            case 6: return x.isOpen();
            case 7: return x.entries();
            case 8: return x.cancelled(a);
            case 9: return x.amountOf(a);
            case 10: return x.sound();
            case 11: return x.balance(a, b);
            case 12: return x.lowest(a, b, c);
            case 13: return x.total(a, b, c);
            case 14: return x.firstBelow(a, b, c);
            case 15: return x.free(a, b);
            case 16: return x.firstFree(a, b);
            default: return x.daysBelow(a, b);
        }
    }
}

import java.util.Random;

/** However an object is called, and however often, it throws what the document names and nothing else. */
public final class LongRunTest {
    private static final int CALLS = 100000;
    private static final int[] NUMBERS = {
        Integer.MIN_VALUE, -2, -1, 0, 0, 0, 1, 1, 2, 3, 4, 5, 6, 7, 52, 53, 59, 60, 61, 3180, Integer.MAX_VALUE,
    };
    private static final String SIGNS = "abc_.*[]// \u007f\u00e9\u1234";

    private final Random random;
    private final GlobRows rows = new GlobRows();
    private int answered;
    private int refused;

    private LongRunTest(int seed) {
        random = new Random(seed);
    }

    public static void main(String[] args) {
        Checks checks = new Checks();
        for (int seed = 0; seed < 10; seed++) {
            LongRunTest test = new LongRunTest(seed);
            for (int n = 0; n < CALLS; n++) {
                test.callGuarded();
            }
            checks.due("some are answered", test.answered > 0, true);
            checks.due("some are refused", test.refused > 0, true);
        }
        checks.end("LongRunTest");
    }

    private void callGuarded() {
        try {
            call();
            answered++;
        } catch (IllegalArgumentException | IllegalStateException e) {
            refused++;
            if (e.getClass() != IllegalArgumentException.class && e.getClass() != IllegalStateException.class) {
                throw e;
            }
        }
    }

    private int number() {
        return NUMBERS[random.nextInt(NUMBERS.length)];
    }

    private void call() {
        switch (random.nextInt(24)) {
            case 0, 1 -> rows.file();
            case 2 -> rows.folder();
            case 3 -> rows.remove();
            case 4 -> rows.pack(random.nextBoolean());
            case 5 -> rows.query();
            case 6 -> rows.pattern(number(), random.nextBoolean());
            case 7 -> rows.place();
            case 8 -> rows.ask(number());
            case 9 -> rows.looked();
            case 10 -> rows.answer(number(), number());
            default -> rows.type(SIGNS.charAt(random.nextInt(random.nextBoolean() ? 3 : SIGNS.length())));
        }
    }
}

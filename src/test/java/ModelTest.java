import java.util.Random;

/** Random runs of calls, the same ones each time, on the class and on the model. */
public final class ModelTest {
    private static final Checks CHECKS = new Checks();
    private static final int RUNS = 6000;
    private static final int CROWDED_RUNS = 1000;
    private static final int TEXTS = 60000;
    private static final int ALL_TEXTS_UP_TO = 6;
    private static final String[] NAMES = {"a", "b", "ab", "a.c", "A", "_"};
    private static final String[] PIECES = {
        "**", "**", "*", "a", "b", "a*", "*b", "[ab]", "[aA_]*", "*.c", "*[.]*", "a**", "ab", "_",
    };
    private static final String SIGNS = "aab.*[]/ **/-";
    private static final String EACH_SIGN = "a.*[]/ ";

    private final Random random;
    private final Driver driver = new Driver();
    private final Model model = new Model();
    private final StringBuilder done = new StringBuilder();

    private ModelTest(int seed) {
        random = new Random(seed);
    }

    public static void main(String[] args) {
        for (int seed = 0; seed < RUNS; seed++) {
            new ModelTest(seed).run();
        }
        for (int seed = 0; seed < CROWDED_RUNS; seed++) {
            new ModelTest(seed).runCrowded();
        }
        compareAllPlaces("");
        Random random = new Random(1);
        for (int n = 0; n < TEXTS; n++) {
            comparePlaces(n % 2 == 0 ? signs(random, random.nextInt(14)) : nearlyPattern(random));
        }
        CHECKS.end("ModelTest");
    }

    private static void comparePlaces(String text) {
        Driver driver = new Driver();
        driver.pattern(0, text, false);
        CHECKS.due("place of " + text, driver.place(), Model.illAt(text.length() > 60 ? text.substring(0, 60) : text));
    }

    private static void compareAllPlaces(String beginning) {
        comparePlaces(beginning);
        for (int i = 0; i < EACH_SIGN.length() && beginning.length() < ALL_TEXTS_UP_TO; i++) {
            compareAllPlaces(beginning + EACH_SIGN.charAt(i));
        }
    }

    private static String signs(Random random, int length) {
        StringBuilder text = new StringBuilder();
        for (int i = 0; i < length; i++) {
            text.append(SIGNS.charAt(random.nextInt(SIGNS.length())));
        }
        return text.toString();
    }

    private static String pick(Random random, String[] from) {
        return from[random.nextInt(from.length)];
    }

    private static String joined(Random random, String[] from, int most) {
        StringBuilder text = new StringBuilder(pick(random, from));
        for (int n = random.nextInt(most); n > 0; n--) {
            text.append('/').append(pick(random, from));
        }
        return text.toString();
    }

    private static String nearlyPattern(Random random) {
        StringBuilder text = new StringBuilder(joined(random, PIECES, 8));
        for (int n = random.nextInt(3); n > 0; n--) {
            int at = random.nextInt(text.length() + 1);
            text.insert(at, signs(random, 1 + random.nextInt(3)));
        }
        return text.toString();
    }

    private void due(String call, Object got, Object want) {
        done.append(call).append(" = ").append(want).append("; ");
        CHECKS.due(want.equals(got) ? call : done.toString(), got, want);
    }

    private String path() {
        int kind = random.nextInt(40);
        if (kind == 0) {
            return signs(random, random.nextInt(5));
        }
        return kind == 1 ? joined(random, NAMES, 8) : joined(random, NAMES, 3);
    }

    private String pattern() {
        int kind = random.nextInt(20);
        if (kind == 0) {
            return signs(random, random.nextInt(8));
        }
        return joined(random, PIECES, 3) + (random.nextInt(3) == 0 ? "/" : "");
    }

    private void run() {
        newQuery();
        while (driver.callsLeft() > 80) {
            step();
        }
        for (int query = 0; query < 6 && driver.callsLeft() > 3; query++) {
            due("ask " + query, driver.count(query), model.ask(query));
            due("looked", driver.looked(), model.looked());
        }
    }

    // Deep paths with few that go, so that the tree is full soon and stays so.
    private void runCrowded() {
        newQuery();
        while (driver.callsLeft() > 80) {
            String path = joined(random, NAMES, 6);
            int kind = random.nextInt(12);
            if (kind < 5) {
                due("file " + path, driver.file(path), model.make(path, false));
            } else if (kind < 10) {
                due("folder " + path, driver.folder(path), model.make(path, true));
            } else if (kind < 11) {
                due("remove " + path, driver.remove(path), model.remove(path));
            } else {
                ask();
            }
        }
        ask();
    }

    private void newQuery() {
        String path = random.nextInt(2) == 0 ? "" : path();
        due("query " + path, driver.query(path), model.query(path));
        newPattern();
    }

    private void newPattern() {
        int query = random.nextInt(3) - (random.nextInt(20) == 0 ? 1 : 0);
        String text = pattern();
        boolean out = random.nextInt(3) == 0;
        due("pattern " + query + " " + text + " " + out, driver.pattern(query, text, out), model.pattern(query, text, out));
        due("place", driver.place(), model.place());
    }

    private void step() {
        int kind = random.nextInt(20);
        String path = path();
        if (kind < 6) {
            due("file " + path, driver.file(path), model.make(path, false));
        } else if (kind < 8) {
            due("folder " + path, driver.folder(path), model.make(path, true));
        } else if (kind < 9) {
            due("remove " + path, driver.remove(path), model.remove(path));
        } else if (kind < 11) {
            boolean on = random.nextBoolean();
            due("pack " + path + " " + on, driver.pack(path, on), model.pack(path, on));
        } else if (kind < 12) {
            newQuery();
        } else if (kind < 14) {
            newPattern();
        } else {
            ask();
        }
    }

    private void ask() {
        int query = random.nextInt(4) - (random.nextInt(20) == 0 ? 1 : 0);
        due("ask " + query, driver.count(query), model.ask(query));
        due("looked", driver.looked(), model.looked());
        if (model.answer().length() + 20 < driver.callsLeft() - 60 && random.nextInt(3) == 0) {
            due("answer", driver.answer(), model.answer());
        }
    }
}

/** Drives one GlobRows: types texts, and writes every call's answer as a text, "IAE" or "ISE" if it throws. */
final class Driver {
    // The document leaves free what an object answers behind so many calls.
    private static final int MOST_CALLS = 512;

    private final GlobRows rows = new GlobRows();
    private int calls;

    boolean type(char c) {
        return counted().type(c);
    }

    boolean type(String text) {
        boolean all = true;
        for (int i = 0; i < text.length(); i++) {
            all &= type(text.charAt(i));
        }
        return all;
    }

    String file(String text) {
        type(text);
        return told(counted()::file);
    }

    String folder(String text) {
        type(text);
        return told(counted()::folder);
    }

    String remove(String text) {
        type(text);
        return told(counted()::remove);
    }

    String pack(String text, boolean on) {
        type(text);
        return told(() -> {
            counted().pack(on);
            return 0;
        });
    }

    String query(String text) {
        type(text);
        return told(counted()::query);
    }

    String pattern(int query, String text, boolean out) {
        type(text);
        return told(() -> {
            counted().pattern(query, out);
            return 0;
        });
    }

    int place() {
        return counted().place();
    }

    int count(int query) {
        return counted().ask(query);
    }

    int looked() {
        return counted().looked();
    }

    int letter(int k, int i) {
        return counted().answer(k, i);
    }

    /** Asks, and writes how many nodes, how many folders were counted, and the paths. */
    String ask(int query) {
        int count = count(query);
        return count + " nodes, " + looked() + " looked: " + answer();
    }

    /** The paths of the latest answer with blanks between, read character by character. */
    String answer() {
        StringBuilder all = new StringBuilder();
        int c = letter(0, 0);
        for (int k = 0; c != 0; k++) {
            all.append(k == 0 ? "" : " ");
            for (int i = 1; c != 0; i++) {
                all.append((char) c);
                c = letter(k, i);
            }
            c = letter(k + 1, 0);
        }
        return all.toString();
    }

    int callsLeft() {
        return MOST_CALLS - calls;
    }

    private GlobRows counted() {
        calls++;
        if (calls > MOST_CALLS) {
            throw new AssertionError("the test makes more calls than the document speaks of");
        }
        return rows;
    }

    private interface Call {
        int run();
    }

    private static String told(Call call) {
        try {
            return Integer.toString(call.run());
        } catch (IllegalArgumentException e) {
            return e.getClass() == IllegalArgumentException.class ? "IAE" : e.toString();
        } catch (IllegalStateException e) {
            return e.getClass() == IllegalStateException.class ? "ISE" : e.toString();
        }
    }
}

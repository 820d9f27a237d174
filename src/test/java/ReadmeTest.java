/** What README.md tells of the class: its example, its patterns, and its readings of the document. */
public final class ReadmeTest {
    private static final Checks CHECKS = new Checks();

    public static void main(String[] args) {
        example();
        patterns();
        placeOfAnyText();
        argumentBeforeState();
        askOfNoQuery();
        answerStays();
        packageNoneAndAgain();
        refusedCallsChangeNothing();
        CHECKS.end("ReadmeTest");
    }

    private static void due(String what, Object got, Object want) {
        CHECKS.due(what, got, want);
    }

    private static void example() {
        GlobRows rows = new GlobRows();
        for (char c : "src/b.c".toCharArray()) rows.type(c);
        due("file", rows.file(), 2);
        int query = rows.query();
        due("query", query, 0);
        for (char c : "**/*.c".toCharArray()) rows.type(c);
        rows.pattern(query, false);
        due("ask", rows.ask(query), 1);
        due("looked", rows.looked(), 2);
        due("answer", rows.answer(0, 0), 115);
        due("ask again", rows.ask(query), 1);
        due("looked again", rows.looked(), 0);
    }

    private static String answerOf(String pattern) {
        Driver d = new Driver();
        for (String file : new String[] {"a.c", "a.h", "b.cc", "src/a.c", "src/x/b.h", "src/x/test/c.o"}) {
            d.file(file);
        }
        d.folder("test");
        d.query("");
        d.pattern(0, pattern, false);
        d.count(0);
        return d.answer();
    }

    private static void patterns() {
        due("*.c", answerOf("*.c"), "a.c");
        due("**/*.[ch]", answerOf("**/*.[ch]"), "a.c a.h src/a.c src/x/b.h");
        due("src/**", answerOf("src/**"), "src/a.c src/x/b.h src/x/test/c.o");
        due("**/test/", answerOf("**/test/"), "src/x/test test");

        Driver d = new Driver();
        d.file("src");
        d.query("");
        d.pattern(0, "src/**", false);
        due("src/** and a file src", d.ask(0), "1 nodes, 1 looked: src");
    }

    private static void placeOfAnyText() {
        Driver d = new Driver();
        due("no such query", d.pattern(0, "a//", false), "IAE");
        due("and its place", d.place(), 2);
        due("no such query, a pattern", d.pattern(0, "a", false), "IAE");
        due("and its place", d.place(), -1);
        d.query("");
        for (int i = 0; i < 4; i++) {
            due("there is room", d.pattern(0, "a", true), "0");
        }
        due("4 already", d.pattern(0, "a", true), "ISE");
        due("and its place", d.place(), -1);
        due("4 already, and no pattern", d.pattern(0, "ab c", true), "IAE");
        due("and its place", d.place(), 2);
    }

    private static void argumentBeforeState() {
        Driver d = new Driver();
        for (int i = 0; i < 6; i++) {
            due("there is room", d.query(""), Integer.toString(i));
        }
        due("6 already", d.query(""), "ISE");
        due("6 already, and no path", d.query("a/"), "IAE");
    }

    private static void askOfNoQuery() {
        Driver d = new Driver();
        d.file("a/b");
        d.query("");
        d.pattern(0, "*/*", false);
        due("a query", d.ask(0), "1 nodes, 2 looked: a/b");
        due("no query", d.ask(1), "-1 nodes, 2 looked: a/b");
        due("no query", d.ask(-1), "-1 nodes, 2 looked: a/b");
    }

    private static void answerStays() {
        Driver d = new Driver();
        d.file("a/b");
        d.query("");
        d.pattern(0, "**", false);
        d.count(0);
        d.remove("a");
        d.file("c");
        due("the tree changed", d.answer(), "a/b");
        due("it is asked again", d.ask(0), "1 nodes, 1 looked: c");
    }

    private static void packageNoneAndAgain() {
        Driver d = new Driver();
        d.file("p/q/a");
        d.pack("p/q", true);
        d.query("p/q");
        d.pattern(0, "*", false);
        d.query("");
        d.pattern(1, "**", false);
        due("the package", d.ask(0), "1 nodes, 1 looked: a");
        due("the tree", d.ask(1), "0 nodes, 2 looked: ");
        d.pack("p/q", false);
        d.pack("p/q", true);
        due("the package isn't touched", d.ask(0), "1 nodes, 0 looked: a");
        due("the folder it is in is", d.ask(1), "0 nodes, 1 looked: ");
    }

    private static void refusedCallsChangeNothing() {
        Driver d = new Driver();
        d.file("a/b");
        d.query("");
        d.pattern(0, "**", false);
        due("all", d.ask(0), "1 nodes, 2 looked: a/b");
        due("a file is on the way", d.file("a/b/c"), "ISE");
        due("a folder is there", d.file("a"), "ISE");
        due("a file is there", d.folder("a/b"), "ISE");
        due("nothing is there", d.remove("a/c"), "ISE");
        due("it is none already", d.pack("a", false), "ISE");
        due("no folder", d.pack("a/b", true), "ISE");
        due("no pattern", d.pattern(0, "[", true), "IAE");
        due("no path", d.query("//"), "IAE");
        due("as before", d.ask(0), "1 nodes, 0 looked: a/b");
        due("the next number", d.query("a"), "1");
    }
}

/** Each promise of the document by itself: ordinary inputs, its edges, and wrong inputs. */
public final class PromisesTest {
    private static final Checks CHECKS = new Checks();

    public static void main(String[] args) {
        promise1NewObject();
        promise2Type();
        promise3File();
        promise3FileLimits();
        promise4Folder();
        promise5Remove();
        promise5RemoveAll();
        promise6Pack();
        promise6PackDeep();
        promise7Query();
        promise8Pattern();
        promise8Fits();
        promise8FitsDoubleStar();
        promise9Place();
        promise9PlaceOfWhichText();
        promise10Ask();
        promise10Order();
        promise10Packages();
        promise11LookedWhich();
        promise11LookedAgain();
        promise11LookedMadeAnew();
        promise12Answer();
        CHECKS.end("PromisesTest");
    }

    private static void due(String what, Object got, Object want) {
        CHECKS.due(what, got, want);
    }

    private static void promise1NewObject() {
        Driver d = new Driver();
        due("1 NONE", GlobRows.NONE, -1);
        due("1 place", d.place(), -1);
        due("1 looked", d.looked(), 0);
        due("1 answer", d.letter(0, 0), 0);
        due("1 ask", d.count(0), -1);
        due("1 text is empty: no path", d.file(""), "IAE");
        due("1 first query", d.query(""), "0");
        due("1 pattern", d.pattern(0, "**", false), "0");
        due("1 empty tree", d.ask(0), "0 nodes, 1 looked: ");
        due("1 objects are apart", new Driver().remove("a"), "ISE");
    }

    private static void promise2Type() {
        GlobRows rows = new GlobRows();
        due("2 blank", rows.type(' '), true);
        due("2 tilde", rows.type('~'), true);
        due("2 31", rows.type((char) 31), false);
        due("2 127", rows.type((char) 127), false);
        due("2 0", rows.type((char) 0), false);
        due("2 high", rows.type((char) 65535), false);
        due("2 high, low byte a letter", rows.type((char) (256 + 'a')), false);

        Driver full = new Driver();
        full.query("");
        for (int i = 0; i < 60; i++) {
            due("2 character " + i, full.type(i < 59 ? "abc/".charAt(i % 4) : ' '), true);
        }
        due("2 one more than 60", full.type('a'), false);
        due("2 and again", full.type('a'), false);
        due("2 is taken", full.pattern(0, "", false), "IAE");
        due("2 emptied, all 60 fit again", full.type("x".repeat(60)), true);

        Driver skipped = new Driver();
        due("2 a refused character", skipped.type("a\tb"), false);
        due("2 leaves the text", skipped.file(""), "1");
        due("2 as it was", skipped.remove("ab"), "1");
    }

    private static void promise3File() {
        Driver d = new Driver();
        due("3 one", d.file("a"), "1");
        due("3 again", d.file("a"), "0");
        due("3 folders that lack", d.file("x/y/z"), "3");
        due("3 one lacks", d.file("x/y/w"), "1");
        due("3 in a folder that is there", d.file("x/v"), "1");
        due("3 file on the way", d.file("a/b"), "ISE");
        due("3 file on the way, deeper", d.file("x/y/z/q/r"), "ISE");
        due("3 a folder is there", d.file("x"), "ISE");
        due("3 a folder is there", d.file("x/y"), "ISE");
        due("3 six names", d.file("1/2/3/4/5/6"), "6");
        due("3 six names again", d.file("1/2/3/4/5/6"), "0");
        due("3 one more on six names", d.file("1/2/3/4/5/7"), "1");
        due("3 nothing was made by what was refused", d.remove("x/y"), "3");

        String[] none = {
            "", "/", "a/", "/a", "a//b", ".", "..", "b/.", "../b", "b/../c", "abcdefghi", "b/abcdefghi",
            "1/2/3/4/5/6/7", "a b", "*", "[a]", "a-b", "a~", "a@", "b[", "`", "{", "a:b", "a,b", " a", "a ", "b/ ",
        };
        for (String text : none) {
            due("3 no path: " + text, d.file(text), "IAE");
        }
        due("3 IAE empties the text", d.file("ok"), "1");
        d.file("a/b");
        due("3 ISE empties the text", d.file("ok2"), "1");

        String[] names = {"...", ".a", "a.", "..a", "_", "0", "9", "A", "Z", "z", "abcdefgh", "a.b_C.9Z", "...."};
        for (String name : names) {
            due("3 a name: " + name, new Driver().file(name), "1");
        }
        due("3 letters differ by case", d.file("A"), "1");
    }

    private static void promise3FileLimits() {
        Driver d = new Driver();
        for (int i = 0; i < 58; i++) {
            due("3 node " + i, d.file(Integer.toString(i)), "1");
        }
        due("3 61 would be", d.file("a/b/c"), "ISE");
        due("3 and none of it was made", d.remove("a"), "ISE");
        due("3 60", d.file("a/b"), "2");
        due("3 61", d.file("c"), "ISE");
        due("3 folder 61", d.folder("a/c"), "ISE");
        due("3 there already", d.file("a/b"), "0");
        due("3 there already", d.folder("a"), "0");
        due("3 two go", d.remove("a"), "2");
        due("3 room again", d.folder("c/d"), "2");
        due("3 and full again", d.folder("c/d/e"), "ISE");
    }

    private static void promise4Folder() {
        Driver d = new Driver();
        due("4 one", d.folder("a"), "1");
        due("4 it is there", d.folder("a"), "0");
        due("4 three", d.folder("b/c/d"), "3");
        due("4 on the way", d.folder("b/c"), "0");
        due("4 it is a folder", d.file("b/c/d/e"), "1");
        due("4 a file is there", d.folder("b/c/d/e"), "ISE");
        due("4 a file is on the way", d.folder("b/c/d/e/f"), "ISE");
        due("4 six names", d.folder("1/2/3/4/5/6"), "6");
        due("4 six names again", d.folder("1/2/3/4/5/6"), "0");
        due("4 no file there", d.file("1/2/3/4/5/6"), "ISE");
        due("4 seven names", d.folder("1/2/3/4/5/6/7"), "IAE");
        due("4 no path", d.folder("a/"), "IAE");
        due("4 no path", d.folder(""), "IAE");
        due("4 the text was emptied", d.folder("q"), "1");
    }

    private static void promise5Remove() {
        Driver d = new Driver();
        due("5 nothing", d.remove("a"), "ISE");
        d.file("a/b/c");
        d.file("a/b/d");
        d.file("a/e");
        d.folder("f");
        due("5 not in a folder", d.remove("a/c"), "ISE");
        due("5 not in a file", d.remove("a/e/x"), "ISE");
        due("5 a file", d.remove("a/b/c"), "1");
        due("5 it is gone", d.remove("a/b/c"), "ISE");
        due("5 with all in it", d.remove("a"), "4");
        due("5 all is gone", d.remove("a/b"), "ISE");
        due("5 an empty folder", d.remove("f"), "1");
        due("5 a file may come where a folder was", d.file("a"), "1");
        due("5 no path", d.remove("a//b"), "IAE");
        due("5 the tree has no path", d.remove(""), "IAE");
        due("5 the text was emptied", d.remove("a"), "1");
    }

    private static void promise5RemoveAll() {
        Driver full = new Driver();
        for (int i = 0; i < 54; i++) {
            full.file("a/" + i);
        }
        full.file("a/b/c/d/e/f");
        due("5 60 are there", full.file("g"), "ISE");
        due("5 seven names", full.remove("a/b/c/d/e/f/g"), "IAE");
        due("5 below the deepest file", full.remove("a/b/c/d/f"), "ISE");
        due("5 the deepest", full.remove("a/b/c/d/e/f"), "1");
        due("5 one may come", full.file("a/b/c/d/e/f"), "1");
        due("5 all 60", full.remove("a"), "60");
        due("5 60 may come", full.folder("a/b/c/d/e/f"), "6");
        due("5 a package", full.pack("a/b", true), "0");
        due("5 goes likewise", full.remove("a"), "6");
        due("5 and is gone", full.remove("a"), "ISE");
    }

    private static void promise6PackDeep() {
        Driver d = new Driver();
        d.folder("1/2/3/4/5/6");
        due("6 six names", d.pack("1/2/3/4/5/6", true), "0");
        due("6 it is so", d.pack("1/2/3/4/5/6", true), "ISE");
        due("6 seven names", d.pack("1/2/3/4/5/6/7", true), "IAE");
        due("6 those above are none", d.pack("1/2/3/4/5", false), "ISE");
        due("6 none again", d.pack("1/2/3/4/5/6", false), "0");
        d.pack("1", true);
        due("6 again what is there", d.folder("1"), "0");
        due("6 leaves it one", d.pack("1", true), "ISE");
    }

    private static void promise6Pack() {
        Driver d = new Driver();
        d.file("a/b");
        due("6 none as yet", d.pack("a", false), "ISE");
        due("6 becomes one", d.pack("a", true), "0");
        due("6 is one", d.pack("a", true), "ISE");
        due("6 becomes none", d.pack("a", false), "0");
        due("6 is none", d.pack("a", false), "ISE");
        due("6 a file", d.pack("a/b", true), "ISE");
        due("6 a file", d.pack("a/b", false), "ISE");
        due("6 nothing", d.pack("x", true), "ISE");
        due("6 nothing", d.pack("x", false), "ISE");
        due("6 no path", d.pack("a/", true), "IAE");
        due("6 the tree has no path", d.pack("", true), "IAE");
        due("6 the tree has no path", d.pack("", false), "IAE");
        d.pack("a", true);
        d.remove("a");
        d.folder("a");
        due("6 made anew it is none", d.pack("a", true), "0");
    }

    private static void promise7Query() {
        Driver d = new Driver();
        due("7 the tree", d.query(""), "0");
        due("7 needn't be there", d.query("a/b"), "1");
        due("7 the same again", d.query("a/b"), "2");
        due("7 no path", d.query("a/"), "IAE");
        due("7 no path", d.query("**"), "IAE");
        due("7 seven names", d.query("1/2/3/4/5/6/7"), "IAE");
        due("7 six names", d.query("1/2/3/4/5/6"), "3");
        due("7 fifth", d.query("..."), "4");
        due("7 sixth", d.query("x"), "5");
        due("7 seventh", d.query("x"), "ISE");
        due("7 seventh, the tree", d.query(""), "ISE");
        due("7 seventh, no path", d.query("/"), "IAE");
        due("7 the text was emptied", d.file("y"), "1");
        due("7 no seventh came to be", d.count(6), -1);

        Driver later = new Driver();
        later.query("p/q");
        later.pattern(0, "**", false);
        due("7 not there", later.ask(0), "0 nodes, 0 looked: ");
        later.file("p/q/f");
        due("7 there, but no package", later.ask(0), "0 nodes, 0 looked: ");
        later.pack("p/q", true);
        due("7 a package", later.ask(0), "1 nodes, 1 looked: f");
        later.remove("p/q");
        later.file("p/q");
        due("7 a file", later.ask(0), "0 nodes, 0 looked: ");
    }

    private static void promise8Pattern() {
        Driver d = new Driver();
        due("8 no query", d.pattern(0, "a", false), "IAE");
        d.query("");
        due("8 below 0", d.pattern(-1, "a", false), "IAE");
        due("8 beyond", d.pattern(1, "a", false), "IAE");
        due("8 far beyond", d.pattern(Integer.MAX_VALUE, "a", true), "IAE");
        due("8 far below", d.pattern(Integer.MIN_VALUE, "a", true), "IAE");
        due("8 the text was emptied: ill", d.pattern(0, "", false), "IAE");
        for (int i = 0; i < 4; i++) {
            due("8 in " + i, d.pattern(0, "a" + i, false), "0");
        }
        due("8 a fifth in", d.pattern(0, "a4", false), "ISE");
        due("8 a fifth in, ill", d.pattern(0, "a//", false), "IAE");
        for (int i = 0; i < 4; i++) {
            due("8 out " + i, d.pattern(0, "b" + i, true), "0");
        }
        due("8 a fifth out", d.pattern(0, "b4", true), "ISE");
        due("8 a fifth out, no query", d.pattern(1, "b4", true), "IAE");
        due("8 the text was emptied", d.file("a4"), "1");
        d.file("a0");
        d.file("a3");
        due("8 what was refused takes nothing in", d.ask(0), "2 nodes, 1 looked: a0 a3");
        d.query("");
        due("8 another query has room", d.pattern(1, "a", false), "0");
    }

    /** Whether a pattern alone takes in a file or a folder at a path. */
    private static boolean takes(String pattern, String path, boolean asFolder) {
        Driver d = new Driver();
        d.query("");
        due("pattern " + pattern, d.pattern(0, pattern, false), "0");
        due("node " + path, asFolder ? d.folder(path).isEmpty() : d.file(path).isEmpty(), false);
        d.count(0);
        return (" " + d.answer() + " ").contains(" " + path + " ");
    }

    private static void dueFits(String pattern, String path, boolean want) {
        due(pattern + " fits the file " + path, takes(pattern, path, false), want);
        due(pattern + "/ fits the folder " + path, takes(pattern + "/", path, true), want);
        due(pattern + " fits the folder " + path, takes(pattern, path, true), false);
        due(pattern + "/ fits the file " + path, takes(pattern + "/", path, false), false);
    }

    private static void promise8Fits() {
        dueFits("abc", "abc", true);
        dueFits("abc", "ab", false);
        dueFits("abc", "abcd", false);
        dueFits("abc", "Abc", false);
        dueFits("*", "a", true);
        dueFits("*", ".a", true);
        dueFits("*", "a/b", false);
        dueFits("a*", "a", true);
        dueFits("a*", "abc", true);
        dueFits("a*", "ba", false);
        dueFits("*a", "a", true);
        dueFits("*a", "aba", true);
        dueFits("*a", "ab", false);
        dueFits("*a*", "bab", true);
        dueFits("*a*b*", "xaxbx", true);
        dueFits("*a*b*", "xbxax", false);
        dueFits("a**", "a", true);
        dueFits("a**b", "axb", true);
        dueFits("a*******", "abcdefgh", true);
        dueFits("a******b", "ab", true);
        dueFits("*.c", "a.c", true);
        dueFits("*.c", "a.c.c", true);
        dueFits("*.c", "axc", false);
        dueFits("[abc]", "b", true);
        dueFits("[abc]", "d", false);
        dueFits("[abc]", "ab", false);
        dueFits("[aa]x", "ax", true);
        dueFits("[.]a", ".a", true);
        dueFits("[_9Z]*[.]", "Zq.", true);
        dueFits("[abcdef][a]", "fa", true);
        dueFits("[ab]*[ab]", "a", false);
        dueFits("[ab]*[ab]", "ab", true);
        dueFits("[ab][ab][ab][ab][ab][ab][ab][ab]", "abababab", true);
        dueFits("...", "...", true);
        dueFits("..*", "..a", true);
        dueFits("[.]", "a", false);
        dueFits("a/b", "a/b", true);
        dueFits("a/b", "a", false);
        dueFits("a/b", "a/b/c", false);
        dueFits("a/b", "b", false);
        dueFits("*/*", "x/y", true);
        dueFits("1/2/3/4/5/6", "1/2/3/4/5/6", true);
    }

    private static void promise8FitsDoubleStar() {
        dueFits("**", "a", true);
        dueFits("**", "a/b/c/d/e/f", true);
        dueFits("**/a", "a", true);
        dueFits("**/a", "x/a", true);
        dueFits("**/a", "x/y/a", true);
        dueFits("**/a", "x/y/ba", false);
        dueFits("**/a", "a/x", false);
        dueFits("a/**", "a", true);
        dueFits("a/**", "a/b", true);
        dueFits("a/**", "a/b/c", true);
        dueFits("a/**", "b/a", false);
        dueFits("a/**/b", "a/b", true);
        dueFits("a/**/b", "a/x/y/b", true);
        dueFits("a/**/b", "a/x", false);
        dueFits("a/**/b", "x/a/b", false);
        dueFits("**/a/**", "a", true);
        dueFits("**/a/**", "x/a/y", true);
        dueFits("**/a/**", "x/y", false);
        dueFits("**/a/**/b/**", "b/a/b/a", true);
        dueFits("**/a/**/b/**", "b/a", false);
        dueFits("**/a/b", "a/a/b", true);
        dueFits("**/*/*", "a", false);
        dueFits("**/*/*", "a/b", true);
        dueFits("**/*/*", "a/b/c", true);
        dueFits("*/**/*", "a", false);
        dueFits("*/**/*", "a/b/c/d", true);
    }

    private static void duePlace(String text, int want) {
        Driver d = new Driver();
        d.query("");
        due("pattern " + text, d.pattern(0, text, false), want < 0 ? "0" : "IAE");
        due("place of " + text, d.place(), want);
        d.file("zz");
        due("a text that is ill adds nothing: " + text, want < 0 ? 0 : d.count(0), 0);
    }

    private static void promise9Place() {
        String[] well = {
            "a", "a/", "**", "**/", "a/**", "**/a/**", "a/b/c/d/e/f", "a/b/c/d/e/f/", "**/b/**/d/**/f/", "abcdefgh",
            "[abcdef]", "[a][a][a][a][a][a][a][a]", "*", "a*******", "...", ".a", "..a", ".*",
            "*.", "[.]", "[.][.]", ".[.]", "a**", "a/*", "*/*", "**/*", "**/*/**", "*a*", "_.Z9",
        };
        for (String text : well) {
            duePlace(text, -1);
        }
        duePlace("", 0);
        duePlace("/", 0);
        duePlace("/a", 0);
        duePlace("a//", 2);
        duePlace("a//b", 2);
        duePlace("**//", 3);
        duePlace("a/b/c/d/e/f/g", 12);
        duePlace("a/b/c/d/e/f/**", 12);
        duePlace("a/b/c/d/e/f/.", 12);
        duePlace("a/b/c/d/e/f//", 12);
        duePlace("a/b/c/d/e/**/**", 13);
        duePlace("abcdefghi", 8);
        duePlace("abcdefgh/abcdefghi", 17);
        duePlace("abcdefgh[", 8);
        duePlace("abcdefgh*", 8);
        duePlace("*a*******", 8);
        duePlace("[ab][ab][ab][ab][ab][ab][ab][ab][ab]", 32);
        duePlace("[ab]bcdefghi", 11);
        duePlace("[", 1);
        duePlace("[]", 1);
        duePlace("[]a]", 1);
        duePlace("[a", 2);
        duePlace("[a/b]", 2);
        duePlace("[a*]", 2);
        duePlace("[[a]]", 1);
        duePlace("[a]]", 3);
        duePlace("[abcdef", 7);
        duePlace("[abcdefg]", 7);
        duePlace("x/[a-z]", 4);
        duePlace("]", 0);
        duePlace("a]", 1);
        duePlace(".", 0);
        duePlace("..", 0);
        duePlace("./a", 0);
        duePlace("../a", 0);
        duePlace("./ ", 0);
        duePlace("a/.", 2);
        duePlace("a/..", 2);
        duePlace("a/./b", 2);
        duePlace("a/../", 2);
        duePlace(". ", 1);
        duePlace("..?", 2);
        duePlace("**a", 2);
        duePlace("***", 2);
        duePlace("**[a]", 2);
        duePlace("a/**.", 4);
        duePlace("**/**", 3);
        duePlace("**/**/", 3);
        duePlace("**/**a", 3);
        duePlace("**/***", 3);
        duePlace("a/**/**/b", 5);
        duePlace("**/a/**/**", 8);
        duePlace("a b", 1);
        duePlace(" ", 0);
        duePlace("a/ b", 2);
        duePlace("a-b", 1);
        duePlace("a?", 1);
        duePlace("!a", 0);
        duePlace("a\\", 1);
        duePlace("a~", 1);
    }

    private static void promise9PlaceOfWhichText() {
        Driver d = new Driver();
        due("9 none as yet", d.place(), -1);
        d.pattern(0, "ab-", false);
        due("9 of a text for no query", d.place(), 2);
        d.pattern(0, "ab", false);
        due("9 of a well text for no query", d.place(), -1);
        d.query("");
        d.pattern(0, "a//", true);
        due("9 ill", d.place(), 2);
        due("9 again", d.place(), 2);
        d.file("a//");
        d.query("//");
        due("9 paths leave it", d.place(), 2);
        d.pattern(0, "a", true);
        due("9 well", d.place(), -1);
        for (int i = 0; i < 3; i++) {
            d.pattern(0, "a", true);
        }
        due("9 one too many, ill", d.pattern(0, "[", true), "IAE");
        due("9 its place", d.place(), 1);
        due("9 one too many, well", d.pattern(0, "a", true), "ISE");
        due("9 wasn't ill", d.place(), -1);
    }

    private static void promise10Ask() {
        Driver d = new Driver();
        d.file("a.c");
        d.file("b.c");
        d.file("x/c.c");
        d.query("");
        due("10 no patterns", d.ask(0), "0 nodes, 1 looked: ");
        d.pattern(0, "a*", true);
        due("10 out alone", d.ask(0), "0 nodes, 1 looked: ");
        d.pattern(0, "*.c", false);
        due("10 in and out", d.ask(0), "1 nodes, 1 looked: b.c");
        d.pattern(0, "x/", false);
        due("10 one of those", d.ask(0), "2 nodes, 1 looked: b.c x");
        d.pattern(0, "x/*", false);
        d.pattern(0, "b.*", true);
        due("10 none of the others", d.ask(0), "2 nodes, 2 looked: x x/c.c");
        d.pattern(0, "**", true);
        due("10 files left out, the folder isn't", d.ask(0), "1 nodes, 2 looked: x");
        due("10 below 0", d.count(-1), -1);
        due("10 beyond", d.count(1), -1);
        due("10 far beyond", d.count(Integer.MAX_VALUE), -1);
        due("10 far below", d.count(Integer.MIN_VALUE), -1);
        due("10 which leaves the answer", d.answer() + d.looked(), "x2");

        Driver twice = new Driver();
        twice.query("");
        twice.pattern(0, "*", false);
        twice.pattern(0, "a", false);
        twice.file("a");
        due("10 what two fit is there once", twice.ask(0), "1 nodes, 1 looked: a");
    }

    private static void promise10Order() {
        Driver d = new Driver();
        d.query("");
        d.pattern(0, "**", false);
        d.pattern(0, "**/", false);
        String[] files = {"b", "a_", "ab", "a/z", "aa", "a.c", "a/b/c", "a0", "aA", "A", "_", "0", ".x", "a/b.c", "a/B"};
        for (String path : files) {
            d.file(path);
        }
        due("10 in order", d.ask(0),
            "17 nodes, 3 looked: .x 0 A _ a a/B a/b a/b/c a/b.c a/z a.c a0 aA a_ aa ab b");

        Driver many = new Driver();
        many.query("");
        many.pattern(0, "**/", false);
        for (int i = 0; i < 10; i++) {
            many.folder("1/2/3/4/5/f" + i);
            many.folder("g" + i + "/2/3/4");
        }
        due("10 up to 55", many.count(0), 55);
        due("10 all of them", many.looked(), 56);
    }

    private static void promise10Packages() {
        Driver d = new Driver();
        d.file("p/a");
        d.file("p/q/b");
        d.file("p/q/r/c");
        d.file("e");
        d.query("");
        d.query("p");
        d.query("p/q/r");
        for (int i = 0; i < 3; i++) {
            d.pattern(i, "**", false);
            d.pattern(i, "**/", false);
        }
        due("10 all is the tree's", d.ask(0), "7 nodes, 4 looked: e p p/a p/q p/q/b p/q/r p/q/r/c");
        d.pack("p/q", true);
        due("10 not what is or lies in another", d.ask(0), "3 nodes, 1 looked: e p p/a");
        d.pack("p", true);
        due("10 nor two in one another", d.ask(0), "1 nodes, 1 looked: e");
        due("10 paths from the package on", d.ask(1), "1 nodes, 1 looked: a");
        d.pack("p/q", false);
        due("10 all of its own", d.ask(1), "5 nodes, 3 looked: a q q/b q/r q/r/c");
        due("10 none: it is no package", d.ask(2), "0 nodes, 0 looked: ");
        d.pack("p/q/r", true);
        due("10 a package in a package", d.ask(2), "1 nodes, 1 looked: c");
        d.remove("p/q");
        due("10 it went", d.ask(2), "0 nodes, 0 looked: ");
    }

    /** How many folders are looked at in a tree of a, a/b, a/b/c, x, x/b. */
    private static int firstLook(String[] in, String[] out) {
        Driver d = new Driver();
        d.folder("a/b/c");
        d.folder("x/b");
        d.file("a/f");
        d.query("");
        for (String pattern : in) {
            due("pattern " + pattern, d.pattern(0, pattern, false), "0");
        }
        for (String pattern : out) {
            due("pattern " + pattern, d.pattern(0, pattern, true), "0");
        }
        d.count(0);
        return d.looked();
    }

    private static int firstLook(String... in) {
        return firstLook(in, new String[0]);
    }

    private static void promise11LookedWhich() {
        due("11 no pattern", firstLook(), 1);
        due("11 the package alone", firstLook("a"), 1);
        due("11 a piece must be left", firstLook("a/"), 1);
        due("11 no folder fits", firstLook("z/*"), 1);
        due("11 a", firstLook("a/q"), 2);
        due("11 a and x", firstLook("*/q"), 3);
        due("11 a, a/b", firstLook("a/*/q"), 3);
        due("11 a, a/b, a/b/c", firstLook("a/b/c/d/e"), 4);
        due("11 a, a/b, x, x/b", firstLook("*/b/*"), 5);
        due("11 a/b of the wrong name", firstLook("*/z/*"), 3);
        due("11 all", firstLook("**"), 6);
        due("11 all", firstLook("**/"), 6);
        due("11 all", firstLook("**/q"), 6);
        due("11 all in a", firstLook("a/**"), 4);
        due("11 all in a", firstLook("a/**/"), 4);
        due("11 all in a", firstLook("a/**/b/q"), 4);
        due("11 all", firstLook("*/**/x"), 6);
        due("11 of one of them", firstLook("a/q", "x/q"), 3);
        due("11 what leaves out doesn't count", firstLook(new String[] {"a"}, new String[] {"**"}), 1);
        due("11 nor keeps from looking", firstLook(new String[] {"**"}, new String[] {"a/**", "a/"}), 6);
        due("11 none asked", new GlobRows().looked(), 0);
    }

    private static void promise11LookedAgain() {
        Driver d = new Driver();
        d.file("a/b/f");
        d.file("c/g");
        d.query("");
        d.query("");
        d.pattern(0, "**", false);
        d.pattern(1, "**", false);
        due("11 all at first", d.ask(0), "2 nodes, 4 looked: a/b/f c/g");
        due("11 none again", d.ask(0), "2 nodes, 0 looked: a/b/f c/g");
        d.file("a/h");
        due("11 told until it is asked", d.looked(), 0);
        due("11 a was touched", d.ask(0), "3 nodes, 1 looked: a/b/f a/h c/g");
        due("11 all at first, of each query", d.ask(1), "3 nodes, 4 looked: a/b/f a/h c/g");
        d.remove("a/h");
        due("11 a node went", d.ask(0), "2 nodes, 1 looked: a/b/f c/g");
        due("11 for each query", d.ask(1), "2 nodes, 1 looked: a/b/f c/g");
        d.file("c/g");
        d.folder("c");
        due("11 nothing new, nothing touched", d.ask(0), "2 nodes, 0 looked: a/b/f c/g");
        d.file("c");
        d.remove("c/z");
        d.pack("a", false);
        due("11 what throws touches nothing", d.ask(0), "2 nodes, 0 looked: a/b/f c/g");
        d.file("c/z");
        d.remove("c/z");
        due("11 touched though it is as before", d.ask(0), "2 nodes, 1 looked: a/b/f c/g");
        d.pack("a/b", true);
        due("11 a folder in a became a package", d.ask(0), "1 nodes, 1 looked: c/g");
        d.pack("a/b", false);
        due("11 and none: a/b wasn't looked at", d.ask(0), "2 nodes, 2 looked: a/b/f c/g");
        due("11 but by the other query it was", d.ask(1), "2 nodes, 2 looked: a/b/f c/g");
        d.pattern(0, "q", true);
        due("11 all, behind a new pattern", d.ask(0), "2 nodes, 4 looked: a/b/f c/g");
        due("11 none for the other query", d.ask(1), "2 nodes, 0 looked: a/b/f c/g");
        d.pattern(0, "q//", true);
        due("11 no new pattern", d.ask(0), "2 nodes, 0 looked: a/b/f c/g");
        d.count(9);
        due("11 no such query changes nothing", d.looked(), 0);
    }

    private static void promise11LookedMadeAnew() {
        Driver d = new Driver();
        d.file("p/a/f");
        d.file("p/b/g");
        d.pack("p", true);
        d.query("p");
        d.pattern(0, "**", false);
        due("11 at first", d.ask(0), "2 nodes, 3 looked: a/f b/g");
        d.remove("p/a");
        d.file("p/a/f");
        due("11 the package was touched, a made anew", d.ask(0), "2 nodes, 2 looked: a/f b/g");
        d.file("p/c/d/h");
        due("11 two new ones", d.ask(0), "3 nodes, 3 looked: a/f b/g c/d/h");
        d.remove("p");
        d.file("p/a/f");
        d.pack("p", true);
        due("11 the package was made anew", d.ask(0), "1 nodes, 2 looked: a/f");
        d.pack("p", false);
        d.pack("p", true);
        due("11 the package itself wasn't touched", d.ask(0), "1 nodes, 0 looked: a/f");
        d.pack("p", false);
        due("11 none: nothing is looked at", d.ask(0), "0 nodes, 0 looked: ");
        d.pack("p", true);
        due("11 so that all count", d.ask(0), "1 nodes, 2 looked: a/f");
        d.file("q");
        due("11 the folder above is no matter", d.ask(0), "1 nodes, 0 looked: a/f");
    }

    private static void promise12Answer() {
        Driver d = new Driver();
        due("12 none as yet", d.letter(0, 0), 0);
        d.file("p/x/y.c");
        d.file("p/12345678/12345678/12345678/12345678/12345678");
        d.pack("p", true);
        d.query("p");
        d.pattern(0, "**", false);
        d.count(0);
        due("12 paths", d.answer(), "12345678/12345678/12345678/12345678/12345678 x/y.c");
        due("12 a character", d.letter(1, 2), (int) 'y');
        due("12 a slash", d.letter(1, 1), (int) '/');
        due("12 behind the last", d.letter(1, 5), 0);
        due("12 the last of a long one", d.letter(0, 43), (int) '8');
        due("12 behind a long one", d.letter(0, 44), 0);
        int[] wrong = {-1, Integer.MIN_VALUE, Integer.MAX_VALUE, 2, 60, 1 << 30};
        for (int k : wrong) {
            due("12 no node " + k, d.letter(k, 0), 0);
            due("12 no character " + k, d.letter(0, k < 0 || k > 43 ? k : 44), 0);
            due("12 neither " + k, d.letter(k, k), 0);
        }
        d.remove("p");
        due("12 kept though the nodes went", d.answer(), "12345678/12345678/12345678/12345678/12345678 x/y.c");
        d.query("");
        d.count(7);
        due("12 kept until a query is asked", d.letter(1, 0), (int) 'x');
        d.count(1);
        due("12 an empty one", d.letter(0, 0), 0);

        Driver longest = new Driver();
        longest.query("");
        longest.pattern(0, "**", false);
        String deep = "aaaaaaaa/bbbbbbbb/cccccccc/dddddddd/eeeeeeee/ffffffff";
        longest.file(deep);
        due("12 the longest path", longest.ask(0), "1 nodes, 6 looked: " + deep);

        Driver sixty = new Driver();
        sixty.query("");
        sixty.pattern(0, "*/", false);
        for (int i = 0; i < 60; i++) {
            sixty.folder("d" + (char) ('0' + i / 10) + (char) ('0' + i % 10));
        }
        due("12 sixty nodes", sixty.count(0), 60);
        due("12 the last of them", sixty.letter(59, 1) * 256 + sixty.letter(59, 2), '5' * 256 + '9');
        due("12 no more", sixty.letter(60, 0), 0);
    }
}

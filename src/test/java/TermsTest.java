/** The sentences of the document's terms that name a boundary, in its order and in its words: a test for each. */
public final class TermsTest {
    private static final Checks CHECKS = new Checks();
    private static final String LETTERS =
        "abcdefghijklmnopqrstuvwxyzABCDEFGHIJKLMNOPQRSTUVWXYZ0123456789._";
    // Seven sets of the most letters, a letter and one more piece: as long as a text can be.
    private static final String SEVEN_SETS = "[abcdef]".repeat(7);

    public static void main(String[] args) {
        atMost512Calls();
        textOfAtMost60();
        textOfCodes32To126();
        takenTextIsEmptied();
        untakenTextStays();
        nameOf1To8();
        nameOfItsCharacters();
        nameNotDotsAlone();
        pathOfOneToSix();
        treeAtFirstEmpty();
        treeOfAtMost60();
        refusedBeyond60();
        differentNames();
        anyFolderMayBePackage();
        treeAlwaysIsPackage();
        orderByCharacters();
        orderOfBeginnings();
        orderOfContents();
        patternOfOneToSix();
        patternForFoldersOrFiles();
        pieceOf1To8();
        pieceOfItsCharacters();
        setOf1To6();
        setOfItsCharacters();
        doubleStarIsJustThat();
        noTwoDoubleStars();
        noPieceOfDots();
        characterItself();
        starAlsoNone();
        setOneOf();
        doubleStarAlsoNone();
        allNamesAndPieces();
        illAtFirst();
        illAtLength();
        atMost6Queries();
        atMost4And4Patterns();
        packageNeedntBeThere();
        answerBelowPackage();
        answerOfFirstAndNotOthers();
        answerWithoutOtherPackages();
        answerOfNothing();
        lookedAtPackageItself();
        lookedAtNotInOtherPackages();
        lookedAtByFirstPieces();
        lookedAtByDoubleStar();
        touchedByNodes();
        touchedByPackages();
        touchedNotByRefused();
        countedNotLookedAtLast();
        countedMadeAnew();
        countedAllAtFirst();
        countedAllBehindPattern();
        CHECKS.end("TermsTest");
    }

    private static void sentence(String words) {
        CHECKS.sentence(words);
    }

    private static void due(String what, Object got, Object want) {
        CHECKS.due(what, got, want);
    }

    /** A tree with a file at each path, and one query of it with patterns that take in. */
    private static Driver asked(String[] files, String... patterns) {
        Driver d = new Driver();
        for (String path : files) {
            d.file(path);
        }
        d.query("");
        for (String pattern : patterns) {
            due("pattern " + pattern, d.pattern(0, pattern, false), "0");
        }
        return d;
    }

    private static String[] files(String... paths) {
        return paths;
    }

    private static void duePlace(String text, int want) {
        Driver d = new Driver();
        d.query("");
        due("pattern " + text, d.pattern(0, text, false), want < 0 ? "0" : "IAE");
        due("place of " + text, d.place(), want);
    }

    private static void dueFits(String pattern, String path, boolean want) {
        Driver d = asked(files(path), pattern);
        due(pattern + " fits " + path, d.count(0), want ? 1 : 0);
    }

    private static void duePath(String text, boolean want) {
        due("file " + text, !new Driver().file(text).equals("IAE"), want);
        due("folder " + text, !new Driver().folder(text).equals("IAE"), want);
        due("remove " + text, !new Driver().remove(text).equals("IAE"), want);
        due("pack " + text, !new Driver().pack(text, true).equals("IAE"), want);
        due("unpack " + text, !new Driver().pack(text, false).equals("IAE"), want);
        due("query " + text, !new Driver().query(text).equals("IAE"), want || text.isEmpty());
    }

    private static void atMost512Calls() {
        sentence("An object is used for at most 512 calls after it has been made");
        Driver d = new Driver();
        d.query("");
        d.pattern(0, "*", false);
        while (d.callsLeft() > 10) {
            due("file", d.file("a"), "1");
            due("ask", d.count(0), 1);
            due("looked", d.looked(), 1);
            due("remove", d.remove("a"), "1");
            due("ask", d.count(0), 0);
            due("looked", d.looked(), 1);
        }
        d.file("a");
        due("ask", d.count(0), 1);
        while (d.callsLeft() > 1) {
            due("answer", d.letter(0, 0), (int) 'a');
        }
        due("the last of them", d.letter(0, 0), (int) 'a');
    }

    private static void textOfAtMost60() {
        sentence("TEXT takes at most 60 characters");
        Driver d = asked(files("aaaaaaax/yz", "aaaaaaax/yzz"));
        due("60", d.type(SEVEN_SETS + "x/yz"), true);
        due("61", d.type('z'), false);
        due("61 again", d.type('z'), false);
        due("the 60 are a pattern", d.pattern(0, "", false), "0");
        due("without the 61st", d.ask(0), "1 nodes, 2 looked: aaaaaaax/yz");
        due("60 again", d.type("[".repeat(60)), true);
        due("61 again", d.type('['), false);
    }

    private static void textOfCodes32To126() {
        sentence("characters with codes 32 .. 126");
        GlobRows rows = new GlobRows();
        for (int code = 0; code <= Character.MAX_VALUE; code++) {
            if (code % 50 == 0) {
                rows = new GlobRows();
            }
            due("code " + code, rows.type((char) code), code >= 32 && code <= 126);
        }
    }

    // The folder f is there: what is left of an earlier text would make another path of it.
    private static void dueEmptied(Driver d, String call, String got, String want) {
        due(call, got, want);
        due("text behind " + call, d.folder("f"), "0");
    }

    private static void takenTextIsEmptied() {
        sentence("a call that takes it empties it, in any case");
        Driver d = new Driver();
        d.folder("f");
        dueEmptied(d, "file, made", d.file("a"), "1");
        dueEmptied(d, "file, there", d.file("a"), "0");
        dueEmptied(d, "file, no path", d.file("b/"), "IAE");
        dueEmptied(d, "file, refused", d.file("a/b"), "ISE");
        dueEmptied(d, "folder, made", d.folder("c"), "1");
        dueEmptied(d, "folder, there", d.folder("c"), "0");
        dueEmptied(d, "folder, no path", d.folder("b/"), "IAE");
        dueEmptied(d, "folder, refused", d.folder("a"), "ISE");
        dueEmptied(d, "pack, on", d.pack("c", true), "0");
        dueEmptied(d, "pack, is so", d.pack("c", true), "ISE");
        dueEmptied(d, "pack, off", d.pack("c", false), "0");
        dueEmptied(d, "pack, no path", d.pack("c/", false), "IAE");
        dueEmptied(d, "remove, there", d.remove("c"), "1");
        dueEmptied(d, "remove, nothing", d.remove("c"), "ISE");
        dueEmptied(d, "remove, no path", d.remove("c/"), "IAE");
        dueEmptied(d, "pattern, no query", d.pattern(0, "a", false), "IAE");
        dueEmptied(d, "query", d.query("a"), "0");
        dueEmptied(d, "query, no path", d.query("a/"), "IAE");
        dueEmptied(d, "pattern, well", d.pattern(0, "a", false), "0");
        dueEmptied(d, "pattern, ill", d.pattern(0, "a//", false), "IAE");
        for (int i = 0; i < 5; i++) {
            d.query("");
            d.pattern(0, "a", false);
        }
        dueEmptied(d, "query, refused", d.query("a"), "ISE");
        dueEmptied(d, "pattern, refused", d.pattern(0, "a", false), "ISE");
        for (int i = 0; i < 58; i++) {
            d.file("n" + i);
        }
        dueEmptied(d, "file, too many", d.file("b"), "ISE");
        dueEmptied(d, "folder, too many", d.folder("b"), "ISE");
    }

    private static void untakenTextStays() {
        sentence("a call that takes it");
        Driver d = new Driver();
        d.query("");
        d.type("a");
        d.place();
        d.count(0);
        d.count(1);
        d.looked();
        d.letter(0, 0);
        d.type("\n");
        due("the text stayed behind the others", d.file("b"), "1");
        due("and is whole", d.remove("ab"), "1");
    }

    private static void nameOf1To8() {
        sentence("A NAME: 1 to 8 characters");
        for (int length = 0; length <= 20; length++) {
            String name = "x".repeat(length);
            boolean want = length >= 1 && length <= 8;
            duePath(name, want);
            duePath("a/" + name, want);
            duePath(name + "/a", want);
        }
    }

    private static void nameOfItsCharacters() {
        sentence("characters a .. z, A .. Z, 0 .. 9, . _");
        for (char c = 32; c <= 126; c++) {
            boolean want = LETTERS.indexOf(c) >= 0;
            duePath(c + "x", want);
            duePath("x" + c, want);
            duePath("x" + c + "x", want || c == '/');
            duePath("xxxxxxx" + c, want);
        }
    }

    private static void nameNotDotsAlone() {
        sentence("but not . or .. alone");
        for (String dots : new String[] {".", ".."}) {
            duePath(dots, false);
            duePath("a/" + dots, false);
            duePath(dots + "/a", false);
            duePath("a/" + dots + "/b", false);
            duePath(dots + "a", true);
            duePath("a" + dots, true);
            duePath(dots + "_", true);
        }
        duePath("...", true);
        duePath("........", true);
    }

    private static void pathOfOneToSix() {
        sentence("A PATH: one to six NAMES with / between");
        String path = "a";
        for (int names = 1; names <= 10; names++) {
            duePath(path, names <= 6);
            duePath(path + "/", false);
            duePath("/" + path, false);
            path += "/a";
        }
        duePath("", false);
        duePath("/", false);
        duePath("//", false);
        duePath("a//b", false);
        duePath("12345678/12345678/12345678/12345678/12345678/12345678", true);
    }

    private static void treeAtFirstEmpty() {
        sentence("The TREE is a folder, at first empty");
        Driver d = asked(files(), "**", "**/");
        due("no nodes", d.ask(0), "0 nodes, 1 looked: ");
        due("nothing to remove", d.remove("a"), "ISE");
        due("nothing to pack", d.pack("a", true), "ISE");
    }

    private static Driver withNodes(int nodes) {
        Driver d = new Driver();
        for (int i = 0; i < nodes; i++) {
            String name = "" + (char) ('a' + i / 10) + (char) ('0' + i % 10);
            due("node " + name, i % 2 == 0 ? d.file(name) : d.folder(name), "1");
        }
        return d;
    }

    private static void treeOfAtMost60() {
        sentence("it has at most 60 NODES (itself not counted)");
        String[] paths = {"", "1", "1/2", "1/2/3", "1/2/3/4", "1/2/3/4/5", "1/2/3/4/5/6"};
        for (int more = 1; more <= 6; more++) {
            due("files, 60", withNodes(60 - more).file(paths[more]), "" + more);
            due("files, 61", withNodes(61 - more).file(paths[more]), "ISE");
            due("folders, 60", withNodes(60 - more).folder(paths[more]), "" + more);
            due("folders, 61", withNodes(61 - more).folder(paths[more]), "ISE");
        }
    }

    private static void refusedBeyond60() {
        sentence("there would be too many");
        Driver d = withNodes(58);
        d.query("");
        d.pattern(0, "**/", false);
        int folders = d.count(0);
        due("three more", d.file("1/2/3"), "ISE");
        due("three more in a folder", d.folder("a1/2/3/4"), "ISE");
        due("made no folder", d.count(0), folders);
        due("touched none", d.looked(), 0);
        due("two more", d.file("a1/2"), "1");
        due("the 60th", d.folder("a1/3"), "1");
        due("no 61st file", d.file("a1/4"), "ISE");
        due("no 61st folder", d.folder("a1/4"), "ISE");
        due("what is there may be again", d.file("a1/2"), "0");
        due("what is there may be again", d.folder("a1/3"), "0");
        due("a file is there", d.folder("a1/2"), "ISE");
        due("one goes", d.remove("a1/2"), "1");
        due("one may come", d.folder("a1/4"), "1");
        due("no more", d.folder("a1/5"), "ISE");
        due("three go", d.remove("a1"), "3");
        due("four may not come", d.file("1/2/3/4"), "ISE");
        due("three may", d.file("1/2/3"), "3");
    }

    private static void differentNames() {
        sentence("in each folder with different NAMES");
        Driver d = new Driver();
        due("a folder", d.folder("a"), "1");
        due("no file of its name", d.file("a"), "ISE");
        due("a file", d.file("b"), "1");
        due("no folder of its name", d.folder("b"), "ISE");
        due("the name in another folder", d.file("a/a"), "1");
        due("and in another", d.folder("a/b"), "1");
        due("other letters", d.file("A"), "1");
        due("a longer name", d.file("aa"), "1");
    }

    private static void anyFolderMayBePackage() {
        sentence("Any folder may be a PACKAGE");
        Driver d = new Driver();
        d.folder("1/2/3/4/5/6");
        String path = "1/2/3/4/5/6";
        for (int length = path.length(); length > 0; length -= 2) {
            due("pack " + path.substring(0, length), d.pack(path.substring(0, length), true), "0");
        }
        d.query(path);
        d.query("1/2/3/4/5");
        d.pattern(1, "**/", false);
        due("the deepest", d.ask(0), "0 nodes, 1 looked: ");
        due("the one above it", d.ask(1), "0 nodes, 1 looked: ");
    }

    private static void treeAlwaysIsPackage() {
        sentence("the tree always is one");
        Driver d = asked(files("a"), "*");
        due("it can't become one", d.pack("", true), "IAE");
        due("nor none", d.pack("", false), "IAE");
        due("and answers", d.ask(0), "1 nodes, 1 looked: a");
    }

    private static void orderByCharacters() {
        sentence("PATHS are in the order of their NAMES, one by one (by characters");
        Driver d = asked(files("z", "a", "_", "Z", "A", "9", "0", ".x"), "*");
        due("by codes", d.ask(0), "8 nodes, 1 looked: .x 0 9 A Z _ a z");
        Driver later = asked(files("aab", "aba", "aaa", "baa", "aB", "ab"), "*");
        due("by the first that differs", later.ask(0), "6 nodes, 1 looked: aB aaa aab ab aba baa");
    }

    private static void orderOfBeginnings() {
        sentence("a NAME that another begins with comes first");
        Driver d = asked(files("abc", "a", "ab.", "ab", "abcdefgh", "abcdefg"), "*");
        due("order", d.ask(0), "6 nodes, 1 looked: a ab ab. abc abcdefg abcdefgh");
    }

    private static void orderOfContents() {
        sentence("what a folder has in it comes behind it)");
        Driver d = asked(files("a.c", "a/z", "a/b/c", "a0", "a/b.c", "b"), "**", "**/");
        // By whole texts a.c would come before a/b, since . comes before / .
        due("order", d.ask(0), "8 nodes, 3 looked: a a/b a/b/c a/b.c a/z a.c a0 b");
    }

    private static void patternOfOneToSix() {
        sentence("A PATTERN: one to six PIECES with / between, perhaps a / behind");
        String pattern = "a";
        for (int pieces = 1; pieces <= 10; pieces++) {
            duePlace(pattern, pieces <= 6 ? -1 : 12);
            duePlace(pattern + "/", pieces <= 6 ? -1 : 12);
            duePlace("/" + pattern, 0);
            duePlace(pattern + "//", pieces <= 6 ? pattern.length() + 1 : 12);
            pattern += "/a";
        }
        duePlace("", 0);
        duePlace("/", 0);
        dueFits("1/2/3/4/5/6", "1/2/3/4/5/6", true);
        dueFits("**/2/**/4/**/6", "2/4/6", true);
    }

    private static void patternForFoldersOrFiles() {
        sentence("(then it FITS folders alone, else files alone)");
        Driver files = asked(files("a/a", "b"), "*", "*/*");
        due("files", files.ask(0), "2 nodes, 2 looked: a/a b");
        Driver folders = asked(files("a/a", "b"), "*/", "*/*/");
        due("folders", folders.ask(0), "1 nodes, 2 looked: a");
        Driver both = asked(files("a/a", "b"), "**", "**/");
        both.pattern(0, "a", true);
        due("a file's pattern leaves the folder", both.ask(0), "3 nodes, 2 looked: a a/a b");
        both.pattern(0, "**/a/", true);
        due("a folder's pattern leaves the file", both.ask(0), "2 nodes, 2 looked: a/a b");
    }

    private static void pieceOf1To8() {
        sentence("A PIECE: ** , or 1 to 8 of");
        for (String part : new String[] {"a", "[ab]"}) {
            for (int n = 1; n <= 12; n++) {
                String piece = part.repeat(n);
                int ill = 8 * part.length();
                duePlace(piece, n <= 8 ? -1 : ill);
                duePlace("b/" + piece, n <= 8 ? -1 : ill + 2);
                duePlace("**/" + piece + "/", n <= 8 ? -1 : ill + 3);
            }
        }
        for (int stars = 1; stars <= 12; stars++) {
            duePlace("a" + "*".repeat(stars), stars <= 7 ? -1 : 8);
        }
        duePlace("*a*a*a*a", -1);
        duePlace("*a*a*a*a*", 8);
        duePlace("a//b", 2);
    }

    private static void pieceOfItsCharacters() {
        sentence("a NAME's character; * ; a SET");
        for (char c = 32; c <= 126; c++) {
            if (c == '/' || c == '[') {
                continue;
            }
            boolean well = LETTERS.indexOf(c) >= 0 || c == '*';
            duePlace(c + "x", well ? -1 : 0);
            duePlace("x" + c, well ? -1 : 1);
            duePlace("x" + c + "x", well ? -1 : 1);
            duePlace("x/x" + c + "/x", well ? -1 : 3);
            duePlace("xxxxxxx" + c, well ? -1 : 7);
        }
        duePlace("x[x", 3);
        duePlace("x[x]", -1);
        duePlace("x[x]*x", -1);
    }

    private static void setOf1To6() {
        sentence("a SET: [ , 1 to 6 characters of NAMES, ]");
        for (int n = 0; n <= 12; n++) {
            String inside = "abcdefghijkl".substring(0, n);
            int ill = n == 0 ? 1 : n <= 6 ? -1 : 7;
            duePlace("[" + inside + "]", ill);
            duePlace("x[" + inside + "]x", ill < 0 ? -1 : ill + 1);
            duePlace("[" + inside, n <= 6 ? n + 1 : 7);
        }
        duePlace("[aaaaaa]", -1);
        duePlace("[aaaaaaa]", 7);
    }

    private static void setOfItsCharacters() {
        sentence("characters of NAMES");
        for (char c = 32; c <= 126; c++) {
            boolean letter = LETTERS.indexOf(c) >= 0;
            duePlace("[" + c + "]", letter ? -1 : 1);
            duePlace("[x" + c + "]", letter ? -1 : c == ']' ? 3 : 2);
            duePlace("[xxxxx" + c + "]", letter ? -1 : c == ']' ? 7 : 6);
            if (letter) {
                dueFits("[" + c + "]x", c + "x", true);
                dueFits("[" + c + "]x", (c == 'y' ? "z" : "y") + "x", false);
            }
        }
    }

    private static void doubleStarIsJustThat() {
        sentence("what begins with ** is just that");
        for (char c = 33; c <= 126; c++) {
            duePlace("**" + c, c == '/' ? -1 : 2);
            duePlace("a/**" + c + "b", c == '/' ? -1 : 4);
        }
        duePlace("**", -1);
        duePlace("a**", -1);
        duePlace("[a]**", -1);
        dueFits("a**", "a", true);
        dueFits("a**", "ab", true);
        dueFits("a**", "a/b", false);
    }

    private static void noTwoDoubleStars() {
        sentence("no two such PIECES one behind the other");
        duePlace("**/**", 3);
        duePlace("**/**/", 3);
        duePlace("**/**/**", 3);
        duePlace("**/**a", 3);
        duePlace("**/***", 3);
        duePlace("a/**/**", 5);
        duePlace("a/b/c/d/**/**", 11);
        duePlace("**/*/**", -1);
        duePlace("**/a/**", -1);
        duePlace("**/*", -1);
        duePlace("*/**", -1);
        duePlace("a**/**", -1);
        duePlace("**/a**", -1);
        duePlace("*/*", -1);
    }

    private static void noPieceOfDots() {
        sentence("no PIECE . or ..");
        for (String dots : new String[] {".", ".."}) {
            duePlace(dots, 0);
            duePlace(dots + "/", 0);
            duePlace(dots + "/a", 0);
            duePlace("a/" + dots, 2);
            duePlace("**/" + dots + "/**", 3);
            duePlace("a/" + dots + "/ ", 2);
            duePlace(dots + "/" + dots, 0);
            duePlace(dots + "a", -1);
            duePlace("a" + dots, -1);
            duePlace(dots + "*", -1);
            duePlace("*" + dots, -1);
            duePlace("[" + dots + "]", -1);
            duePlace(dots + "[.]", -1);
            duePlace(dots + " ", dots.length());
        }
        duePlace("...", -1);
        duePlace("[.][.]", -1);
    }

    private static void characterItself() {
        sentence("a character itself");
        for (int i = 0; i < LETTERS.length(); i++) {
            char c = LETTERS.charAt(i);
            dueFits("x" + c, "x" + c, true);
            dueFits("x" + c, "x" + LETTERS.charAt((i + 1) % LETTERS.length()), false);
        }
        dueFits("a.c", "abc", false);
        dueFits("aB", "ab", false);
    }

    private static void starAlsoNone() {
        sentence("* any characters, also none");
        dueFits("a*", "a", true);
        dueFits("*a", "a", true);
        dueFits("a*b", "ab", true);
        dueFits("a*b", "a.x_9Yzb", true);
        dueFits("*", "abcdefgh", true);
        dueFits("*", "...", true);
        dueFits("a*******", "a", true);
        dueFits("*b*b*b*b", "bbbb", true);
        dueFits("*b*b*b*b", "bbb", false);
        dueFits("*ab*ab", "abab", true);
        dueFits("*ab*ab", "ab", false);
        dueFits("*ab", "aab", true);
        dueFits("a*", "ba", false);
        dueFits("*a", "ab", false);
        dueFits("*", "a/b", false);
        dueFits("a*b", "a/b", false);
    }

    private static void setOneOf() {
        sentence("a SET one of its characters");
        for (char c = 'a'; c <= 'f'; c++) {
            dueFits("[abcdef]", "" + c, true);
        }
        dueFits("[abcdef]", "g", false);
        dueFits("[abcdef]", "A", false);
        dueFits("[ab]", "ab", false);
        dueFits("x[ab]", "x", false);
        dueFits("[aa]", "a", true);
        dueFits("[aa]", "aa", false);
        dueFits("[ab][ba]", "ab", true);
        dueFits("[ab]*[ba]", "a", false);
        dueFits("[.]a", ".a", true);
        dueFits("[.]a", "xa", false);
        dueFits("[ab][ab][ab][ab][ab][ab][ab][ab]", "abbaabba", true);
        dueFits("[ab][ab][ab][ab][ab][ab][ab][ab]", "abbaabb", false);
        dueFits("[ab][ab][ab][ab][ab][ab][ab][ab]", "abbaabbc", false);
    }

    private static void doubleStarAlsoNone() {
        sentence("** any NAMES, also none");
        dueFits("**", "a", true);
        dueFits("**", "1/2/3/4/5/6", true);
        dueFits("**/a", "a", true);
        dueFits("**/6", "1/2/3/4/5/6", true);
        dueFits("a/**", "a", true);
        dueFits("1/**", "1/2/3/4/5/6", true);
        dueFits("a/**/b", "a/b", true);
        dueFits("1/**/6", "1/2/3/4/5/6", true);
        dueFits("**/a/**", "a", true);
        dueFits("**/3/**/5/**", "1/2/3/4/5/6", true);
        dueFits("**/5/**/3/**", "1/2/3/4/5/6", false);
        dueFits("**/a", "b", false);
        dueFits("a/**", "b/a", false);
        dueFits("a/**/b", "a", false);
        dueFits("a/**/a", "a", false);
        dueFits("**/a/b", "a/a/b", true);
        dueFits("**/*/**/*/**", "a", false);
        dueFits("**/*/**/*/**", "a/b", true);
    }

    private static void allNamesAndPieces() {
        sentence("A PATTERN FITS a path if its PIECES fit the path's NAMES one behind the other, all of them");
        dueFits("a/b", "a/b", true);
        dueFits("a/b", "a", false);
        dueFits("a/b", "b", false);
        dueFits("a/b", "a/b/c", false);
        dueFits("a/b", "c/a/b", false);
        dueFits("a/b", "b/a", false);
        dueFits("*/*/*/*/*/*", "1/2/3/4/5/6", true);
        dueFits("*/*/*/*/*", "1/2/3/4/5/6", false);
        dueFits("*/*/*/*/*/*", "1/2/3/4/5", false);
        dueFits("ab", "a/b", false);
    }

    private static void illAtFirst() {
        sentence("ILL at the first character that can't stand there, or begins a PIECE that can't be");
        duePlace(" /..", 0);
        duePlace("../ ", 0);
        duePlace("a /**/**", 1);
        duePlace("**/**/ ", 3);
        duePlace("**/ **", 3);
        duePlace("abcdefgh /", 8);
        duePlace("abcdefg /", 7);
        duePlace("abcdefgh[", 8);
        duePlace("abcdefgh]", 8);
        duePlace("abcdefg[", 8);
        duePlace("a/b/c/d/e/f/ ", 12);
        duePlace("a/b/c/d/e/f/..", 12);
        duePlace("a/b/c/d/e/f/**", 12);
        duePlace("a/b/c/d/e/**/**", 13);
        duePlace("a/b/c/d/e/./f", 10);
        duePlace("a/b/c/d/e/f/abcdefghi", 12);
        duePlace("a/b/c/d/e/ /f", 10);
        duePlace("[abcdef/", 7);
        duePlace("[a[", 2);
        duePlace("a]", 1);
        duePlace("[a]]", 3);
    }

    private static void illAtLength() {
        sentence("at its length, if it ends too early");
        duePlace("", 0);
        duePlace("[", 1);
        duePlace("[a", 2);
        duePlace("[abcdef", 7);
        duePlace("a/[", 3);
        duePlace("**/[a", 5);
        duePlace("abcdefg[a", 9);
        duePlace(SEVEN_SETS + "/a[b", 60);
        duePlace(SEVEN_SETS + "/ab[", 60);
        duePlace(SEVEN_SETS + "/abc", -1);
        duePlace("a/", -1);
    }

    private static void atMost6Queries() {
        sentence("QUERIES, at most 6, numbered from 0");
        Driver d = new Driver();
        for (int i = 0; i < 6; i++) {
            due("not yet", d.count(i), -1);
            due("query " + i, d.query(i % 2 == 0 ? "" : "a"), "" + i);
            due("now", d.count(i), 0);
        }
        due("a seventh", d.query(""), "ISE");
        due("a seventh", d.query("a"), "ISE");
        due("isn't there", d.count(6), -1);
        due("takes no pattern", d.pattern(6, "a", false), "IAE");
        due("the sixth takes one", d.pattern(5, "a", false), "0");
    }

    private static void atMost4And4Patterns() {
        sentence("have at most 4 PATTERNS that take in and 4 that leave out");
        Driver d = new Driver();
        String[] files = {"i0", "i1", "i2", "i3", "i4"};
        for (String file : files) {
            d.file(file);
        }
        d.query("");
        d.query("");
        for (int i = 0; i < 4; i++) {
            due("in " + i, d.pattern(0, files[i], false), "0");
            due("taken in", d.count(0), i + 1);
        }
        due("a fifth", d.pattern(0, files[4], false), "ISE");
        due("isn't taken in", d.count(0), 4);
        for (int i = 0; i < 4; i++) {
            due("out " + i, d.pattern(0, i == 3 ? files[0] : "x", true), "0");
        }
        due("left out", d.count(0), 3);
        due("a fifth", d.pattern(0, files[1], true), "ISE");
        due("isn't left out", d.ask(0), "3 nodes, 0 looked: i1 i2 i3");
        for (int i = 0; i < 4; i++) {
            due("out first " + i, d.pattern(1, "x", true), "0");
        }
        due("a fifth", d.pattern(1, "x", true), "ISE");
        due("in has room", d.pattern(1, "*", false), "0");
        due("taken in", d.count(1), 5);
    }

    private static void packageNeedntBeThere() {
        sentence("(by its PATH, or the tree; it needn't be there)");
        Driver d = new Driver();
        due("nothing is there", d.query("p/q"), "0");
        d.file("f");
        due("a file", d.query("f"), "1");
        d.folder("g");
        due("a folder, no package", d.query("g"), "2");
        due("below a file", d.query("f/x"), "3");
        for (int i = 0; i < 4; i++) {
            d.pattern(i, "**", false);
            due("asked", d.ask(i), "0 nodes, 0 looked: ");
        }
        d.file("p/q/r");
        d.pack("p/q", true);
        due("now there", d.ask(0), "1 nodes, 1 looked: r");
        d.remove("f");
        d.file("f/x/y");
        d.pack("f", true);
        due("now a folder", d.ask(1), "1 nodes, 2 looked: x/y");
        d.pack("f/x", true);
        due("a package in it", d.ask(3), "1 nodes, 1 looked: y");
    }

    private static void answerBelowPackage() {
        sentence("The ANSWER: nodes below the PACKAGE, by their paths from the PACKAGE on");
        Driver d = new Driver();
        d.file("a/p/b/f");
        d.file("a/g");
        d.pack("a/p", true);
        d.query("a/p");
        d.pattern(0, "**", false);
        d.pattern(0, "**/", false);
        due("neither it nor what is beside it", d.ask(0), "2 nodes, 2 looked: b b/f");
        d.query("a/p");
        d.pattern(1, "a/**", false);
        d.pattern(1, "p/**", false);
        due("its own path is no part of theirs", d.ask(1), "0 nodes, 1 looked: ");
    }

    private static void answerOfFirstAndNotOthers() {
        sentence("that one of the first FITS and none of the others");
        Driver d = asked(files("a", "b", "c"));
        due("no first", d.ask(0), "0 nodes, 1 looked: ");
        d.pattern(0, "c", true);
        due("others alone", d.ask(0), "0 nodes, 1 looked: ");
        d.pattern(0, "*", false);
        due("one of each", d.ask(0), "2 nodes, 1 looked: a b");
        d.pattern(0, "b", false);
        due("two that fit one node", d.ask(0), "2 nodes, 1 looked: a b");
        d.pattern(0, "b", true);
        due("in by two, out by one", d.ask(0), "1 nodes, 1 looked: a");
    }

    private static void answerWithoutOtherPackages() {
        sentence("but none that is, or lies in, another PACKAGE below it");
        Driver d = asked(files("p/f", "p/q/g", "p/q/r/h", "s"), "**", "**/");
        d.pack("p/q", true);
        due("one", d.ask(0), "3 nodes, 2 looked: p p/f s");
        d.pack("p/q/r", true);
        due("one in another", d.ask(0), "3 nodes, 0 looked: p p/f s");
        d.pack("p/q", false);
        due("a folder between", d.ask(0), "5 nodes, 2 looked: p p/f p/q p/q/g s");
        d.query("p/q/r");
        d.pattern(1, "**", false);
        due("those above it are no matter", d.ask(1), "1 nodes, 1 looked: h");
    }

    private static void answerOfNothing() {
        sentence("Nothing, if there is no such folder, or it is none");
        Driver d = new Driver();
        d.file("p/f");
        d.pack("p", true);
        d.query("p");
        d.pattern(0, "**", false);
        due("a package", d.ask(0), "1 nodes, 1 looked: f");
        d.pack("p", false);
        due("none", d.ask(0), "0 nodes, 0 looked: ");
        d.pack("p", true);
        due("a package", d.ask(0), "1 nodes, 1 looked: f");
        d.remove("p");
        due("no folder", d.ask(0), "0 nodes, 0 looked: ");
        d.file("p");
        due("a file", d.ask(0), "0 nodes, 0 looked: ");
        d.remove("p");
        d.file("p/f");
        due("a folder made anew is none", d.ask(0), "0 nodes, 0 looked: ");
    }

    private static void lookedAtPackageItself() {
        sentence("LOOKED AT are, when a QUERY is asked, the PACKAGE itself");
        Driver d = asked(files("a/b"));
        due("without any pattern", d.ask(0), "0 nodes, 1 looked: ");
        d.pattern(0, "**", true);
        due("with one that leaves out", d.ask(0), "0 nodes, 1 looked: ");
        d.pattern(0, "z", false);
        due("with one that fits nothing", d.ask(0), "0 nodes, 1 looked: ");
    }

    private static void lookedAtNotInOtherPackages() {
        sentence("and folders below it (that aren't, nor lie in, another PACKAGE)");
        Driver d = asked(files("p/q/r/f", "s/g"), "**");
        d.pack("p/q", true);
        due("the tree, p, s", d.ask(0), "1 nodes, 3 looked: s/g");
        d.pack("p/q", false);
        due("p was touched, q and r weren't looked at", d.ask(0), "2 nodes, 3 looked: p/q/r/f s/g");
    }

    private static void dueLooked(String pattern, int want) {
        Driver d = asked(files("a/b/c/d/e/f", "x/b/g", "a/h"), pattern);
        d.count(0);
        due("looked at by " + pattern, d.looked(), want);
    }

    private static void lookedAtByFirstPieces() {
        sentence("whose path from the PACKAGE on fits the first PIECES, so that at least one PIECE is left");
        dueLooked("a", 1);
        dueLooked("a/", 1);
        dueLooked("a/b", 2);
        dueLooked("a/b/", 2);
        dueLooked("a/b/c", 3);
        dueLooked("a/b/c/d", 4);
        dueLooked("a/b/c/d/e", 5);
        dueLooked("a/b/c/d/e/f", 6);
        dueLooked("a/z/c/d/e/f", 2);
        dueLooked("z/b/c", 1);
        dueLooked("*", 1);
        dueLooked("*/*", 3);
        dueLooked("*/*/*", 5);
        dueLooked("[ax]/b/*", 5);
        dueLooked("*/*/*/*", 6);
    }

    private static void lookedAtByDoubleStar() {
        sentence("or a ** has been begun");
        dueLooked("**", 8);
        dueLooked("**/", 8);
        dueLooked("**/z", 8);
        dueLooked("a/**", 6);
        dueLooked("a/**/", 6);
        dueLooked("a/**/b", 6);
        dueLooked("a/**/b/z", 6);
        dueLooked("a/b/**", 6);
        dueLooked("x/**", 3);
        dueLooked("x/b/**", 3);
        dueLooked("x/b/z/**", 3);
        dueLooked("z/**", 1);
        dueLooked("*/b/**", 8);
        dueLooked("*/*/c/**", 8);
        dueLooked("a/b/c/d/e/**", 6);
    }

    private static void touchedByNodes() {
        sentence("TOUCHED is a folder when a node comes into it or goes from it");
        Driver d = asked(files("a/b/f", "c/g"), "**");
        d.count(0);
        d.file("a/b/h");
        due("a file comes", d.ask(0), "3 nodes, 1 looked: a/b/f a/b/h c/g");
        d.folder("a/b/k");
        due("a folder comes, and is new", d.ask(0), "3 nodes, 2 looked: a/b/f a/b/h c/g");
        d.remove("a/b/k");
        due("a folder goes", d.ask(0), "3 nodes, 1 looked: a/b/f a/b/h c/g");
        d.remove("a/b/h");
        due("a file goes", d.ask(0), "2 nodes, 1 looked: a/b/f c/g");
        d.remove("a/b");
        due("a folder goes with all in it", d.ask(0), "1 nodes, 1 looked: c/g");
        d.file("h");
        due("into the tree itself", d.ask(0), "2 nodes, 1 looked: c/g h");
        d.file("c/z");
        d.remove("c/z");
        due("one that came and went", d.ask(0), "2 nodes, 1 looked: c/g h");
        d.file("c/y");
        d.file("c/z");
        due("twice is once", d.ask(0), "4 nodes, 1 looked: c/g c/y c/z h");
        due("and not a second time", d.ask(0), "4 nodes, 0 looked: c/g c/y c/z h");
    }

    private static void touchedByPackages() {
        sentence("or a folder in it becomes a PACKAGE or none");
        Driver d = asked(files("a/b/f", "a/b/c/g"), "a/*");
        due("the tree, a", d.ask(0), "0 nodes, 2 looked: ");
        d.pack("a/b", true);
        due("a", d.ask(0), "0 nodes, 1 looked: ");
        d.pack("a/b", false);
        due("a again", d.ask(0), "0 nodes, 1 looked: ");
        d.pack("a/b/c", true);
        due("b isn't looked at, a isn't touched", d.ask(0), "0 nodes, 0 looked: ");
        d.pack("a", true);
        due("the tree; a is no more looked at", d.ask(0), "0 nodes, 1 looked: ");
        d.query("a");
        d.pattern(1, "**", false);
        due("a, b", d.ask(1), "1 nodes, 2 looked: b/f");
        d.pack("a", false);
        d.pack("a", true);
        due("the folder itself isn't touched", d.ask(1), "1 nodes, 0 looked: b/f");
        d.pack("a/b/c", false);
        due("b was touched, c wasn't looked at", d.ask(1), "2 nodes, 2 looked: b/c/g b/f");
        d.pack("a/b/c", true);
        d.pack("a/b/c", false);
        due("b was touched, c was looked at", d.ask(1), "2 nodes, 1 looked: b/c/g b/f");
    }

    private static void touchedNotByRefused() {
        sentence("TOUCHED is a folder when a node comes into it");
        Driver d = asked(files("a/b/f", "c/g"), "**");
        d.folder("c/k");
        d.count(0);
        String[] same = {
            d.file("a/b/f"), d.folder("a/b"), d.folder("c/k"), d.folder("c"),
        };
        due("what is there", String.join(" ", same), "0 0 0 0");
        due("touches nothing", d.ask(0), "2 nodes, 0 looked: a/b/f c/g");
        String[] refused = {
            d.file("a/b"), d.file("c/g/h"), d.folder("c/g"), d.folder("c/g/h"), d.remove("c/h"), d.remove("a/b/f/x"),
            d.pack("a/b", false), d.pack("c/g", true), d.pack("c/h", true),
        };
        due("what is refused", String.join(" ", refused), "ISE ISE ISE ISE ISE ISE ISE ISE ISE");
        due("touches nothing", d.ask(0), "2 nodes, 0 looked: a/b/f c/g");
        String[] noPaths = {d.file("a/b/"), d.folder("c//k"), d.remove("c/"), d.pack("/c", true), d.pack("", true)};
        due("what is no path", String.join(" ", noPaths), "IAE IAE IAE IAE IAE");
        due("touches nothing", d.ask(0), "2 nodes, 0 looked: a/b/f c/g");
    }

    private static void countedNotLookedAtLast() {
        sentence("how many of the folders that it LOOKS AT weren't LOOKED AT when it was asked last");
        Driver d = new Driver();
        d.file("p/a/f");
        d.file("p/b/g");
        d.pack("p", true);
        d.query("p");
        d.pattern(0, "**", false);
        due("p, a, b", d.ask(0), "2 nodes, 3 looked: a/f b/g");
        d.pack("p/a", true);
        due("p", d.ask(0), "1 nodes, 1 looked: b/g");
        due("nothing", d.ask(0), "1 nodes, 0 looked: b/g");
        d.pack("p/a", false);
        due("p, and a, looked at once but not last", d.ask(0), "2 nodes, 2 looked: a/f b/g");
        d.pack("p", false);
        due("nothing is looked at", d.ask(0), "0 nodes, 0 looked: ");
        d.pack("p", true);
        due("none was looked at last", d.ask(0), "2 nodes, 3 looked: a/f b/g");
        d.query("p");
        d.pattern(1, "**", false);
        due("each query by itself", d.ask(1), "2 nodes, 3 looked: a/f b/g");
        d.file("p/a/h");
        due("touched", d.ask(1), "3 nodes, 1 looked: a/f a/h b/g");
        due("for the other too", d.ask(0), "3 nodes, 1 looked: a/f a/h b/g");
    }

    private static void countedMadeAnew() {
        sentence("or have been TOUCHED, or made anew, since");
        Driver d = asked(files("a/b/f", "c/g"), "**");
        due("all four", d.ask(0), "2 nodes, 4 looked: a/b/f c/g");
        d.remove("a");
        d.file("a/b/f");
        due("the tree, a, b", d.ask(0), "2 nodes, 3 looked: a/b/f c/g");
        d.remove("a/b");
        d.folder("a/b");
        due("a, b", d.ask(0), "1 nodes, 2 looked: c/g");
        d.remove("a/b");
        d.file("a/b");
        due("a; b is no folder now", d.ask(0), "2 nodes, 1 looked: a/b c/g");
    }

    private static void countedAllAtFirst() {
        sentence("(all, at first");
        Driver d = asked(files("a/b/f"), "**");
        due("the first query", d.ask(0), "1 nodes, 3 looked: a/b/f");
        for (int i = 1; i < 6; i++) {
            d.query("");
            d.pattern(i, "**", false);
        }
        for (int i = 5; i >= 1; i--) {
            due("query " + i, d.ask(i), "1 nodes, 3 looked: a/b/f");
            due("query " + i + " again", d.ask(i), "1 nodes, 0 looked: a/b/f");
        }
        due("the first again", d.ask(0), "1 nodes, 0 looked: a/b/f");
    }

    private static void countedAllBehindPattern() {
        sentence("and behind a new PATTERN)");
        Driver d = asked(files("a/b/f"), "**");
        d.query("");
        d.pattern(1, "**", false);
        d.count(0);
        d.count(1);
        d.pattern(0, "*", false);
        due("one that takes in", d.ask(0), "1 nodes, 3 looked: a/b/f");
        due("once", d.ask(0), "1 nodes, 0 looked: a/b/f");
        d.pattern(0, "*", true);
        due("one that leaves out", d.ask(0), "1 nodes, 3 looked: a/b/f");
        d.pattern(0, "*", true);
        due("the same once more", d.ask(0), "1 nodes, 3 looked: a/b/f");
        due("of another query", d.ask(1), "1 nodes, 0 looked: a/b/f");
        d.pattern(0, "a b", true);
        d.pattern(0, "", false);
        d.pattern(7, "a", false);
        due("an ill one is none", d.ask(0), "1 nodes, 0 looked: a/b/f");
        d.pattern(0, "x", true);
        d.pattern(0, "x", true);
        d.count(0);
        due("a fifth", d.pattern(0, "x", true), "ISE");
        due("is none", d.ask(0), "1 nodes, 0 looked: a/b/f");
        d.pattern(0, "x", false);
        d.pattern(0, "y", false);
        due("two are as one", d.ask(0), "1 nodes, 3 looked: a/b/f");
    }
}

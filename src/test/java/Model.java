import java.util.ArrayList;
import java.util.Comparator;
import java.util.HashSet;
import java.util.List;
import java.util.Set;
import java.util.TreeMap;
import java.util.regex.Matcher;
import java.util.regex.Pattern;

/** A second reading of the document, as plain as can be and without any thought of speed. */
final class Model {
    private static final String LETTER = "[a-zA-Z0-9._]";
    private static final String SET = "\\[" + LETTER + "{1,6}\\]";
    private static final String PART = "(?:" + LETTER + "|\\*|" + SET + ")";
    private static final String SOLID = "(?:" + LETTER + "|" + SET + ")";
    private static final String PIECE =
        "(?:\\*\\*|" + SOLID + PART + "{0,7}|\\*(?:" + SOLID + PART + "{0,6})?)";
    private static final Pattern SHAPE = Pattern.compile(PIECE + "(?:/" + PIECE + "){0,5}/?");
    private static final Pattern NAME = Pattern.compile(LETTER + "{1,8}");

    private static final class Entry {
        final int made;
        final boolean folder;
        boolean pack;
        int touched;

        Entry(int time, boolean folder) {
            this.made = time;
            this.folder = folder;
            this.touched = time;
        }
    }

    private static final class Asked {
        String path;
        List<String> in = new ArrayList<>();
        List<String> out = new ArrayList<>();
        Set<String> lookedAt = new HashSet<>();
        int time;
    }

    private final TreeMap<String, Entry> tree = new TreeMap<>(byNames());
    private final List<Asked> queries = new ArrayList<>();
    private int time = 1;
    private int place = -1;
    private int looked;
    private List<String> answer = new ArrayList<>();

    Model() {
        tree.put("", new Entry(0, true));
        tree.get("").pack = true;
    }

    private static Comparator<String> byNames() {
        return (a, b) -> {
            String[] one = a.split("/");
            String[] two = b.split("/");
            for (int i = 0; i < Math.min(one.length, two.length); i++) {
                int order = one[i].compareTo(two[i]);
                if (order != 0) {
                    return order;
                }
            }
            return a.isEmpty() || b.isEmpty() ? a.compareTo(b) : one.length - two.length;
        };
    }

    static boolean isPath(String text) {
        String[] names = text.split("/", -1);
        for (String name : names) {
            if (!NAME.matcher(name).matches() || name.equals(".") || name.equals("..")) {
                return false;
            }
        }
        return names.length <= 6;
    }

    private static String above(String path) {
        return path.contains("/") ? path.substring(0, path.lastIndexOf('/')) : "";
    }

    private static boolean isBelow(String path, String folder) {
        return folder.isEmpty() ? !path.isEmpty() : path.startsWith(folder + "/");
    }

    private void touch(String folder) {
        tree.get(folder).touched = ++time;
    }

    String make(String path, boolean folder) {
        if (!isPath(path)) {
            return "IAE";
        }
        if (tree.containsKey(path)) {
            return tree.get(path).folder == folder ? "0" : "ISE";
        }
        List<String> lacking = new ArrayList<>();
        for (String at = path; !tree.containsKey(at); at = above(at)) {
            lacking.add(0, at);
        }
        if (!tree.get(above(lacking.get(0))).folder || tree.size() - 1 + lacking.size() > 60) {
            return "ISE";
        }
        for (String at : lacking) {
            tree.put(at, new Entry(++time, folder || !at.equals(path)));
            touch(above(at));
        }
        return "" + lacking.size();
    }

    String remove(String path) {
        if (!isPath(path)) {
            return "IAE";
        }
        if (!tree.containsKey(path)) {
            return "ISE";
        }
        int before = tree.size();
        tree.keySet().removeIf(at -> at.equals(path) || isBelow(at, path));
        touch(above(path));
        return "" + (before - tree.size());
    }

    String pack(String path, boolean on) {
        if (!isPath(path)) {
            return "IAE";
        }
        Entry entry = tree.get(path);
        if (entry == null || !entry.folder || entry.pack == on) {
            return "ISE";
        }
        entry.pack = on;
        touch(above(path));
        return "0";
    }

    String query(String path) {
        if (!path.isEmpty() && !isPath(path)) {
            return "IAE";
        }
        if (queries.size() == 6) {
            return "ISE";
        }
        Asked made = new Asked();
        made.path = path;
        queries.add(made);
        return "" + (queries.size() - 1);
    }

    String pattern(int query, String text, boolean out) {
        place = illAt(text);
        if (query < 0 || query >= queries.size() || place >= 0) {
            return "IAE";
        }
        Asked asked = queries.get(query);
        List<String> such = out ? asked.out : asked.in;
        if (such.size() == 4) {
            return "ISE";
        }
        such.add(text);
        asked.lookedAt.clear();
        return "0";
    }

    int place() {
        return place;
    }

    /** The least of all places that make a text ill; its length if nothing does but that it ends. */
    static int illAt(String text) {
        int ill = text.length() + 1;
        for (int end = text.length(); end > 0; end--) {
            Matcher matcher = SHAPE.matcher(text.substring(0, end));
            if (!matcher.matches() && !matcher.hitEnd()) {
                ill = end - 1;
            }
        }
        String[] pieces = text.split("/", -1);
        int start = 0;
        for (int n = 0; n < pieces.length; n++) {
            boolean second = n > 0 && pieces[n].startsWith("**") && pieces[n - 1].startsWith("**");
            boolean dots = pieces[n].equals(".") || pieces[n].equals("..");
            if (second || dots || n >= 6 && !pieces[n].isEmpty()) {
                ill = Math.min(ill, start);
            }
            start += pieces[n].length() + 1;
        }
        if (ill > text.length()) {
            return SHAPE.matcher(text).matches() ? -1 : text.length();
        }
        return ill;
    }

    private static List<String> pieces(String pattern) {
        return List.of((pattern.endsWith("/") ? pattern.substring(0, pattern.length() - 1) : pattern).split("/"));
    }

    private static boolean fit(List<String> pieces, List<String> names) {
        if (pieces.isEmpty()) {
            return names.isEmpty();
        }
        List<String> rest = pieces.subList(1, pieces.size());
        if (pieces.get(0).equals("**")) {
            for (int taken = 0; taken <= names.size(); taken++) {
                if (fit(rest, names.subList(taken, names.size()))) {
                    return true;
                }
            }
            return false;
        }
        return !names.isEmpty()
            && names.get(0).matches(pieces.get(0).replace(".", "[.]").replace("[[.]]", "[.]").replace("*", ".*"))
            && fit(rest, names.subList(1, names.size()));
    }

    private static boolean fitsOne(List<String> patterns, String path, boolean folder) {
        for (String pattern : patterns) {
            if (pattern.endsWith("/") == folder && fit(pieces(pattern), List.of(path.split("/")))) {
                return true;
            }
        }
        return false;
    }

    private static boolean isLookedAt(List<String> patterns, String path) {
        for (String pattern : patterns) {
            List<String> pieces = pieces(pattern);
            for (int first = 1; first <= pieces.size(); first++) {
                List<String> some = pieces.subList(0, first);
                if (fit(some, List.of(path.split("/"))) && (first < pieces.size() || some.contains("**"))) {
                    return true;
                }
            }
        }
        return false;
    }

    private boolean isInAnother(String path, String pack) {
        for (String at = path; !at.equals(pack); at = above(at)) {
            if (tree.get(at).pack) {
                return true;
            }
        }
        return false;
    }

    int ask(int query) {
        if (query < 0 || query >= queries.size()) {
            return -1;
        }
        Asked asked = queries.get(query);
        answer = new ArrayList<>();
        Set<String> now = new HashSet<>();
        if (tree.containsKey(asked.path) && tree.get(asked.path).pack) {
            now.add(asked.path);
            for (String at : tree.keySet()) {
                if (isBelow(at, asked.path) && !isInAnother(at, asked.path)) {
                    String path = asked.path.isEmpty() ? at : at.substring(asked.path.length() + 1);
                    boolean folder = tree.get(at).folder;
                    if (fitsOne(asked.in, path, folder) && !fitsOne(asked.out, path, folder)) {
                        answer.add(path);
                    }
                    if (folder && isLookedAt(asked.in, path)) {
                        now.add(at);
                    }
                }
            }
        }
        count(asked, now);
        return answer.size();
    }

    private void count(Asked asked, Set<String> now) {
        looked = 0;
        for (String at : now) {
            Entry entry = tree.get(at);
            if (!asked.lookedAt.contains(at) || entry.touched > asked.time || entry.made > asked.time) {
                looked++;
            }
        }
        asked.lookedAt = now;
        asked.time = time;
    }

    int looked() {
        return looked;
    }

    String answer() {
        return String.join(" ", answer);
    }
}

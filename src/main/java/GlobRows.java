import java.util.ArrayList;
import java.util.Arrays;

/** Patterns over the paths of a tree, and a count of the folders that an answer had to look at again. */
public final class GlobRows {
    /** None. */
    public static final int NONE = -1;

    private static final int MOST_TEXT = 60;
    private static final int MOST_LETTERS = 8;
    private static final int MOST_NAMES = 6;
    private static final int LONGEST_PATH = MOST_NAMES * (MOST_LETTERS + 1) - 1;
    private static final int MOST_NODES = 60;
    private static final int MOST_PIECES = 6;
    private static final int MOST_PARTS = 8;
    private static final int MOST_IN_SET = 6;
    private static final int MOST_QUERIES = 6;
    private static final int MOST_PATTERNS = 4;

    private final StringBuilder text;
    private final Tree tree;
    private final ArrayList<Query> queries;
    private final Walk walk;
    private int illAt;

    /** An empty tree, no queries. */
    public GlobRows() {
        text = new StringBuilder();
        tree = new Tree();
        queries = new ArrayList<>();
        walk = new Walk();
        illAt = NONE;
    }

    /** Appends a character to the text; false if it can't stand in one, or the text is full. */
    public boolean type(char c) {
        if (c < 32 || c > 126 || text.length() >= MOST_TEXT) {
            return false;
        }
        text.append(c);
        return true;
    }

    /** Makes a file at the path that the text is, and the folders that lack; how many nodes are new. */
    public int file() throws IllegalArgumentException, IllegalStateException {
        return tree.make(takePath(), false);
    }

    /** Makes a folder at the path that the text is, and the folders that lack; how many nodes are new. */
    public int folder() throws IllegalArgumentException, IllegalStateException {
        return tree.make(takePath(), true);
    }

    /** Takes away what is at the path that the text is, with all in it; how many nodes that were. */
    public int remove() throws IllegalArgumentException, IllegalStateException {
        Node node = tree.at(takePath());
        if (node == null) {
            throw new IllegalStateException("nothing is there");
        }
        return tree.cut(node);
    }

    /** Makes the folder at the path that the text is a package, or none. */
    public void pack(boolean on) throws IllegalArgumentException, IllegalStateException {
        Node node = tree.at(takePath());
        if (node == null || !node.isFolder) {
            throw new IllegalStateException("no folder is there");
        }
        if (node.isPackage == on) {
            throw new IllegalStateException("the folder is so already");
        }
        node.isPackage = on;
        if (node.parent != null) {
            node.parent.touch();
        }
    }

    /** Makes a query of the package at the path that the text is, or of the tree; its number. */
    public int query() throws IllegalArgumentException, IllegalStateException {
        String taken = takeText();
        Path path = taken.isEmpty() ? new Path(taken) : Path.read(taken);
        if (path == null) {
            throw new IllegalArgumentException("the text is no path");
        }
        int number = queries.size();
        if (number >= MOST_QUERIES) {
            throw new IllegalStateException("there are six queries");
        }
        queries.add(new Query(path, number));
        return number;
    }

    /** Gives a query the text as one more pattern that takes in, or leaves out. */
    public void pattern(int query, boolean out) throws IllegalArgumentException, IllegalStateException {
        PatternReader reader = new PatternReader(takeText(), out);
        reader.read();
        // The place is told of any text that was meant as a pattern, whatever else refuses it.
        illAt = reader.illAt;
        Query owner = queryAt(query);
        if (owner == null) {
            throw new IllegalArgumentException("there is no such query");
        }
        if (illAt != NONE) {
            throw new IllegalArgumentException("the text is no pattern");
        }
        if (!owner.hasRoomFor(out)) {
            throw new IllegalStateException("there are four such patterns");
        }
        owner.add(reader.pattern);
    }

    /** Where the latest text for a pattern was ill, or NONE. */
    public int place() {
        return illAt;
    }

    /** Asks a query; how many nodes its answer has, or NONE if there is no such query. */
    public int ask(int query) {
        Query asked = queryAt(query);
        if (asked == null) {
            return NONE;
        }
        walk.answer.clear();
        asked.beginRound();
        Node folder = tree.at(asked.path);
        if (folder != null && folder.isPackage) {
            walk.lookInto(asked, folder, 0);
        }
        return walk.answer.count;
    }

    /** How many folders the query that was asked last counted. */
    public int looked() {
        return walk.answer.counted;
    }

    /** Character i of the k-th path of the latest answer, or 0. */
    public int answer(int k, int i) {
        return walk.answer.letter(k, i);
    }

    private String takeText() {
        String taken = text.toString();
        text.setLength(0);
        return taken;
    }

    private Path takePath() {
        Path path = Path.read(takeText());
        if (path == null) {
            throw new IllegalArgumentException("the text is no path");
        }
        return path;
    }

    private Query queryAt(int number) {
        return number >= 0 && number < queries.size() ? queries.get(number) : null;
    }

    private static boolean isLetter(char c) {
        return (c >= 'a' && c <= 'z') || (c >= 'A' && c <= 'Z') || (c >= '0' && c <= '9') || c == '.' || c == '_';
    }

    private static boolean isDots(String name) {
        return name.equals(".") || name.equals("..");
    }

    /** The names on the way from the tree to a node; none for the tree itself. */
    private static final class Path {
        private final String text;
        private final int[] starts = new int[MOST_NAMES];
        private final int[] ends = new int[MOST_NAMES];
        private int count;

        Path(String text) {
            this.text = text;
        }

        /** The path that a text is, or null if it is none. */
        static Path read(String text) {
            Path path = new Path(text);
            int start = 0;
            for (int i = 0; i <= text.length(); i++) {
                if (i == text.length() || text.charAt(i) == '/') {
                    if (!path.add(start, i)) {
                        return null;
                    }
                    start = i + 1;
                }
            }
            return path;
        }

        private boolean add(int start, int end) {
            if (count >= MOST_NAMES || !isName(text.substring(start, end))) {
                return false;
            }
            starts[count] = start;
            ends[count] = end;
            count++;
            return true;
        }

        private static boolean isName(String name) {
            if (name.isEmpty() || name.length() > MOST_LETTERS || isDots(name)) {
                return false;
            }
            for (int i = 0; i < name.length(); i++) {
                if (!isLetter(name.charAt(i))) {
                    return false;
                }
            }
            return true;
        }

        String name(int i) {
            return i >= 0 && i < count ? text.substring(starts[i], ends[i]) : "";
        }
    }

    /** A file or a folder. */
    private static final class Node {
        final String name;
        final Node parent;
        final boolean isFolder;
        final ArrayList<Node> children = new ArrayList<>();
        // For each query its round when it looked in here last; 0 if it never did, or must do so anew.
        final int[] seen = new int[MOST_QUERIES];
        boolean isPackage;

        Node(String name, Node parent, boolean isFolder) {
            this.name = name;
            this.parent = parent;
            this.isFolder = isFolder;
        }

        Node child(String wanted) {
            for (int i = 0; i < children.size(); i++) {
                if (children.get(i).name.equals(wanted)) {
                    return children.get(i);
                }
            }
            return null;
        }

        // Kept in order here, so that a walk meets the paths in the order of an answer.
        void insert(Node child) {
            int at = 0;
            while (at < children.size() && comesBefore(children.get(at).name, child.name)) {
                at++;
            }
            children.add(at, child);
            touch();
        }

        void drop(Node child) {
            for (int i = 0; i < children.size(); i++) {
                if (children.get(i) == child) {
                    children.remove(i);
                    touch();
                    return;
                }
            }
        }

        void touch() {
            Arrays.fill(seen, 0);
        }

        private static boolean comesBefore(String a, String b) {
            int common = Math.min(a.length(), b.length());
            for (int i = 0; i < common; i++) {
                if (a.charAt(i) != b.charAt(i)) {
                    return a.charAt(i) < b.charAt(i);
                }
            }
            return a.length() < b.length();
        }
    }

    /** The tree: a folder that always is a package, and all below it. */
    private static final class Tree {
        private final Node root;
        private int nodes;

        Tree() {
            root = new Node("", null, true);
            root.isPackage = true;
        }

        /** What is at a path, or null. */
        Node at(Path path) {
            Node node = root;
            for (int i = 0; i < path.count && node != null; i++) {
                node = node.child(path.name(i));
            }
            return node;
        }

        /** Makes what lacks on a path; how many nodes that were. */
        int make(Path path, boolean asFolder) {
            Node deepest = root;
            int had = 0;
            // Beyond its end a path tells an empty name, which no node bears.
            Node next = deepest.child(path.name(0));
            while (had < path.count && next != null) {
                deepest = next;
                had++;
                next = deepest.child(path.name(had));
            }
            int lacking = path.count - had;
            if (deepest.isFolder != (lacking > 0 || asFolder)) {
                throw new IllegalStateException("a file is on the way, or the other kind is there");
            }
            if (nodes + lacking > MOST_NODES) {
                throw new IllegalStateException("there would be too many nodes");
            }
            for (int i = had; i < path.count; i++) {
                Node made = new Node(path.name(i), deepest, asFolder || i < path.count - 1);
                deepest.insert(made);
                deepest = made;
            }
            nodes += lacking;
            return lacking;
        }

        int cut(Node node) {
            int gone = size(node, 0);
            if (node.parent != null) {
                node.parent.drop(node);
            }
            nodes -= gone;
            return gone;
        }

        private static int size(Node node, int depth) {
            int size = 1;
            for (int i = 0; i < node.children.size() && depth < MOST_NAMES; i++) {
                size += size(node.children.get(i), depth + 1);
            }
            return size;
        }
    }

    // What may take nothing may be over where it may begin, and so may several such in a row.
    private static int withSkipped(int states, int skippable) {
        int all = states;
        for (int n = 0; n < MOST_PARTS; n++) {
            all |= (all & skippable) << 1;
        }
        return all;
    }

    /** A part of a piece: the letters one of which must stand there; none for a star. */
    private static final class Part {
        final String letters;

        Part(String letters) {
            this.letters = letters;
        }
    }

    /**
     * What a name must look like, or a double star. A set of states says how far its parts may be used up:
     * bit j stands for the first j of them.
     */
    private static final class Piece {
        final boolean isDeep;
        private final ArrayList<Part> parts = new ArrayList<>();
        private int stars;

        Piece(boolean isDeep) {
            this.isDeep = isDeep;
        }

        boolean isFull() {
            return parts.size() >= MOST_PARTS;
        }

        void addStar() {
            stars |= 1 << parts.size();
            parts.add(new Part(""));
        }

        void addLetters(String letters) {
            parts.add(new Part(letters));
        }

        boolean fits(String name) {
            int states = withSkipped(1, stars);
            for (int i = 0; i < name.length() && states != 0; i++) {
                states = withSkipped(behind(states, name.charAt(i)), stars);
            }
            return (states & (1 << parts.size())) != 0;
        }

        private int behind(int states, char c) {
            int next = states & stars;
            for (int j = 0; j < parts.size(); j++) {
                if ((states & (1 << j)) != 0 && parts.get(j).letters.indexOf(c) >= 0) {
                    next |= 1 << (j + 1);
                }
            }
            return next;
        }
    }

    /**
     * Pieces one behind the other, with a set of states for each depth of a walk: bit j there stands for the
     * first j pieces being used up by the names on the way.
     */
    private static final class Pattern {
        final boolean leavesOut;
        boolean wantsFolders;
        private final ArrayList<Piece> pieces = new ArrayList<>();
        private final int[] states = new int[MOST_NAMES + 1];
        private int deeps;

        Pattern(boolean leavesOut) {
            this.leavesOut = leavesOut;
        }

        boolean isFull() {
            return pieces.size() >= MOST_PIECES;
        }

        boolean endsDeep() {
            return !pieces.isEmpty() && pieces.get(pieces.size() - 1).isDeep;
        }

        void add(Piece piece) {
            if (piece.isDeep) {
                deeps |= 1 << pieces.size();
            }
            pieces.add(piece);
        }

        void begin() {
            states[0] = withSkipped(1, deeps);
        }

        /** Goes on from the states of the depth above, by one name. */
        void pass(String name, int depth) {
            if (depth < 1 || depth >= states.length) {
                return;
            }
            int before = states[depth - 1];
            int next = before & deeps;
            for (int j = 0; j < pieces.size(); j++) {
                Piece piece = pieces.get(j);
                if ((before & (1 << j)) != 0 && !piece.isDeep && piece.fits(name)) {
                    next |= 1 << (j + 1);
                }
            }
            states[depth] = withSkipped(next, deeps);
        }

        boolean fits(boolean isFolder, int depth) {
            return isFolder == wantsFolders && (statesAt(depth) & (1 << pieces.size())) != 0;
        }

        // A double star that has been begun still counts as left: its own state stays.
        boolean goesOn(int depth) {
            return (statesAt(depth) & ((1 << pieces.size()) - 1)) != 0;
        }

        private int statesAt(int depth) {
            return depth >= 0 && depth < states.length ? states[depth] : 0;
        }
    }

    /** Reads a text as a pattern, up to the place where it is ill. */
    private static final class PatternReader {
        final Pattern pattern;
        int illAt = NONE;
        private final String text;
        private int at;

        PatternReader(String text, boolean out) {
            this.text = text;
            pattern = new Pattern(out);
        }

        void read() {
            boolean more = true;
            for (int n = 0; n <= MOST_PIECES && more; n++) {
                readPiece();
                more = illAt == NONE && passSlash();
            }
        }

        /** Passes the slash behind a piece; whether one more piece must follow. */
        private boolean passSlash() {
            if (at >= text.length()) {
                return false;
            }
            at++;
            pattern.wantsFolders = at >= text.length();
            return !pattern.wantsFolders;
        }

        private void readPiece() {
            if (pattern.isFull()) {
                illAt = at;
            } else if (at + 1 < text.length() && text.charAt(at) == '*' && text.charAt(at + 1) == '*') {
                readDeepPiece();
            } else {
                readPlainPiece();
            }
        }

        private void readDeepPiece() {
            if (pattern.endsDeep()) {
                illAt = at;
                return;
            }
            pattern.add(new Piece(true));
            at += 2;
            if (isInPiece()) {
                illAt = at;
            }
        }

        private void readPlainPiece() {
            Piece piece = new Piece(false);
            int start = at;
            for (int n = 0; n <= MOST_PARTS && illAt == NONE && isInPiece(); n++) {
                readPart(piece);
            }
            if (illAt != NONE) {
                return;
            }
            if (at == start || isDots(text.substring(start, at))) {
                illAt = start;
            }
            pattern.add(piece);
        }

        private boolean isInPiece() {
            return at < text.length() && text.charAt(at) != '/';
        }

        private void readPart(Piece piece) {
            char c = text.charAt(at);
            if (piece.isFull()) {
                illAt = at;
            } else if (c == '[') {
                readSet(piece);
            } else if (c == '*') {
                piece.addStar();
                at++;
            } else if (isLetter(c)) {
                piece.addLetters(text.substring(at, at + 1));
                at++;
            } else {
                illAt = at;
            }
        }

        private void readSet(Piece piece) {
            int start = at + 1;
            int end = start;
            while (end < text.length() && end - start < MOST_IN_SET && isLetter(text.charAt(end))) {
                end++;
            }
            if (end == start || end >= text.length() || text.charAt(end) != ']') {
                illAt = end;
                return;
            }
            piece.addLetters(text.substring(start, end));
            at = end + 1;
        }
    }

    /** A package's path, and the patterns that take in and leave out. */
    private static final class Query {
        final Path path;
        private final int number;
        private final ArrayList<Pattern> patterns = new ArrayList<>();
        private int round = 1;

        Query(Path path, int number) {
            this.path = path;
            this.number = number;
        }

        boolean hasRoomFor(boolean out) {
            int such = 0;
            for (int i = 0; i < patterns.size(); i++) {
                if (patterns.get(i).leavesOut == out) {
                    such++;
                }
            }
            return such < MOST_PATTERNS;
        }

        // A round in which no folder was looked at lies between, so that all count when it is asked next.
        void add(Pattern pattern) {
            patterns.add(pattern);
            round++;
        }

        void beginRound() {
            round++;
            for (int i = 0; i < patterns.size(); i++) {
                patterns.get(i).begin();
            }
        }

        /** Looks at a folder; whether it must be counted. */
        boolean looksAnewAt(Node folder) {
            if (number < 0 || number >= folder.seen.length) {
                return true;
            }
            boolean anew = folder.seen[number] != round - 1;
            folder.seen[number] = round;
            return anew;
        }

        void pass(String name, int depth) {
            for (int i = 0; i < patterns.size(); i++) {
                patterns.get(i).pass(name, depth);
            }
        }

        boolean takes(boolean isFolder, int depth) {
            return fitsOne(false, isFolder, depth) && !fitsOne(true, isFolder, depth);
        }

        private boolean fitsOne(boolean out, boolean isFolder, int depth) {
            for (int i = 0; i < patterns.size(); i++) {
                Pattern pattern = patterns.get(i);
                if (pattern.leavesOut == out && pattern.fits(isFolder, depth)) {
                    return true;
                }
            }
            return false;
        }

        boolean goesOn(int depth) {
            for (int i = 0; i < patterns.size(); i++) {
                Pattern pattern = patterns.get(i);
                if (!pattern.leavesOut && pattern.goesOn(depth)) {
                    return true;
                }
            }
            return false;
        }
    }

    /** The way of a query through the folders that it looks at. */
    private static final class Walk {
        final Answer answer = new Answer();
        private final StringBuilder path = new StringBuilder();

        private void lookInto(Query query, Node folder, int depth) {
            if (query.looksAnewAt(folder)) {
                answer.counted++;
            }
            for (int i = 0; i < folder.children.size() && depth < MOST_NAMES; i++) {
                Node node = folder.children.get(i);
                if (!node.isPackage) {
                    passBy(query, node, depth + 1);
                }
            }
        }

        private void passBy(Query query, Node node, int depth) {
            int length = path.length();
            if (length > 0) {
                path.append('/');
            }
            path.append(node.name);
            query.pass(node.name, depth);
            if (query.takes(node.isFolder, depth)) {
                answer.add(path);
            }
            if (node.isFolder && query.goesOn(depth)) {
                lookInto(query, node, depth);
            }
            path.setLength(length);
        }
    }

    /** The paths of the latest answer, copied, so that later changes of the tree leave them as they were. */
    private static final class Answer {
        int count;
        int counted;
        private final char[] letters = new char[MOST_NODES * LONGEST_PATH];
        private final int[] lengths = new int[MOST_NODES];

        void clear() {
            count = 0;
            counted = 0;
        }

        void add(StringBuilder path) {
            if (count >= MOST_NODES || path.length() > LONGEST_PATH) {
                return;
            }
            for (int i = 0; i < path.length(); i++) {
                letters[count * LONGEST_PATH + i] = path.charAt(i);
            }
            lengths[count] = path.length();
            count++;
        }

        int letter(int k, int i) {
            if (k < 0 || k >= count || i < 0 || i >= lengths[k]) {
                return 0;
            }
            return letters[k * LONGEST_PATH + i];
        }
    }
}

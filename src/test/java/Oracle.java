import java.util.ArrayDeque;
import java.util.ArrayList;
import java.util.Arrays;
import java.util.Deque;
import java.util.HashMap;
import java.util.HashSet;
import java.util.List;
import java.util.Map;
import java.util.Objects;
import java.util.Set;
import java.util.TreeMap;
import java.util.TreeSet;
import java.util.regex.Matcher;
import java.util.regex.Pattern;

/**
 * The document written a second time, for the tests, another way: tokens by a
 * pattern, all looked up anew at each call, whole snapshots for what is undone.
 */
final class Oracle {
    private static final int BAD = -1, STATE = -2, FULL = -3, NONE = -9;
    private static final Pattern TOKEN = Pattern.compile("[a-z]+|[0-9]+|[-+*/%&^<=;]");

    /** What a NAME is found to be: null NEVER, ANY, or the one number. */
    private static final Object ANY = "any";

    private static final class Name {
        int block;
        char letter;
        int number;
        int sign;
        final List<Integer> parts = new ArrayList<>();
        final Map<Integer, Integer> arms = new TreeMap<>();
    }

    private static final class Block {
        final List<Integer> names = new ArrayList<>();
        char letter = 'b';
        int by = NONE;
        final List<Integer> targets = new ArrayList<>();
    }

    private static final class Program {
        final List<Name> names = new ArrayList<>();
        final List<Block> blocks = new ArrayList<>();
    }

    private static final class Fault extends RuntimeException {
        private static final long serialVersionUID = 1L;
        final int place;

        Fault(int place) {
            this.place = place;
        }
    }

    private record Snapshot(Map<Integer, Integer> known, Map<Integer, Integer> given,
            Map<Integer, Integer> patched, Set<Integer> turned) {
        static Snapshot asTold() {
            return new Snapshot(new HashMap<>(), new HashMap<>(), new HashMap<>(), new HashSet<>());
        }

        Snapshot copy() {
            return new Snapshot(new HashMap<>(known), new HashMap<>(given),
                new HashMap<>(patched), new HashSet<>(turned));
        }
    }

    private record Edge(int from, int to) {
    }

    private record Facts(Map<Integer, Object> values, Set<Edge> edges, Set<Integer> blocks) {
    }

    private static final class Course {
        int outcome = 2;
        int told = 0;
        final Map<Integer, Integer> values = new HashMap<>();
        final Map<Integer, Integer> visits = new HashMap<>();
    }

    private String text = "";
    private Program program = new Program();
    private Snapshot now = Snapshot.asTold();
    private final Deque<Snapshot> history = new ArrayDeque<>();
    private final Snapshot[] images = new Snapshot[2];
    private int told = 0;

    // ---- reading

    private static final class Tokens {
        final List<String> words = new ArrayList<>();
        final List<Integer> places = new ArrayList<>();
        int next = 0;

        Tokens(String text) {
            Matcher matcher = TOKEN.matcher(text);
            int i = 0;
            while (i < text.length()) {
                if (text.charAt(i) == ' ') {
                    i++;
                } else {
                    places.add(i);
                    if (matcher.region(i, text.length()).lookingAt()) {
                        words.add(matcher.group());
                        i = matcher.end();
                    } else {
                        words.add("?");
                        i++;
                    }
                }
            }
            words.add("");
            places.add(text.length());
        }

        String word() {
            return words.get(next);
        }

        Fault fault() {
            return new Fault(places.get(next));
        }

        String take(boolean stands) {
            if (!stands) {
                throw fault();
            }
            return words.get(next++);
        }

        boolean isNumeral(int most) {
            return word().matches("0|[1-9][0-9]{0,2}") && Integer.parseInt(word()) <= most;
        }

        int numeral(int most) {
            return Integer.parseInt(take(isNumeral(most)));
        }
    }

    private static Program read(String text) {
        Tokens tokens = new Tokens(text);
        Program p = new Program();
        boolean inside = false;
        while (!tokens.word().isEmpty()) {
            String letter = tokens.take(mayStand(p, inside, tokens.word()));
            inside = !List.of("g", "q", "z").contains(letter);
            readRest(p, tokens, letter.charAt(0));
            tokens.take(tokens.word().equals(";"));
        }
        if (p.blocks.isEmpty() || inside || !isStrict(p)) {
            throw tokens.fault();
        }
        return p;
    }

    private static boolean mayStand(Program p, boolean inside, String word) {
        if (word.equals("b")) {
            return !inside && p.blocks.size() < 8;
        }
        if (!inside || !List.of("k", "i", "o", "j", "g", "q", "z").contains(word)) {
            return false;
        }
        if ("kioj".contains(word) && p.names.size() == 24) {
            return false;
        }
        List<Integer> own = p.blocks.get(p.blocks.size() - 1).names;
        return !word.equals("j")
            || p.blocks.size() > 1 && own.stream().allMatch(n -> p.names.get(n).letter == 'j');
    }

    private static void readRest(Program p, Tokens tokens, char letter) {
        if (letter == 'b') {
            p.blocks.add(new Block());
            return;
        }
        Block block = p.blocks.get(p.blocks.size() - 1);
        if ("kioj".indexOf(letter) >= 0) {
            Name name = new Name();
            name.block = p.blocks.size() - 1;
            name.letter = letter;
            block.names.add(p.names.size());
            p.names.add(name);
            readName(name, tokens);
            return;
        }
        block.letter = letter;
        if (letter != 'g') {
            block.by = tokens.numeral(23);
        }
        if (letter != 'z') {
            block.targets.add(tokens.numeral(7));
        }
        if (letter == 'q') {
            String first = String.valueOf(block.targets.get(0));
            block.targets.add(Integer.valueOf(tokens.take(tokens.isNumeral(7) && !tokens.word().equals(first))));
        }
    }

    private static void readName(Name name, Tokens tokens) {
        if (name.letter == 'k') {
            name.number = tokens.numeral(999);
        } else if (name.letter == 'o') {
            name.parts.add(tokens.numeral(23));
            name.sign = tokens.take(tokens.word().matches("[-+*/%&^<=]")).charAt(0);
            name.parts.add(tokens.numeral(23));
        } else if (name.letter == 'j') {
            do {
                boolean stands = name.arms.size() < 3 && tokens.isNumeral(7)
                    && !name.arms.containsKey(Integer.valueOf(tokens.word()));
                int from = Integer.parseInt(tokens.take(stands));
                name.arms.put(from, tokens.numeral(23));
            } while (!tokens.word().equals(";"));
        }
    }

    private static boolean isStrict(Program p) {
        for (Block block : p.blocks) {
            if (block.by != NONE && block.by >= p.names.size()
                    || block.targets.stream().anyMatch(t -> t == 0 || t >= p.blocks.size())) {
                return false;
            }
        }
        for (int n = 0; n < p.names.size(); n++) {
            Name name = p.names.get(n);
            int own = n;
            if (name.arms.keySet().stream().anyMatch(b -> b >= p.blocks.size())
                    || name.arms.values().stream().anyMatch(x -> x >= p.names.size())
                    || name.parts.stream().anyMatch(x -> x >= p.names.size() || !isAhead(p, x, name.block, own))
                    || name.letter == 'j' && !name.arms.keySet().equals(comingTo(p, name.block))
                    || name.arms.entrySet().stream().anyMatch(a -> !isAhead(p, a.getValue(), a.getKey(), 99))) {
                return false;
            }
        }
        for (int b = 0; b < p.blocks.size(); b++) {
            int by = p.blocks.get(b).by;
            if (by != NONE && !isAhead(p, by, b, 99)) {
                return false;
            }
        }
        return true;
    }

    private static boolean isAhead(Program p, int x, int block, int place) {
        int home = p.names.get(x).block;
        return home == block ? x < place : dominates(p, home, block);
    }

    private static Set<Integer> comingTo(Program p, int b) {
        Set<Integer> from = new TreeSet<>();
        for (int f = 0; f < p.blocks.size(); f++) {
            if (p.blocks.get(f).targets.contains(b)) {
                from.add(f);
            }
        }
        return from;
    }

    private static boolean dominates(Program p, int d, int b) {
        return !hasWay(p, 0, b, d, new HashSet<>());
    }

    private static boolean hasWay(Program p, int from, int to, int avoided, Set<Integer> seen) {
        if (from == avoided || !seen.add(from)) {
            return false;
        }
        if (from == to) {
            return true;
        }
        for (int next : p.blocks.get(from).targets) {
            if (hasWay(p, next, to, avoided, seen)) {
                return true;
            }
        }
        return false;
    }

    // ---- what is found

    private List<Integer> targets(int b) {
        List<Integer> as = new ArrayList<>(program.blocks.get(b).targets);
        if (now.turned().contains(b)) {
            as.add(as.remove(0));
        }
        return as;
    }

    private int number(int n) {
        return now.patched().getOrDefault(n, program.names.get(n).number);
    }

    private static Integer result(int sign, int x, int y) {
        return switch (sign) {
            case '+' -> x + y;
            case '-' -> x - y;
            case '*' -> x * y;
            case '/' -> y == 0 ? null : Integer.valueOf((int) ((long) x / y));
            case '%' -> y == 0 ? null : Integer.valueOf((int) ((long) x % y));
            case '&' -> x & y;
            case '^' -> x ^ y;
            case '<' -> x < y ? 1 : 0;
            default -> x == y ? 1 : 0;
        };
    }

    /** Each round is made of the one before alone, until nothing changes. */
    private Facts facts(boolean plain) {
        Facts facts = new Facts(new HashMap<>(), new HashSet<>(), new HashSet<>());
        if (program.blocks.isEmpty()) {
            return facts;
        }
        facts.blocks().add(0);
        while (true) {
            Facts next = new Facts(new HashMap<>(), new HashSet<>(), new HashSet<>(Set.of(0)));
            for (int b : facts.blocks()) {
                for (int to : program.blocks.get(b).targets) {
                    if (plain || isTaken(facts, b, to)) {
                        next.edges().add(new Edge(b, to));
                    }
                }
                for (int n : program.blocks.get(b).names) {
                    Object value = valueOf(facts, n);
                    if (value != null) {
                        next.values().put(n, value);
                    }
                }
            }
            facts.edges().forEach(edge -> next.blocks().add(edge.to()));
            if (next.equals(facts)) {
                return facts;
            }
            facts = next;
        }
    }

    private boolean isTaken(Facts facts, int b, int to) {
        Block block = program.blocks.get(b);
        if (block.letter == 'g') {
            return true;
        }
        Object by = facts.values().get(block.by);
        if (by == null || by == ANY) {
            return by == ANY;
        }
        return targets(b).get(by.equals(0) ? 1 : 0) == to;
    }

    private Object valueOf(Facts facts, int n) {
        Name name = program.names.get(n);
        switch (name.letter) {
            case 'k':
                return number(n);
            case 'i':
                return now.known().containsKey(n) ? now.known().get(n) : ANY;
            case 'o':
                Object x = facts.values().get(name.parts.get(0));
                Object y = facts.values().get(name.parts.get(1));
                if (x == null || y == null) {
                    return null;
                }
                Object made = x == ANY || y == ANY ? null : result(name.sign, (Integer) x, (Integer) y);
                return made == null ? ANY : made;
            default:
                Set<Object> met = new HashSet<>();
                name.arms.forEach((from, what) -> {
                    if (facts.edges().contains(new Edge(from, name.block))) {
                        met.add(facts.values().get(what));
                    }
                });
                met.remove(null);
                return met.isEmpty() ? null : met.size() == 1 ? met.iterator().next() : ANY;
        }
    }

    private static int kind(Facts facts, int n) {
        Object value = facts.values().get(n);
        return value == null ? 0 : value == ANY ? 2 : 1;
    }

    private int ones() {
        return count(5);
    }

    // ---- the run

    private Course course() {
        Course course = new Course();
        int from = NONE;
        int b = 0;
        for (int step = 0; step < 60; step++) {
            course.visits.merge(b, 1, Integer::sum);
            Map<Integer, Integer> before = new HashMap<>(course.values);
            for (int n : program.blocks.get(b).names) {
                Integer made = make(n, from, before, course.values);
                if (made == null) {
                    course.outcome = 1;
                    course.told = n;
                    return course;
                }
                course.values.put(n, made);
            }
            Block block = program.blocks.get(b);
            if (block.letter == 'z') {
                course.outcome = 0;
                course.told = course.values.get(block.by);
                return course;
            }
            from = b;
            b = targets(b).get(block.letter == 'q' && course.values.get(block.by) == 0 ? 1 : 0);
        }
        return course;
    }

    private Integer make(int n, int from, Map<Integer, Integer> before, Map<Integer, Integer> values) {
        Name name = program.names.get(n);
        return switch (name.letter) {
            case 'k' -> Integer.valueOf(number(n));
            case 'i' -> now.known().getOrDefault(n, now.given().getOrDefault(n, 0));
            case 'o' -> result(name.sign, values.get(name.parts.get(0)), values.get(name.parts.get(1)));
            default -> Objects.requireNonNull(before.get(name.arms.get(from)));
        };
    }

    // ---- for the tests, beside the face

    int names() {
        return program.names.size();
    }

    int blocks() {
        return program.blocks.size();
    }

    int bytes() {
        return text.length();
    }

    // ---- the face

    int type(int c) {
        if (c < 0 || c > 255) {
            return BAD;
        }
        if (text.length() == 150) {
            return FULL;
        }
        text += (char) c;
        return text.length();
    }

    int clear() {
        int had = text.length();
        text = "";
        return had;
    }

    int program() {
        try {
            program = read(text);
        } catch (Fault fault) {
            return -10 - fault.place;
        }
        text = "";
        now = Snapshot.asTold();
        history.clear();
        Arrays.fill(images, null);
        return program.names.size();
    }

    private boolean hasName(int n) {
        return n >= 0 && n < program.names.size();
    }

    private boolean hasBlock(int b) {
        return b >= 0 && b < program.blocks.size();
    }

    private boolean isMade(int n, char letter) {
        return hasName(n) && program.names.get(n).letter == letter;
    }

    int name(int n, int what) {
        if (!hasName(n) || what < 0 || what > 7) {
            return BAD;
        }
        Name name = program.names.get(n);
        return switch (what) {
            case 0 -> name.block;
            case 1 -> "kioj".indexOf(name.letter);
            case 2 -> name.sign + name.arms.size();
            case 3 -> name.parts.isEmpty() ? NONE : name.parts.get(0);
            case 4 -> name.parts.isEmpty() ? NONE : name.parts.get(1);
            case 5 -> now.known().containsKey(n) ? 1 : 0;
            default -> kind(facts(what == 7), n);
        };
    }

    int found(int n) {
        if (!hasName(n)) {
            return BAD;
        }
        Facts facts = facts(false);
        if (kind(facts, n) != 1) {
            return STATE;
        }
        told = (Integer) facts.values().get(n);
        return 1;
    }

    int block(int b, int what) {
        if (!hasBlock(b) || what < 0 || what > 8) {
            return BAD;
        }
        Block block = program.blocks.get(b);
        List<Integer> targets = block.targets.isEmpty() ? List.of() : targets(b);
        int side = what % 2;
        return switch (what) {
            case 0 -> facts(false).blocks().contains(b) ? 1 : 0;
            case 1 -> block.names.size();
            case 2 -> "gqz".indexOf(block.letter);
            case 3 -> block.by;
            case 4, 5 -> side < targets.size() ? targets.get(side) : NONE;
            case 6, 7 -> side < targets.size()
                && facts(false).edges().contains(new Edge(b, targets.get(side))) ? 1 : 0;
            default -> {
                int bits = 0;
                for (int d = 0; d < program.blocks.size(); d++) {
                    bits += dominates(program, d, b) ? 1 << d : 0;
                }
                yield bits;
            }
        };
    }

    private void remember() {
        history.addLast(now.copy());
        if (history.size() > 10) {
            history.removeFirst();
        }
    }

    int knows(int n, int v) {
        if (!isMade(n, 'i')) {
            return BAD;
        }
        remember();
        now.known().put(n, v);
        return ones();
    }

    int forgets(int n) {
        if (!isMade(n, 'i')) {
            return BAD;
        }
        if (!now.known().containsKey(n)) {
            return STATE;
        }
        remember();
        now.known().remove(n);
        return ones();
    }

    int gives(int n, int v) {
        if (!isMade(n, 'i')) {
            return BAD;
        }
        remember();
        Integer was = now.given().put(n, v);
        told = was == null ? 0 : was;
        return 1;
    }

    int patches(int n, int v) {
        if (!isMade(n, 'k') || v < 0 || v > 999) {
            return BAD;
        }
        int was = number(n);
        if (was == v) {
            return STATE;
        }
        remember();
        now.patched().put(n, v);
        return was;
    }

    int turned(int b) {
        if (!hasBlock(b)) {
            return BAD;
        }
        if (program.blocks.get(b).letter != 'q') {
            return STATE;
        }
        remember();
        if (!now.turned().remove(b)) {
            now.turned().add(b);
        }
        return facts(false).blocks().size();
    }

    int undo() {
        if (history.isEmpty()) {
            return STATE;
        }
        now = history.removeLast();
        return history.size();
    }

    int run() {
        if (program.blocks.isEmpty()) {
            return STATE;
        }
        Course course = course();
        told = course.told;
        return course.outcome;
    }

    int visits(int b) {
        return hasBlock(b) ? course().visits.getOrDefault(b, 0) : BAD;
    }

    int last(int n) {
        if (!hasName(n)) {
            return BAD;
        }
        told = course().values.getOrDefault(n, 0);
        return 1;
    }

    int count(int what) {
        Facts facts = facts(false);
        Facts plain = facts(true);
        int all = 0;
        for (int n = 0; n < program.names.size(); n++) {
            Name name = program.names.get(n);
            int kind = kind(facts, n);
            boolean fold = kind == 1 && name.letter != 'k';
            boolean counts = switch (what) {
                case 5 -> kind == 1;
                case 6 -> kind == 0;
                case 7 -> fold;
                case 9 -> facts.blocks().contains(name.block) && !fold && name.letter != 'k';
                case 10 -> kind != 2 && kind(plain, n) == 2;
                default -> false;
            };
            all += counts ? 1 : 0;
        }
        int edges = 0;
        int foldedEnds = 0;
        for (int b = 0; b < program.blocks.size(); b++) {
            int from = b;
            edges += program.blocks.get(b).targets.size();
            long live = facts.edges().stream().filter(edge -> edge.from() == from).count();
            foldedEnds += program.blocks.get(b).letter == 'q' && live == 1 ? 1 : 0;
        }
        return switch (what) {
            case 0 -> program.names.size();
            case 1 -> program.blocks.size();
            case 2 -> edges;
            case 3 -> facts.blocks().size();
            case 4 -> facts.edges().size();
            case 5, 6, 7, 9, 10 -> all;
            case 8 -> foldedEnds;
            case 11 -> history.size();
            case 12 -> text.length();
            default -> BAD;
        };
    }

    int best(int what) {
        if (what != 0 && what != 1) {
            return BAD;
        }
        int found = count(5) + count(6);
        int best = NONE;
        int most = NONE;
        Snapshot before = now;
        for (int n = program.names.size() - 1; n >= 0; n--) {
            if (isMade(n, 'i') && !before.known().containsKey(n)) {
                now = before.copy();
                now.known().put(n, before.given().getOrDefault(n, 0));
                int more = count(5) + count(6) - found;
                if (more >= most) {
                    best = n;
                    most = more;
                }
            }
        }
        now = before;
        return what == 0 ? best : most;
    }

    int keep(int image) {
        if (image < 0 || image > 1) {
            return BAD;
        }
        images[image] = now.copy();
        return program.names.size();
    }

    int back(int image) {
        if (image < 0 || image > 1) {
            return BAD;
        }
        if (images[image] == null) {
            return STATE;
        }
        now = images[image].copy();
        history.clear();
        return program.names.size();
    }

    int asked() {
        return told;
    }
}

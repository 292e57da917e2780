import java.util.ArrayList;
import java.util.List;
import java.util.Random;

/** Makes texts of programs that are STRICT, and spoils them. */
final class Texts {
    private static final String SIGNS = "+-*/%&^<=";
    private static final String BYTES = "bkiojgqz;; 0123456789+-*/%&^<=x?";

    private final Random random;
    private int blocks;
    private int first;
    private int[][] targets;
    private char[] ends;
    private List<Integer> homes;
    private List<Character> letters;

    Texts(long seed) {
        random = new Random(seed);
    }

    /** At most 150 bytes long. */
    String program() {
        String text;
        do {
            makeBlocks();
            makeNames();
            text = write();
        } while (text.length() > 150);
        return text;
    }

    String spoiled(String text) {
        StringBuilder spoiled = new StringBuilder(text);
        int times = 1 + random.nextInt(2);
        for (int i = 0; i < times && spoiled.length() > 0; i++) {
            int place = random.nextInt(spoiled.length());
            char other = BYTES.charAt(random.nextInt(BYTES.length()));
            switch (random.nextInt(4)) {
                case 0 -> spoiled.deleteCharAt(place);
                case 1 -> spoiled.insert(place, other);
                case 2 -> spoiled.setCharAt(place, other);
                default -> spoiled.setLength(place);
            }
        }
        spoiled.setLength(Math.min(spoiled.length(), 150));
        return spoiled.toString();
    }

    /** Now and then BLOCK 0 has no NAMES: where it goes to, the first ones are made. */
    private void makeBlocks() {
        blocks = 1 + random.nextInt(8);
        ends = new char[blocks];
        targets = new int[blocks][0];
        for (int b = 0; b < blocks; b++) {
            int dice = random.nextInt(10);
            if (blocks > 2 && (dice < 5 || b == 0 && dice < 8)) {
                int one = 1 + random.nextInt(blocks - 1);
                int other = 1 + (one + random.nextInt(blocks - 2)) % (blocks - 1);
                ends[b] = 'q';
                targets[b] = new int[] {one, other};
            } else if (blocks > 1 && dice < 8) {
                ends[b] = 'g';
                targets[b] = new int[] {1 + random.nextInt(blocks - 1)};
            } else {
                ends[b] = 'z';
            }
        }
        first = 0;
        if (blocks > 1 && random.nextInt(8) == 0) {
            first = 1 + random.nextInt(blocks - 1);
            ends[0] = 'g';
            targets[0] = new int[] {first};
        }
    }

    private void makeNames() {
        homes = new ArrayList<>();
        letters = new ArrayList<>();
        for (int b = 0; b < blocks; b++) {
            int coming = comingTo(b).size();
            int joins = b == first || coming == 0 || coming > 3 ? 0 : random.nextInt(3);
            int others = b < 1 && first > 0 ? 0 : random.nextInt(4) + (b == first ? 1 : 0);
            for (int i = 0; i < joins + others && homes.size() < 24 - (b < first ? 1 : 0); i++) {
                homes.add(b);
                letters.add(i < joins ? 'j' : b == first && i == 0 ? "ki".charAt(random.nextInt(2))
                    : "kioooo".charAt(random.nextInt(6)));
            }
        }
    }

    private List<Integer> comingTo(int b) {
        List<Integer> from = new ArrayList<>();
        for (int f = 0; f < blocks; f++) {
            for (int to : targets[f]) {
                if (to == b) {
                    from.add(f);
                }
            }
        }
        return from;
    }

    private boolean dominates(int d, int b) {
        boolean[] reached = new boolean[blocks];
        reached[0] = d != 0;
        for (int round = 0; round < blocks; round++) {
            for (int f = 0; f < blocks; f++) {
                for (int to : targets[f]) {
                    reached[to] |= reached[f] && to != d;
                }
            }
        }
        return !reached[b];
    }

    /** A NAME that may be part of what stands in a BLOCK at a place. */
    private int part(int b, int place) {
        List<Integer> fit = new ArrayList<>();
        for (int n = 0; n < homes.size(); n++) {
            if (homes.get(n) == b ? n < place : dominates(homes.get(n), b)) {
                fit.add(n);
            }
        }
        // Later ones are made of others: they are chosen more often.
        int from = random.nextInt(2) * fit.size() / 2;
        return fit.get(from + random.nextInt(fit.size() - from));
    }

    private String write() {
        StringBuilder text = new StringBuilder();
        int n = 0;
        for (int b = 0; b < blocks; b++) {
            text.append("b;");
            for (; n < homes.size() && homes.get(n) == b; n++) {
                writeName(text, b, n);
            }
            text.append(ends[b]);
            if (ends[b] != 'g') {
                text.append(part(b, 99));
            }
            for (int i = 0; i < targets[b].length; i++) {
                text.append(i == 0 && ends[b] == 'g' ? "" : " ").append(targets[b][i]);
            }
            text.append(random.nextInt(9) == 0 ? " ; " : ";");
        }
        return text.toString();
    }

    private void writeName(StringBuilder text, int b, int n) {
        char letter = letters.get(n);
        text.append(letter);
        if (letter == 'k') {
            text.append(random.nextInt(5) == 0 ? random.nextInt(1000) : random.nextInt(3));
        } else if (letter == 'o') {
            text.append(part(b, n)).append(SIGNS.charAt(random.nextInt(SIGNS.length()))).append(part(b, n));
        } else if (letter == 'j') {
            String gap = "";
            for (int from : comingTo(b)) {
                text.append(gap).append(from).append(' ').append(part(from, 99));
                gap = " ";
            }
        }
        text.append(';');
    }
}

import java.lang.reflect.Method;
import java.util.ArrayList;
import java.util.Arrays;
import java.util.Collections;
import java.util.Comparator;
import java.util.HashMap;
import java.util.HashSet;
import java.util.List;
import java.util.Map;
import java.util.TreeMap;

/** Long runs of mixed calls, the same at every start, against a second reading of the document. */
public final class ModelTest {
    private static final int RUNS = 3000;
    private static final int CALLS = 512;

    /** The document once more, over the lists and maps of the library. */
    private static final class Model {
        static final Map<Integer, String> WORDS = allWords();

        final List<List<Integer>> strings = new ArrayList<>();
        final Map<String, List<int[]>> entries = new TreeMap<>();
        boolean backwards = false;
        boolean shifted = false;
        int top = 0;

        Model() {
            for (int k = 0; k < 10; k++) {
                strings.add(new ArrayList<>());
                entries.put("" + k, new ArrayList<>(Arrays.asList(new int[][] {{k + 1, 1, 1}})));
            }
        }

        static boolean within(int value, int least, int greatest) {
            return least <= value && value <= greatest;
        }

        static Map<Integer, String> allWords() {
            Map<Integer, String> words = new HashMap<>();
            for (int size = 1, rows = 10; size <= 3; size++, rows *= 10) {
                for (int row = 0; row < rows; row++) {
                    String text = String.format("%0" + size + "d", row);
                    int word = 0;
                    for (int k = size - 1; k >= 0; k--) {
                        word = word * 11 + (text.charAt(k) - '0') + 1;
                    }
                    words.put(word, text);
                }
            }
            return words;
        }

        /** The letters of a word as text, or null. */
        static String letters(int word) {
            return WORDS.get(word);
        }

        static int[] element(int number) {
            for (int p = 0; p <= 30; p++) {
                for (int s = 0; s <= 7; s++) {
                    for (int t = 0; t <= 3; t++) {
                        if (p + 32 * s + 256 * t == number) {
                            return new int[] {p, s, t};
                        }
                    }
                }
            }
            return null;
        }

        int longEntries() {
            return entries.size() - 10;
        }

        int put(int slot, int letter) {
            if (!within(slot, 0, 9)) return -2;
            if (!within(letter, 0, 9)) return -4;
            if (strings.get(slot).size() == 12) return -5;
            strings.get(slot).add(letter);
            return strings.get(slot).size();
        }

        int take(int slot) {
            if (!within(slot, 0, 9)) return -2;
            List<Integer> string = strings.get(slot);
            return string.isEmpty() ? -4 : string.remove(string.size() - 1);
        }

        int copy(int slot, int other) {
            if (!within(slot, 0, 9) || !within(other, 0, 9)) return -2;
            strings.set(slot, new ArrayList<>(strings.get(other)));
            return strings.get(slot).size();
        }

        int entry(int word, int one, int two) {
            String text = letters(word);
            if (text == null) return -1;
            if (element(one) == null || two != -1 && element(two) == null) return -2;
            if (!entries.containsKey(text) && longEntries() == 6) return -3;
            List<int[]> given = new ArrayList<>();
            given.add(element(one));
            if (two != -1) given.add(element(two));
            entries.put(text, given);
            return longEntries();
        }

        int forget(int word) {
            String text = letters(word);
            if (text == null || text.length() == 1) return -1;
            return entries.remove(text) == null ? -2 : longEntries();
        }

        int tailor(int a, int b, int level) {
            if (!within(a, 0, 9) || !within(b, 0, 9) || a == b) return -1;
            if (!within(level, 1, 3)) return -2;
            int[] limits = {30, 7, 3};
            int at = level - 1;
            int[] first = entries.get("" + a).get(0).clone();
            List<int[]> growing = new ArrayList<>();
            for (List<int[]> elements : entries.values()) {
                for (int[] one : elements) {
                    if (Arrays.equals(one, 0, at, first, 0, at) && one[at] > first[at]) growing.add(one);
                }
            }
            int[] moved = {first[0], 1, 1};
            if (level > 1) moved[1] = first[1];
            if (level > 2) moved[2] = first[2];
            moved[at]++;
            boolean over = moved[at] > limits[at];
            for (int[] one : growing) over |= one[at] + 1 > limits[at];
            if (over) return -3;
            for (int[] one : growing) one[at]++;
            entries.put("" + b, new ArrayList<>(Collections.singletonList(moved)));
            return moved[0] + 32 * moved[1] + 256 * moved[2];
        }

        int settings(int newBackwards, int newShifted, int newTop) {
            if (!within(newBackwards, 0, 1) || !within(newShifted, 0, 1)) return -1;
            if (!within(newTop, 0, 30)) return -2;
            backwards = newBackwards == 1;
            shifted = newShifted == 1;
            top = newTop;
            return 1;
        }

        List<int[]> elementsOf(List<Integer> string) {
            StringBuilder text = new StringBuilder();
            for (int letter : string) text.append(letter);
            List<int[]> all = new ArrayList<>();
            String rest = text.toString();
            while (!rest.isEmpty()) {
                int size = Math.min(3, rest.length());
                while (!entries.containsKey(rest.substring(0, size))) size--;
                all.addAll(entries.get(rest.substring(0, size)));
                rest = rest.substring(size);
            }
            return all;
        }

        List<Integer> key(List<Integer> string, int strength) {
            List<List<Integer>> levels = new ArrayList<>();
            for (int k = 0; k < 4; k++) levels.add(new ArrayList<>());
            List<int[]> all = elementsOf(string);
            for (int k = 0; k < all.size(); k++) {
                int[] one = all.get(k);
                // Back to the element that decides whether this one is variable or behind a variable one.
                int decides = k;
                while (decides > 0 && all.get(decides)[0] == 0) decides--;
                boolean among = shifted && within(all.get(decides)[0], 1, top);
                boolean empty = one[0] == 0 && one[1] == 0 && one[2] == 0;
                int fourth = !shifted ? 0 : among ? one[0] : empty ? 0 : 31;
                int[] weights = among ? new int[] {0, 0, 0, fourth} : new int[] {one[0], one[1], one[2], fourth};
                for (int level = 0; level < 4; level++) levels.get(level).add(weights[level]);
            }
            if (backwards) Collections.reverse(levels.get(1));
            List<Integer> key = new ArrayList<>();
            for (int level = 0; level < strength; level++) {
                if (level > 0) key.add(0);
                for (int weight : levels.get(level)) if (weight != 0) key.add(weight);
            }
            return key;
        }

        List<Integer> slotKey(int slot, int strength) {
            return key(strings.get(slot), strength);
        }

        static int order(List<Integer> one, List<Integer> other) {
            int[] left = one.stream().mapToInt(x -> x).toArray();
            int[] right = other.stream().mapToInt(x -> x).toArray();
            return Integer.signum(Arrays.compare(left, right));
        }

        int elements(int slot) {
            return within(slot, 0, 9) ? elementsOf(strings.get(slot)).size() : -2;
        }

        int compare(int i, int j, int strength) {
            if (!within(i, 0, 9) || !within(j, 0, 9)) return -2;
            if (!within(strength, 1, 4)) return -3;
            return order(slotKey(i, strength), slotKey(j, strength));
        }

        int keySize(int slot, int strength) {
            if (!within(slot, 0, 9)) return -2;
            return within(strength, 1, 4) ? slotKey(slot, strength).size() : -3;
        }

        int keyAt(int slot, int strength, int place) {
            int size = keySize(slot, strength);
            if (size < 0) return size;
            return within(place, 0, size - 1) ? slotKey(slot, strength).get(place) : -4;
        }

        int rank(int slot, int strength) {
            if (!within(slot, 0, 9)) return -2;
            if (!within(strength, 1, 4)) return -3;
            int less = 0;
            for (int other = 0; other < 10; other++) if (compare(other, slot, strength) == -1) less++;
            return less;
        }

        int nth(int k, int strength) {
            if (!within(strength, 1, 4)) return -3;
            if (!within(k, 0, 9)) return -4;
            List<Integer> slots = new ArrayList<>(Arrays.asList(0, 1, 2, 3, 4, 5, 6, 7, 8, 9));
            Comparator<Integer> byKey = (i, j) -> compare(i, j, strength);
            slots.sort(byKey.thenComparing(Comparator.naturalOrder()));
            return slots.get(k);
        }

        int kinds(int strength) {
            if (!within(strength, 1, 4)) return -3;
            HashSet<List<Integer>> different = new HashSet<>();
            for (int slot = 0; slot < 10; slot++) different.add(slotKey(slot, strength));
            return different.size();
        }

        int find(int i, int j, int strength, int from) {
            if (!within(i, 0, 9) || !within(j, 0, 9)) return -2;
            if (!within(strength, 1, 4)) return -3;
            List<Integer> string = strings.get(i);
            List<Integer> sought = slotKey(j, strength);
            for (int p = 0; p <= string.size(); p++) {
                for (int end = p; p >= from && end <= string.size(); end++) {
                    if (key(string.subList(p, end), strength).equals(sought)) return p;
                }
            }
            return -4;
        }
    }

    private static long state;

    /** A fixed row of numbers, so that a run that fails can be made again. */
    private static int upTo(int bound) {
        state = state * 6364136223846793005L + 1442695040888963407L;
        return (int) ((state >>> 33) % bound);
    }

    private static int number(int least, int greatest) {
        int kind = upTo(60);
        if (kind == 0) return least - 1;
        if (kind == 1) return greatest + 1;
        if (kind == 2) return upTo(2) == 0 ? Integer.MIN_VALUE : Integer.MAX_VALUE;
        return least + upTo(greatest - least + 1);
    }

    /** Some runs keep to few letters and low weights, so that words stand in strings and keys are often the same. */
    private static int letter(int few) {
        return number(0, few - 1);
    }

    private static int word(int few) {
        if (upTo(20) == 0) return number(1, 1330);
        int word = 0;
        for (int size = 1 + upTo(3); size > 0; size--) word = word * 11 + upTo(few) + 1;
        return word;
    }

    private static int element(boolean low) {
        if (upTo(40) == 0) return number(0, 1022);
        if (low) return upTo(3) + 32 * upTo(3) + 256 * upTo(2);
        return upTo(31) + 32 * upTo(8) + 256 * upTo(4);
    }

    private static int[] call(int few, boolean low) {
        int[] chances = {0, 0, 0, 0, 0, 0, 1, 2, 2, 3, 3, 3, 4, 5, 5, 6, 7, 8, 9, 10, 10, 10, 11, 12, 13, 14, 14};
        int kind = chances[upTo(chances.length)];
        int two = upTo(2) == 0 ? -1 : element(low);
        switch (kind) {
            case 0: return new int[] {kind, number(0, 9), letter(few)};
            case 1: return new int[] {kind, number(0, 9)};
            case 2: return new int[] {kind, number(0, 9), number(0, 9)};
            case 3: return new int[] {kind, word(few), element(low), two};
            case 4: return new int[] {kind, word(few)};
            case 5: return new int[] {kind, letter(few), letter(few), number(1, 3)};
            case 6: return new int[] {kind, number(0, 1), number(0, 1), low ? number(0, 3) : number(0, 30)};
            case 7: return new int[] {kind, number(0, 9)};
            case 8: return new int[] {kind, number(0, 9), number(0, 9), number(1, 4)};
            case 9: return new int[] {kind, number(0, 9), number(1, 4)};
            case 10: return new int[] {kind, number(0, 9), number(1, 4), number(0, upTo(2) == 0 ? 30 : 98)};
            case 11: return new int[] {kind, number(0, 9), number(1, 4)};
            case 12: return new int[] {kind, number(0, 9), number(1, 4)};
            case 13: return new int[] {kind, number(1, 4)};
            default: return new int[] {kind, number(0, 9), number(0, 9), number(1, 4), number(0, 12)};
        }
    }

    private static final String[] NAMES = {"put", "take", "copy", "entry", "forget", "tailor", "settings",
            "elements", "compare", "keySize", "keyAt", "rank", "nth", "kinds", "find"};
    private static final int[] PARAMETERS = {2, 1, 2, 3, 1, 3, 3, 1, 3, 2, 3, 2, 2, 1, 4};

    private static List<Method> methodsOf(Class<?> type) throws ReflectiveOperationException {
        List<Method> methods = new ArrayList<>();
        for (int kind = 0; kind < NAMES.length; kind++) {
            Class<?>[] parameters = new Class<?>[PARAMETERS[kind]];
            Arrays.fill(parameters, int.class);
            methods.add(type.getDeclaredMethod(NAMES[kind], parameters));
        }
        return methods;
    }

    private static int ask(List<Method> methods, Object desk, int[] call) throws ReflectiveOperationException {
        Object[] arguments = new Object[call.length - 1];
        for (int k = 0; k < arguments.length; k++) arguments[k] = call[k + 1];
        return (Integer) methods.get(call[0]).invoke(desk, arguments);
    }

    /** How often each call had each answer, to show that the runs reach every kind of answer. */
    private static final Map<String, Integer> SEEN = new TreeMap<>();

    private static boolean runHolds(int run) throws ReflectiveOperationException {
        state = run;
        int few = new int[] {2, 3, 4, 10}[run % 4];
        boolean low = run / 4 % 3 != 0;
        CollationDesk desk = new CollationDesk();
        Model model = new Model();
        List<Method> deskMethods = methodsOf(CollationDesk.class);
        List<Method> modelMethods = methodsOf(Model.class);
        for (int k = 1; k <= CALLS; k++) {
            int[] call = call(few, low);
            int want = ask(modelMethods, model, call);
            int got = ask(deskMethods, desk, call);
            SEEN.merge(NAMES[call[0]] + (want < 0 ? " " + want : " at least 0"), 1, Integer::sum);
            if (got != want) {
                String arguments = Arrays.toString(Arrays.copyOfRange(call, 1, call.length));
                System.out.println("run " + run + ", call " + k + ": " + NAMES[call[0]] + arguments
                        + " answered " + got + ", due is " + want);
                return false;
            }
        }
        return true;
    }

    private static boolean allAnswersSeen() {
        String[] due = {"put -2", "put -4", "put -5", "put at least 0", "take -2", "take -4", "take at least 0",
                "copy -2", "copy at least 0", "entry -1", "entry -2", "entry -3", "entry at least 0",
                "forget -1", "forget -2", "forget at least 0", "tailor -1", "tailor -2", "tailor -3",
                "tailor at least 0", "settings -1", "settings -2", "settings at least 0", "elements -2",
                "elements at least 0", "compare -1", "compare -2", "compare -3", "compare at least 0",
                "keySize -2", "keySize -3", "keySize at least 0", "keyAt -2", "keyAt -3", "keyAt -4",
                "keyAt at least 0", "rank -2", "rank -3", "rank at least 0", "nth -3", "nth -4", "nth at least 0",
                "kinds -3", "kinds at least 0", "find -2", "find -3", "find -4", "find at least 0"};
        boolean all = true;
        for (String answer : due) {
            if (SEEN.getOrDefault(answer, 0) < 100) {
                System.out.println("the runs hardly reach the answer: " + answer);
                all = false;
            }
        }
        return all;
    }

    public static void main(String[] args) throws ReflectiveOperationException {
        int wrong = 0;
        for (int run = 0; run < RUNS; run++) {
            if (!runHolds(run)) {
                wrong++;
            }
        }
        boolean reached = allAnswersSeen();
        System.out.println(wrong == 0 ? RUNS + " runs are as due" : wrong + " runs are not as due");
        if (wrong != 0 || !reached) {
            System.exit(1);
        }
    }
}

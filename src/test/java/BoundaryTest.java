import java.util.TreeSet;

/** One test for each sentence of the document that names a boundary case, in the document's order. */
public final class BoundaryTest {
    private static final int LEAST = Integer.MIN_VALUE;
    private static final int GREATEST = Integer.MAX_VALUE;
    private static final int[] NO_SLOTS = {-1, 10, LEAST, GREATEST};
    private static final int[] NO_LETTERS = {-1, 10, LEAST, GREATEST};
    private static final int[] NO_STRENGTHS = {0, 5, -1, LEAST, GREATEST};
    private static final int[] NO_LEVELS = {0, 4, -1, LEAST, GREATEST};
    private static final int[] FULL = {0, 1, 2, 3, 4, 5, 6, 7, 8, 9, 0, 1};
    /** The least and the greatest word of two letters, the same of three, and two more. */
    private static final int[] SIX_WORDS = {12, 120, 133, 1330, word(0, 1), word(0, 1, 2)};
    private static final int[][] SIX_ROWS = {{0, 0}, {9, 9}, {0, 0, 0}, {9, 9, 9}, {0, 1}, {0, 1, 2}};

    private static void tests(String sentence) {
        AskedDesk.tests(sentence);
    }

    private static AskedDesk desk() {
        return new AskedDesk();
    }

    private static int element(int first, int second, int third) {
        return AskedDesk.element(first, second, third);
    }

    private static int word(int... letters) {
        return AskedDesk.word(letters);
    }

    private static AskedDesk deskWithSixWords() {
        AskedDesk desk = desk();
        for (int k = 0; k < 6; k++) {
            desk.due(k + 1, "entry", SIX_WORDS[k], element(11 + k, 1, 1), -1);
        }
        return desk;
    }

    // ---- What it is, Terms

    private static void callsUpToTheLast() {
        tests("What it is: at most 512 calls");
        AskedDesk strings = desk();
        for (int k = 1; k <= 255; k++) {
            strings.due(1, "put", 9, k % 10).due(k % 10, "take", 9);
        }
        strings.due(1, "put", 9, 3).due(4, "keyAt", 9, 1, 0);

        AskedDesk entries = desk();
        for (int k = 1; k <= 255; k++) {
            entries.due(1, "entry", 1330, 1, 2).due(0, "forget", 1330);
        }
        entries.due(1, "entry", 1330, 1, 2).due(0, "forget", 1330);

        AskedDesk moves = desk();
        for (int k = 1; k <= 510; k++) {
            // Letter b keeps to the same place, and as nothing else has the first weight 1, nothing else grows.
            moves.due(element(1, 2, 1), "tailor", 0, 1, 2);
        }
        moves.due(1, "put", 0, 1).due(2, "keyAt", 0, 2, 2);
    }

    private static void slotsAndLettersOfTheTerms() {
        tests("Terms: ten LETTERS, 0 to 9, and ten SLOTS, 0 to 9");
        for (int slot = 0; slot <= 9; slot++) {
            AskedDesk desk = desk();
            for (int letter = 0; letter <= 9; letter++) {
                desk.due(letter + 1, "put", slot, letter);
            }
            desk.dueKey(slot, 1, 1, 2, 3, 4, 5, 6, 7, 8, 9, 10);
            for (int other = 0; other <= 9; other++) {
                desk.due(other == slot ? 10 : 0, "elements", other);
            }
        }

        tests("Terms: a STRING, a row of at most 12 letters");
        AskedDesk all = desk();
        for (int slot = 0; slot <= 9; slot++) {
            all.string(slot, FULL).due(-5, "put", slot, 0);
        }
        for (int slot = 0; slot <= 9; slot++) {
            for (int k = 11; k >= 0; k--) {
                all.due(FULL[k], "take", slot);
            }
            all.due(-4, "take", slot);
        }

        tests("Terms: a STRING, empty at first");
        for (int slot = 0; slot <= 9; slot++) {
            desk().due(0, "elements", slot).due(-4, "take", slot).due(1, "put", slot, 9);
        }
    }

    private static TreeSet<Integer> wordsOf(int size) {
        TreeSet<Integer> words = new TreeSet<>();
        for (int a = 0; a <= 9; a++) {
            for (int b = 0; b <= (size > 1 ? 9 : 0); b++) {
                for (int c = 0; c <= (size > 2 ? 9 : 0); c++) {
                    words.add(a + 1 + (size > 1 ? 11 * (b + 1) : 0) + (size > 2 ? 121 * (c + 1) : 0));
                }
            }
        }
        return words;
    }

    private static void wordsOfTheTerms() {
        tests("Terms: a number that comes out so for no row of 1 to 3 letters is no word");
        TreeSet<Integer> single = wordsOf(1);
        TreeSet<Integer> longer = wordsOf(2);
        longer.addAll(wordsOf(3));
        for (int number = -1500; number <= 16000; number++) {
            int entry = single.contains(number) ? 0 : longer.contains(number) ? 1 : -1;
            AskedDesk desk = desk().due(longer.contains(number) ? -2 : -1, "forget", number);
            desk.due(entry, "entry", number, 0, -1).due(entry == 1 ? 0 : -1, "forget", number);
        }
        for (int far : new int[] {LEAST, LEAST + 1, GREATEST - 1, GREATEST, -1330, 1331 + 1330, 1 << 16, 1 << 30}) {
            desk().due(-1, "entry", far, 0, -1).due(-1, "forget", far);
        }

        tests("Terms: a WORD is its letters, the first with the factor 1");
        AskedDesk desk = desk().due(1, "entry", 1 + 11 * 2 + 121 * 3, element(30, 1, 1), -1);
        desk.string(0, 0, 1, 2).string(1, 2, 1, 0).dueKey(0, 1, 30).dueKey(1, 1, 3, 2, 1);
        desk.due(2, "entry", 1 + 11 * 2, element(29, 1, 1), -1);
        desk.string(2, 0, 1).string(3, 1, 0).dueKey(2, 1, 29).dueKey(3, 1, 2, 1);
    }

    private static void elementsOfTheTerms() {
        tests("Terms: an ELEMENT has weights 0 to 30, 0 to 7 and 0 to 3, and is the number p + 32 * s + 256 * t");
        for (int number = -1100; number <= 3000; number++) {
            int first = Math.floorMod(number, 32);
            boolean is = number >= 0 && number < 1024 && first != 31;
            desk().due(is ? 0 : -2, "entry", 1, number, -1);
            desk().due(is || number == -1 ? 0 : -2, "entry", 1, 0, number);
        }
        for (int p = 0; p <= 30; p++) {
            for (int s = 0; s <= 7; s++) {
                for (int t = 0; t <= 3; t++) {
                    AskedDesk desk = desk().due(0, "entry", 1, element(p, s, t), -1).due(1, "put", 0, 0);
                    int size = (p > 0 ? 1 : 0) + (s > 0 ? 1 : 0) + (t > 0 ? 1 : 0) + 2;
                    desk.due(size, "keySize", 0, 3).due(p, "keyAt", 0, 3, 0);
                    desk.due(s, "keyAt", 0, 3, p > 0 ? 2 : 1);
                    desk.due(t > 0 ? t : -4, "keyAt", 0, 3, t > 0 ? size - 1 : size);
                }
            }
        }
    }

    private static void entriesOfTheTerms() {
        tests("Terms: each single letter always has an entry; at first letter c has one element, (c + 1, 1, 1)");
        for (int letter = 0; letter <= 9; letter++) {
            AskedDesk desk = desk().string(0, letter).due(1, "elements", 0);
            desk.due(-1, "forget", letter + 1).dueKey(0, 4, letter + 1, 0, 1, 0, 1, 0);
            desk.due(0, "entry", letter + 1, 1022, 0).due(-1, "forget", letter + 1).due(2, "elements", 0);
            desk.dueKey(0, 4, 30, 0, 7, 0, 3, 0);
        }

        tests("Terms: at most 6 entries for words of 2 or 3 letters");
        AskedDesk six = deskWithSixWords();
        six.due(-3, "entry", word(9, 8), 0, -1).due(-3, "entry", word(9, 8, 7), 0, 0);
        for (int k = 0; k < 6; k++) {
            six.due(6, "entry", SIX_WORDS[k], element(20 + k, 1, 1), element(1, 1, 1));
        }
        six.due(-3, "entry", word(9, 8), 0, -1).due(5, "forget", 12).due(6, "entry", word(9, 8), 0, -1);
        six.due(-3, "entry", 12, 0, -1);

        tests("Terms: entries for words of 2 or 3 letters, at first none");
        for (int number = 0; number <= 1331; number++) {
            if (wordsOf(2).contains(number) || wordsOf(3).contains(number)) {
                desk().due(-2, "forget", number);
            }
        }
    }

    private static void elementsOfAString() {
        tests("Terms: the elements of a string: the longest word with an entry that stands there");
        AskedDesk desk = desk().string(0, 0, 1, 2).string(1, 0, 1).string(2, 0).string(3, 0, 1, 3);
        desk.due(1, "entry", word(0, 1, 2), element(30, 1, 1), -1);
        // The word of three letters is found though its first two letters have no entry.
        desk.dueKey(0, 1, 30).dueKey(1, 1, 1, 2).dueKey(2, 1, 1).dueKey(3, 1, 1, 2, 4);
        desk.due(2, "entry", word(0, 1), element(20, 1, 1), -1);
        desk.dueKey(0, 1, 30).dueKey(1, 1, 20).dueKey(2, 1, 1).dueKey(3, 1, 20, 4);
        desk.due(1, "forget", word(0, 1, 2)).dueKey(0, 1, 20, 3);

        tests("Terms: the elements of a string: and so on behind this word until the end");
        AskedDesk behind = desk().due(1, "entry", word(0, 0), element(20, 1, 1), element(21, 1, 1));
        behind.string(0, 0, 0, 0, 0, 0).dueKey(0, 1, 20, 21, 20, 21, 1);
        behind.due(2, "entry", word(0, 0, 0), element(30, 1, 1), -1).dueKey(0, 1, 30, 20, 21);
        // The longest word at a place is taken, also where another one would leave longer words behind it.
        AskedDesk first = desk().due(1, "entry", word(0, 1), 20, -1).due(2, "entry", word(1, 2, 3), 30, -1);
        first.string(0, 0, 1, 2, 3).dueKey(0, 1, 20, 3, 4);

        tests("Terms: the elements of a string: no word goes over its end");
        AskedDesk edge = desk().due(1, "entry", word(1, 1), 20, -1).due(2, "entry", word(1, 1, 1), 21, -1);
        edge.string(0, 0, 0, 0, 0, 0, 0, 0, 0, 0, 0, 0, 1).string(1, 1, 1).string(2, 1);
        edge.due(12, "elements", 0).due(1, "elements", 1).due(1, "elements", 2);
        edge.due(1, "take", 1).dueKey(1, 1, 2);

        tests("Terms: the elements of a full string: at most two for each letter");
        AskedDesk full = desk().due(0, "entry", 1, 1, 2).string(0, 0, 0, 0, 0, 0, 0, 0, 0, 0, 0, 0, 0);
        full.due(24, "elements", 0).due(24, "keySize", 0, 1).due(2, "keyAt", 0, 1, 23).due(-4, "keyAt", 0, 1, 24);
    }

    private static void settingsOfTheTerms() {
        tests("Terms: SETTINGS: BACKWARDS at first 0");
        AskedDesk desk = desk().due(0, "entry", 1, element(1, 2, 1), element(0, 3, 1)).string(0, 0);
        desk.dueKey(0, 4, 1, 0, 2, 3, 0, 1, 1, 0);

        tests("Terms: SETTINGS: SHIFTED at first 0, and then each element has the FOURTH weight 0");
        desk().string(0, FULL).due(39, "keySize", 0, 4).due(0, "keyAt", 0, 4, 38);
        AskedDesk off = desk().due(1, "settings", 0, 0, 30).string(0, 0, 9).dueKey(0, 4, 1, 10, 0, 1, 1, 0, 1, 1, 0);
        off.due(0, "entry", 1, 0, -1).dueKey(0, 4, 10, 0, 1, 0, 1, 0);

        tests("Terms: a first weight from 1 to TOP is VARIABLE");
        for (int top = 0; top <= 30; top++) {
            for (int first = 0; first <= 30; first++) {
                AskedDesk one = desk().due(0, "entry", 1, element(first, 2, 3), -1).string(0, 0);
                one.due(1, "settings", 0, 1, top);
                if (first == 0) {
                    one.dueKey(0, 4, 0, 2, 0, 3, 0, 31);
                } else if (first <= top) {
                    one.dueKey(0, 4, 0, 0, 0, first);
                } else {
                    one.dueKey(0, 4, first, 0, 2, 0, 3, 0, 31);
                }
            }
        }
    }

    private static void whatFollowsVariableElements() {
        // Letter 0 is variable, 1 has no first weight, 2 has no weight, 3 is above TOP.
        int[][] strings = {
            {0, 1}, {1, 0}, {3, 1}, {0, 1, 1}, {0, 3, 1}, {0, 2, 1}, {0, 1, 2, 1}, {2}, {3, 2, 1}, {1, 2}};
        int[][] fourths = {{1}, {31, 1}, {31, 31}, {1}, {1, 31, 31}, {1}, {1}, {}, {31, 31}, {31}};
        int[][] seconds = {{}, {5}, {1, 5}, {}, {1, 5}, {}, {}, {}, {1, 5}, {5}};
        String[] sentences = {
            "an element with the first weight 0 that directly follows a variable one", "one before it does not follow",
            "one behind another element does not follow", "or another such one",
            "one behind what is not variable again does not follow", "one behind an empty one that follows",
            "one behind two such ones", "those with all three weights 0 have the fourth weight 0",
            "an empty one does not make the next one follow", "all other elements have the fourth weight 31"};
        for (int k = 0; k < strings.length; k++) {
            tests("Terms: " + sentences[k]);
            AskedDesk desk = desk().due(0, "entry", 2, element(0, 5, 0), -1).due(0, "entry", 3, 0, -1);
            desk.due(1, "settings", 0, 1, 1).string(0, strings[k]);
            boolean above = strings[k].length > 1 && (strings[k][0] == 3 || strings[k][1] == 3);
            int[] key = new int[(above ? 2 : 0) + 3 + seconds[k].length + fourths[k].length];
            int end = 0;
            if (above) key[end++] = 4;
            key[end++] = 0;
            for (int second : seconds[k]) key[end++] = second;
            key[end++] = 0;
            if (above) key[end++] = 1;
            key[end++] = 0;
            for (int fourth : fourths[k]) key[end++] = fourth;
            desk.dueKey(0, 4, key);
        }

        tests("Terms: one with a single weight other than 0 has the fourth weight 31");
        for (int single : new int[] {element(30, 0, 0), element(0, 1, 0), element(0, 0, 1)}) {
            AskedDesk desk = desk().due(0, "entry", 1, single, -1).string(0, 0).due(1, "settings", 0, 1, 29);
            desk.due(5, "keySize", 0, 4).due(31, "keyAt", 0, 4, 4);
        }

        tests("Terms: the two elements of one entry follow each other too");
        AskedDesk pair = desk().due(0, "entry", 1, element(3, 1, 1), element(0, 2, 2)).string(0, 0, 0);
        pair.due(1, "settings", 0, 1, 3).dueKey(0, 4, 0, 0, 0, 3, 3);
        pair.due(1, "settings", 0, 1, 2).dueKey(0, 4, 3, 3, 0, 1, 2, 1, 2, 0, 1, 2, 1, 2, 0, 31, 31, 31, 31);
    }

    private static void keysOfTheTerms() {
        tests("Terms: THE KEY of the empty string");
        desk().dueKey(0, 1).dueKey(0, 2, 0).dueKey(0, 3, 0, 0).dueKey(0, 4, 0, 0, 0);
        desk().due(1, "settings", 1, 1, 30).dueKey(9, 1).dueKey(9, 2, 0).dueKey(9, 3, 0, 0).dueKey(9, 4, 0, 0, 0);

        tests("Terms: THE KEY: without those that are 0");
        AskedDesk none = desk().due(0, "entry", 1, 0, 0).string(0, 0, 0).due(4, "elements", 0);
        none.dueKey(0, 1).dueKey(0, 2, 0).dueKey(0, 3, 0, 0).dueKey(0, 4, 0, 0, 0);
        none.due(1, "settings", 1, 1, 30).dueKey(0, 4, 0, 0, 0);

        tests("Terms: THE KEY: in the opposite order if BACKWARDS is 1, the second weights alone");
        AskedDesk back = desk().due(0, "entry", 1, element(5, 1, 3), element(6, 2, 2));
        back.due(0, "entry", 2, element(0, 0, 1), element(7, 3, 0)).string(0, 0, 1);
        back.due(1, "settings", 0, 1, 0).dueKey(0, 4, 5, 6, 7, 0, 1, 2, 3, 0, 3, 2, 1, 0, 31, 31, 31, 31);
        back.due(1, "settings", 1, 1, 0).dueKey(0, 4, 5, 6, 7, 0, 3, 2, 1, 0, 3, 2, 1, 0, 31, 31, 31, 31);

        tests("Terms: THE KEY of the full string with two elements for each letter");
        AskedDesk full = desk().due(0, "entry", 1, 1022, 1022).string(9, 0, 0, 0, 0, 0, 0, 0, 0, 0, 0, 0, 0);
        full.due(1, "settings", 1, 1, 29).due(24, "keySize", 9, 1).due(49, "keySize", 9, 2);
        full.due(74, "keySize", 9, 3).due(99, "keySize", 9, 4);
        for (int place = 0; place < 99; place++) {
            int level = place / 25;
            int[] weights = {30, 7, 3, 31};
            full.due(place % 25 == 24 ? 0 : weights[level], "keyAt", 9, 4, place);
        }
        full.due(-4, "keyAt", 9, 4, 99).due(-4, "keyAt", 9, 3, 74);
        full.due(-4, "keyAt", 9, 2, 49).due(-4, "keyAt", 9, 1, 24);

        tests("Terms: THE KEY: the greatest keys of all slots beside each other");
        AskedDesk all = desk().due(0, "entry", 1, 1022, 1022).due(1, "settings", 0, 1, 29);
        all.string(0, 0, 0, 0, 0, 0, 0, 0, 0, 0, 0, 0, 0);
        for (int slot = 1; slot <= 9; slot++) {
            all.due(12, "copy", slot, 0);
        }
        for (int slot = 0; slot <= 9; slot++) {
            all.due(0, "compare", slot, 9 - slot, 4).due(0, "compare", slot, (slot + 1) % 10, 4);
            all.due(0, "rank", slot, 4).due(slot, "nth", slot, 4).due(0, "find", slot, 9 - slot, 4, 0);
            all.due(-4, "find", slot, (slot + 1) % 10, 4, 1);
        }
        all.due(1, "kinds", 4);
        // The third weight of the last element is the only one that differs.
        all.due(0, "entry", 2, 1022, element(30, 7, 2)).due(0, "take", 5).due(12, "put", 5, 1);
        all.due(1, "kinds", 2).due(2, "kinds", 3).due(2, "kinds", 4).due(0, "rank", 5, 4).due(1, "rank", 6, 4);
        all.due(5, "nth", 0, 4).due(0, "find", 5, 4, 2, 0).due(-4, "find", 5, 4, 4, 0).due(0, "find", 5, 5, 4, 0);

        tests("Terms: ORDERED: the lesser number at the first place where the two differ");
        AskedDesk order = desk().string(0, 0, 9).string(1, 1, 0).string(2, 0);
        order.due(-1, "compare", 0, 1, 4).due(1, "compare", 1, 0, 4);
        // At strength 2 the shorter string has the 0 before its second weights where the longer one has a weight.
        order.due(-1, "compare", 2, 0, 2).due(1, "compare", 0, 2, 2);

        tests("Terms: ORDERED: or that ends first if they do not differ until then");
        AskedDesk ends = desk().due(0, "entry", 2, element(0, 1, 0), -1).string(0, 0).string(1, 0, 1).string(2, 0, 0);
        ends.due(-1, "compare", 0, 2, 1).due(1, "compare", 2, 0, 1);
        ends.due(-1, "compare", 0, 1, 2).due(1, "compare", 1, 0, 2).due(0, "compare", 0, 1, 1);
        ends.due(-1, "compare", 9, 0, 1).due(1, "compare", 0, 9, 1);

        tests("Terms: ORDERED: or that ends first, also where a longer key was asked for before");
        AskedDesk shorter = desk().string(0, 0, 9, 9).string(1, 0, 1);
        shorter.due(1, "compare", 0, 1, 1).due(9, "take", 0).due(9, "take", 0).due(-1, "compare", 0, 1, 1);
        shorter.due(1, "compare", 1, 0, 1).due(8, "rank", 0, 1).due(9, "rank", 1, 1).due(1, "nth", 9, 1);
    }

    // ---- Promises 1 to 4

    private static void promise1() {
        tests("Promise 1: a new object is as named above");
        AskedDesk desk = desk();
        for (int slot = 0; slot <= 9; slot++) {
            desk.due(0, "elements", slot).due(0, "rank", slot, 4).due(slot, "nth", slot, 4);
        }
        desk.due(1, "kinds", 1).due(1, "kinds", 4).due(0, "compare", 0, 9, 4).due(0, "find", 0, 9, 4, 0);

        tests("Promise 1: objects share nothing");
        AskedDesk used = desk().string(0, FULL).due(1, "settings", 1, 1, 30).due(0, "entry", 1, 1022, 1022);
        used.due(1, "entry", 12, 1, -1);
        AskedDesk fresh = desk().due(0, "elements", 0).string(0, 0).dueKey(0, 4, 1, 0, 1, 0, 1, 0);
        fresh.due(-2, "forget", 12);
        used.due(-5, "put", 0, 0).due(1, "take", 0).due(0, "forget", 12);
    }

    private static void promise2() {
        tests("Promise 2: slot: -2");
        for (int slot : NO_SLOTS) {
            desk().due(-2, "put", slot, 0).due(-2, "put", slot, 9);
        }
        desk().due(1, "put", 0, 0).due(1, "put", 9, 0);

        tests("Promise 2: letter is not 0 to 9: -4");
        for (int letter : NO_LETTERS) {
            desk().due(-4, "put", 0, letter).due(-4, "put", 9, letter).due(0, "elements", 0).due(0, "elements", 9);
        }
        desk().due(1, "put", 0, 0).due(2, "put", 0, 9).due(9, "take", 0).due(0, "take", 0);

        tests("Promise 2: it has 12 letters: -5");
        for (int slot = 0; slot <= 9; slot++) {
            AskedDesk desk = desk().string(slot, 9, 9, 9, 9, 9, 9, 9, 9, 9, 9, 9).due(12, "put", slot, 8);
            desk.due(-5, "put", slot, 0).due(-5, "put", slot, 9).due(12, "elements", slot).due(8, "take", slot);
            desk.due(12, "put", slot, 0).due(-5, "put", slot, 1).due(0, "take", slot).due(9, "take", slot);
        }

        tests("Promise 2: answers how many it has");
        AskedDesk counts = desk();
        for (int size = 1; size <= 12; size++) {
            counts.due(size, "put", 4, 0).due(size, "elements", 4);
        }

        tests("Promise 2: slot before letter, letter before full");
        AskedDesk full = desk().string(0, FULL);
        for (int letter : NO_LETTERS) {
            full.due(-4, "put", 0, letter);
            for (int slot : NO_SLOTS) {
                full.due(-2, "put", slot, letter);
            }
        }
    }

    private static void promise3() {
        tests("Promise 3: slot: -2");
        for (int slot : NO_SLOTS) {
            desk().string(0, 5).string(9, 6).due(-2, "take", slot).due(5, "take", 0).due(6, "take", 9);
        }

        tests("Promise 3: it is empty: -4");
        for (int slot = 0; slot <= 9; slot++) {
            AskedDesk desk = desk().due(-4, "take", slot).due(-4, "take", slot).string(slot, 0);
            desk.due(0, "take", slot).due(-4, "take", slot).due(1, "put", slot, 9).due(9, "take", slot);
        }

        tests("Promise 3: from a full string to an empty one");
        AskedDesk full = desk().string(9, FULL);
        for (int k = 11; k >= 0; k--) {
            full.due(FULL[k], "take", 9).due(k, "elements", 9);
        }
        full.due(-4, "take", 9);
    }

    private static void promise4() {
        tests("Promise 4: slots: -2");
        for (int slot : NO_SLOTS) {
            AskedDesk desk = desk().string(0, 1, 2).string(9, 3);
            desk.due(-2, "copy", slot, 0).due(-2, "copy", 0, slot).due(-2, "copy", 9, slot).due(-2, "copy", slot, slot);
            desk.dueKey(0, 1, 2, 3).dueKey(9, 1, 4);
        }
        for (int other : NO_SLOTS) {
            for (int slot : NO_SLOTS) {
                desk().due(-2, "copy", slot, other);
            }
        }

        tests("Promise 4: the empty string becomes that of a slot");
        desk().string(0, FULL).due(0, "copy", 0, 9).due(0, "elements", 0).due(-4, "take", 0).due(1, "put", 0, 7)
                .due(7, "take", 0);
        desk().due(0, "copy", 9, 0).due(0, "copy", 0, 0).due(-4, "take", 9);

        tests("Promise 4: the full string becomes that of a slot");
        AskedDesk full = desk().string(9, FULL).string(0, 5).due(12, "copy", 0, 9).due(-5, "put", 0, 0);
        full.due(0, "compare", 0, 9, 4).due(12, "copy", 9, 9).due(1, "take", 9).due(12, "elements", 0);
        full.due(11, "copy", 0, 9).due(12, "put", 0, 3).due(11, "elements", 9);

        tests("Promise 4: a slot becomes that of itself");
        desk().string(5, 1, 2, 3).due(3, "copy", 5, 5).dueKey(5, 1, 2, 3, 4);
    }

    // ---- Promises 5 to 8

    private static void promise5() {
        tests("Promise 5: word is none: -1");
        int[] noWords = {-1, 0, 11, 22, 110, 121, 122, 131, 132, 143, 242, 1210, 1221, 1320, 1331, 1332,
            LEAST, GREATEST};
        for (int none : noWords) {
            desk().due(-1, "entry", none, 0, -1).due(-1, "entry", none, 1022, 1022);
        }
        int[] edges = {1, 10, 12, 21, 23, 120, 133, 142, 144, 1209, 1222, 1330};
        int[] counts = {0, 0, 1, 1, 1, 1, 1, 1, 1, 1, 1, 1};
        for (int k = 0; k < edges.length; k++) {
            desk().due(counts[k], "entry", edges[k], 0, -1).due(counts[k], "entry", edges[k], 1022, 1022);
        }

        tests("Promise 5: one is no element's number: -2");
        int[] noElements = {-1, -2, 31, 63, 255, 287, 991, 1023, 1024, 1055, LEAST, GREATEST};
        for (int none : noElements) {
            desk().due(-2, "entry", 1, none, -1).due(-2, "entry", 12, none, 0).due(-2, "forget", 12);
        }
        for (int last : new int[] {0, 30, 32, 254, 256, 286, 1022}) {
            desk().due(0, "entry", 1, last, -1).due(1, "entry", 12, last, last);
        }

        tests("Promise 5: two is none and not -1: -2");
        for (int none : noElements) {
            desk().due(none == -1 ? 0 : -2, "entry", 1, 0, none).due(none == -1 ? 1 : -2, "entry", 1330, 0, none);
        }
        desk().due(0, "entry", 1, 0, -1).string(0, 0).due(1, "elements", 0)
                .due(0, "entry", 1, 0, 0).due(2, "elements", 0).due(0, "entry", 1, 0, 1022).due(2, "elements", 0)
                .due(0, "entry", 1, 5, -1).due(1, "elements", 0);

        tests("Promise 5: there are 6 such entries: -3");
        AskedDesk six = deskWithSixWords().due(-3, "entry", word(5, 5), 1, -1).due(-3, "entry", word(5, 5, 5), 1, 2);
        six.due(-2, "forget", word(5, 5)).due(-2, "forget", word(5, 5, 5)).string(0, 5, 5, 5).due(3, "elements", 0);

        tests("Promise 5: the sixth is taken, and again after a forget");
        AskedDesk again = deskWithSixWords();
        for (int k = 0; k < 6; k++) {
            again.due(5, "forget", SIX_WORDS[k]).due(6, "entry", word(5, 4, k), 0, -1);
            again.due(-3, "entry", SIX_WORDS[k], 0, -1);
        }

        tests("Promise 5: with 6 entries, one in place of another and one of a letter are taken");
        AskedDesk inPlace = deskWithSixWords();
        for (int k = 0; k < 6; k++) {
            inPlace.due(6, "entry", SIX_WORDS[k], element(30, 7, 3), 0).due(6, "entry", k + 1, element(1, 0, 0), -1);
        }
        inPlace.due(6, "entry", 10, 0, 0).string(1, 9).due(2, "elements", 1);
        inPlace.string(0, 0, 1).dueKey(0, 3, 30, 0, 7, 0, 3);

        tests("Promise 5: word before elements, elements before 6 entries");
        AskedDesk order = deskWithSixWords();
        order.due(-1, "entry", 0, -1, 31).due(-1, "entry", 1331, 31, -1).due(-1, "entry", 11, 0, 1024);
        order.due(-1, "entry", 121, 0, -1).due(-2, "entry", word(5, 5), 31, -1).due(-2, "entry", word(5, 5), 0, 31);
        order.due(-2, "entry", word(5, 5), -1, -2).due(-2, "entry", 12, 1023, -1).due(-3, "entry", word(5, 5), 0, -1);
    }

    private static void promise6() {
        tests("Promise 6: word is none: -1");
        for (int none : new int[] {-1, 0, 11, 22, 121, 122, 132, 1331, LEAST, GREATEST}) {
            deskWithSixWords().due(-1, "forget", none).due(5, "forget", 12);
        }

        tests("Promise 6: or has 1 letter: -1");
        for (int letter = 0; letter <= 9; letter++) {
            AskedDesk desk = desk().due(0, "entry", letter + 1, 1022, 1).due(-1, "forget", letter + 1);
            desk.string(0, letter).dueKey(0, 1, 30, 1);
        }

        tests("Promise 6: it has no entry: -2");
        desk().due(-2, "forget", 12).due(-2, "forget", 120).due(-2, "forget", 133).due(-2, "forget", 1330);
        deskWithSixWords().due(-2, "forget", word(1, 1)).due(-2, "forget", word(0, 0, 1)).due(5, "forget", word(0, 1))
                .due(-2, "forget", word(0, 1)).due(4, "forget", word(0, 1, 2));

        tests("Promise 6: from six entries to none, each one as the first");
        for (int first = 0; first < 6; first++) {
            AskedDesk desk = deskWithSixWords();
            for (int k = 0; k < 6; k++) {
                int word = SIX_WORDS[(first + k) % 6];
                desk.due(5 - k, "forget", word).due(-2, "forget", word);
            }
            desk.string(0, 0, 1, 2).dueKey(0, 1, 1, 2, 3).due(1, "entry", 12, 0, -1);
        }

        tests("Promise 6: the entries that are left keep their elements");
        int[][] keysWithout = {{1, 1}, {10, 10}, {11, 1}, {12, 10}, {1, 2}, {15, 3}};
        for (int gone = 0; gone < 6; gone++) {
            AskedDesk desk = deskWithSixWords().due(5, "forget", SIX_WORDS[gone]).string(gone, SIX_ROWS[gone]);
            desk.dueKey(gone, 1, keysWithout[gone]);
            for (int left = 0; left < 6; left++) {
                if (left != gone) {
                    desk.string(left, SIX_ROWS[left]).dueKey(left, 1, 11 + left);
                }
            }
        }
    }

    private static void promise7Letters() {
        tests("Promise 7: a is not 0 to 9: -1");
        for (int none : NO_LETTERS) {
            desk().due(-1, "tailor", none, 0, 1).due(-1, "tailor", none, 9, 3);
        }

        tests("Promise 7: b is not 0 to 9: -1");
        for (int none : NO_LETTERS) {
            desk().due(-1, "tailor", 0, none, 1).due(-1, "tailor", 9, none, 3).due(-1, "tailor", none, none, 2);
        }

        tests("Promise 7: the first and the last letter are taken");
        desk().due(element(2, 1, 1), "tailor", 0, 9, 1);
        desk().due(element(11, 1, 1), "tailor", 9, 0, 1);

        tests("Promise 7: or they are the same: -1");
        for (int letter = 0; letter <= 9; letter++) {
            desk().due(-1, "tailor", letter, letter, 1).due(-1, "tailor", letter, letter, 2)
                    .due(-1, "tailor", letter, letter, 3);
        }
        // Letters with the same element are not the same letter.
        desk().due(0, "entry", 2, element(1, 1, 1), -1).due(element(1, 1, 2), "tailor", 0, 1, 3);

        tests("Promise 7: level is not 1 to 3: -2");
        for (int level : NO_LEVELS) {
            desk().due(-2, "tailor", 0, 1, level).due(-2, "tailor", 9, 8, level);
        }
        desk().due(element(2, 1, 1), "tailor", 0, 1, 1);
        desk().due(element(1, 2, 1), "tailor", 0, 1, 2);
        desk().due(element(1, 1, 2), "tailor", 0, 1, 3);

        tests("Promise 7: letters before level, level before weights");
        AskedDesk order = desk().due(0, "entry", 1, 1022, -1);
        for (int level : NO_LEVELS) {
            order.due(-2, "tailor", 0, 1, level).due(-1, "tailor", 0, 0, level);
            for (int none : NO_LETTERS) {
                order.due(-1, "tailor", none, 0, level).due(-1, "tailor", 0, none, level);
            }
        }
        for (int level = 1; level <= 3; level++) {
            order.due(-1, "tailor", 0, 0, level).due(-1, "tailor", 0, 10, level).due(-3, "tailor", 0, 1, level);
        }
    }

    /** The element (5, 3, 1), but with another weight at a level. */
    private static int with(int level, int weight) {
        return element(level == 1 ? weight : 5, level == 2 ? weight : 3, level == 3 ? weight : 1);
    }

    private static final int[] TOPS = {0, 30, 7, 3};

    /** What b has behind a letter with the element with(level, weight). */
    private static int behind(int level, int weight) {
        if (level == 1) {
            return element(weight + 1, 1, 1);
        }
        return level == 2 ? element(5, weight + 1, 1) : element(5, 3, weight + 1);
    }

    private static void promise7GreatestWeights() {
        for (int level = 1; level <= 3; level++) {
            int top = TOPS[level];
            String what = "Promise 7, level " + level + ": ";

            tests(what + "b's new weight would be above " + top + ": -3");
            desk().due(0, "entry", 1, with(level, top), -1).due(-3, "tailor", 0, 1, level);
            desk().due(0, "entry", 1, with(level, top - 1), -1).due(behind(level, top - 1), "tailor", 0, 1, level);

            tests(what + "b's new weight behind the weight 0");
            desk().due(0, "entry", 1, with(level, 0), -1).due(behind(level, 0), "tailor", 0, 1, level);

            tests(what + "a weight of another letter would be above " + top + ": -3");
            for (int weight = 0; weight < top; weight++) {
                AskedDesk desk = desk().due(0, "entry", 1, with(level, weight), -1);
                desk.due(0, "entry", 10, with(level, top), -1).due(-3, "tailor", 0, 1, level);
                desk.due(0, "entry", 10, 0, with(level, top)).due(-3, "tailor", 0, 1, level);
                desk.due(0, "entry", 10, with(level, top - 1), -1).due(behind(level, weight), "tailor", 0, 1, level);
            }

            tests(what + "a weight of a's own second element would be above " + top + ": -3");
            desk().due(0, "entry", 1, with(level, 1), with(level, top)).due(-3, "tailor", 0, 1, level)
                    .due(0, "entry", 1, with(level, 1), with(level, top - 1))
                    .due(behind(level, 1), "tailor", 0, 1, level);

            tests(what + "a weight of b's entry of before would be above " + top + ": -3");
            AskedDesk before = desk().due(0, "entry", 1, with(level, 1), -1).due(0, "entry", 2, with(level, top), -1);
            before.due(-3, "tailor", 0, 1, level);
            before.due(0, "entry", 2, 0, with(level, top)).due(-3, "tailor", 0, 1, level);
            before.due(0, "entry", 2, with(level, top - 1), with(level, top - 1));
            before.due(behind(level, 1), "tailor", 0, 1, level).string(0, 1).due(1, "elements", 0);

            tests(what + "a weight of each of the six words would be above " + top + ": -3");
            for (int k = 0; k < 6; k++) {
                AskedDesk words = deskWithSixWords().due(6, "entry", 1, with(level, 1), -1);
                words.due(6, "entry", SIX_WORDS[k], with(level, top), -1).due(-3, "tailor", 0, 1, level);
                words.due(6, "entry", SIX_WORDS[k], 0, with(level, top)).due(-3, "tailor", 0, 1, level);
                words.due(6, "entry", SIX_WORDS[k], with(level, top - 1), with(level, top - 1));
                words.due(behind(level, 1), "tailor", 0, 1, level).due(-3, "tailor", 0, 1, level);
                words.due(5, "forget", SIX_WORDS[k]).due(behind(level, 1), "tailor", 0, 1, level);
            }
        }
    }

    private static void promise7WhatGrows() {
        for (int level = 1; level <= 3; level++) {
            tests("Promise 7, level " + level + ": weights that are greater than a's grow by 1, and no other");
            int middle = TOPS[level] == 3 ? 1 : 3;
            AskedDesk desk = desk().due(0, "entry", 1, with(level, middle), -1);
            desk.due(0, "entry", 3, with(level, middle - 1), with(level, middle));
            desk.due(0, "entry", 4, with(level, middle + 1), -1).due(1, "entry", 12, 0, with(level, middle + 1));
            desk.due(behind(level, middle), "tailor", 0, 1, level).string(0, 2).string(1, 3).string(2, 0, 0);
            if (level == 1) {
                desk.dueKey(0, 1, 2, 3).dueKey(1, 1, 5).dueKey(2, 1, 5);
            } else if (level == 2) {
                desk.dueKey(0, 2, 5, 5, 0, 2, 3).dueKey(1, 2, 5, 0, 5).dueKey(2, 2, 5, 0, 5);
            } else {
                desk.dueKey(0, 3, 5, 5, 0, 3, 3, 0, 1).dueKey(1, 3, 5, 0, 3, 0, 3).dueKey(2, 3, 5, 0, 3, 0, 3);
            }
        }

        tests("Promise 7: both elements of each entry grow, from the first letter to the last word");
        for (int letter = 0; letter <= 9; letter++) {
            int a = (letter + 1) % 10;
            AskedDesk desk = desk().due(0, "entry", a + 1, element(28, 1, 1), -1);
            desk.due(0, "entry", letter + 1, element(29, 1, 1), element(29, 2, 1));
            desk.due(element(29, 1, 1), "tailor", a, (letter + 2) % 10, 1).string(0, letter).dueKey(0, 1, 30, 30);
            desk.due(-3, "tailor", a, (letter + 2) % 10, 1);
        }
        for (int k = 0; k < 6; k++) {
            AskedDesk desk = deskWithSixWords().due(6, "entry", 6, element(28, 1, 1), -1);
            desk.due(6, "entry", SIX_WORDS[k], element(29, 1, 1), element(29, 2, 1)).string(0, SIX_ROWS[k]);
            desk.due(element(29, 1, 1), "tailor", 5, 6, 1).dueKey(0, 1, 30, 30);
        }

        tests("Promise 7: what has been moved is a letter's entry as before");
        for (int b = 0; b <= 9; b++) {
            int a = (b + 5) % 10;
            AskedDesk desk = desk().due(element(a + 2, 1, 1), "tailor", a, b, 1).string(0, b, b).due(2, "elements", 0);
            desk.dueKey(0, 1, a + 2, a + 2).due(0, "entry", b + 1, element(29, 1, 1), element(28, 1, 1));
            desk.dueKey(0, 1, 29, 28, 29, 28).due(-1, "forget", b + 1).due(-2, "forget", word(b, b));
        }

        tests("Promise 7, level 2: of elements with the first weight p alone");
        AskedDesk second = desk().due(0, "entry", 1, element(5, 3, 1), -1).due(0, "entry", 2, element(4, 7, 3), -1);
        second.due(0, "entry", 3, element(6, 7, 3), element(30, 7, 3)).due(0, "entry", 4, element(0, 7, 3), -1);
        second.due(element(5, 4, 1), "tailor", 0, 9, 2).string(0, 1, 2, 3).dueKey(0, 2, 4, 6, 30, 0, 7, 7, 7, 7);

        tests("Promise 7, level 3: of elements with the first weight p and the second weight s alone");
        AskedDesk third = desk().due(0, "entry", 1, element(5, 3, 1), -1).due(0, "entry", 2, element(5, 4, 3), -1);
        third.due(0, "entry", 3, element(5, 2, 3), element(6, 3, 3)).due(0, "entry", 4, element(4, 3, 3), 1022);
        third.due(element(5, 3, 2), "tailor", 0, 9, 3).string(0, 1, 2, 3);
        third.dueKey(0, 3, 5, 5, 6, 4, 30, 0, 4, 2, 3, 3, 7, 0, 3, 3, 3, 3, 3);

        tests("Promise 7: the first element of a's entry, not the second");
        AskedDesk pair = desk().due(0, "entry", 1, element(2, 2, 2), element(1, 7, 3));
        pair.due(element(2, 3, 1), "tailor", 0, 1, 2).due(element(2, 2, 3), "tailor", 0, 2, 3);
        pair.due(element(3, 1, 1), "tailor", 0, 3, 1);

        tests("Promise 7: moves one after the other, until the weights of the others are at the greatest");
        AskedDesk first = desk();
        for (int k = 1; k <= 20; k++) {
            first.due(element(2, 1, 1), "tailor", 0, 1, 1);
        }
        // Letter 9 has come from 10 to 30.
        first.due(-3, "tailor", 0, 1, 1).string(0, 9).dueKey(0, 1, 30).due(-3, "tailor", 9, 0, 1);
        AskedDesk levels = desk();
        for (int letter = 1; letter <= 6; letter++) {
            levels.due(element(1, 2, 1), "tailor", 0, letter, 2);
        }
        levels.due(-3, "tailor", 0, 7, 2).due(-3, "tailor", 0, 1, 2).string(0, 1).dueKey(0, 2, 1, 0, 7);
        levels.due(element(1, 1, 2), "tailor", 0, 7, 3).due(element(1, 1, 2), "tailor", 0, 8, 3);
        levels.due(-3, "tailor", 0, 9, 3).due(-3, "tailor", 0, 7, 3);
    }

    private static void promise8() {
        int[] noSwitches = {-1, 2, LEAST, GREATEST};
        int[] noTops = {-1, 31, LEAST, GREATEST};
        tests("Promise 8: backwards is not 0 or 1: -1");
        for (int none : noSwitches) {
            desk().due(-1, "settings", none, 0, 0).due(-1, "settings", none, 1, 30);
        }

        tests("Promise 8: shifted is not 0 or 1: -1");
        for (int none : noSwitches) {
            desk().due(-1, "settings", 0, none, 0).due(-1, "settings", 1, none, 30).due(-1, "settings", none, none, 0);
        }

        tests("Promise 8: top is not 0 to 30: -2");
        for (int none : noTops) {
            desk().due(-2, "settings", 0, 0, none).due(-2, "settings", 1, 1, none);
        }
        for (int top = 0; top <= 30; top++) {
            desk().due(1, "settings", 0, 0, top).due(1, "settings", 1, 1, top);
        }

        tests("Promise 8: the switches before top");
        for (int top : noTops) {
            for (int none : noSwitches) {
                desk().due(-1, "settings", none, 0, top).due(-1, "settings", 0, none, top)
                        .due(-1, "settings", none, none, top);
            }
        }

        tests("Promise 8: each setting at its least and its greatest");
        for (int backwards = 0; backwards <= 1; backwards++) {
            AskedDesk desk = desk().due(0, "entry", 1, element(30, 1, 1), element(29, 2, 1)).string(0, 0);
            int one = backwards == 0 ? 1 : 2;
            desk.due(1, "settings", backwards, 0, 0).dueKey(0, 4, 30, 29, 0, one, 3 - one, 0, 1, 1, 0);
            desk.due(1, "settings", backwards, 0, 30).dueKey(0, 4, 30, 29, 0, one, 3 - one, 0, 1, 1, 0);
            desk.due(1, "settings", backwards, 1, 0).dueKey(0, 4, 30, 29, 0, one, 3 - one, 0, 1, 1, 0, 31, 31);
            desk.due(1, "settings", backwards, 1, 28).dueKey(0, 4, 30, 29, 0, one, 3 - one, 0, 1, 1, 0, 31, 31);
            desk.due(1, "settings", backwards, 1, 29).dueKey(0, 4, 30, 0, 1, 0, 1, 0, 31, 29);
            desk.due(1, "settings", backwards, 1, 30).dueKey(0, 4, 0, 0, 0, 30, 29);
        }

        tests("Promise 8: each setting back to what it was at first");
        AskedDesk back = desk().due(0, "entry", 1, element(3, 1, 1), element(4, 2, 2)).string(0, 0);
        back.due(1, "settings", 1, 1, 3).dueKey(0, 4, 4, 0, 2, 0, 2, 0, 3, 31);
        back.due(1, "settings", 1, 1, 0).dueKey(0, 4, 3, 4, 0, 2, 1, 0, 1, 2, 0, 31, 31);
        back.due(1, "settings", 1, 0, 0).dueKey(0, 4, 3, 4, 0, 2, 1, 0, 1, 2, 0);
        back.due(1, "settings", 0, 0, 0).dueKey(0, 4, 3, 4, 0, 1, 2, 0, 1, 2, 0);
        back.due(1, "settings", 0, 1, 0).dueKey(0, 4, 3, 4, 0, 1, 2, 0, 1, 2, 0, 31, 31);
        back.due(0, "entry", 1, 0, 0).dueKey(0, 4, 0, 0, 0);
    }

    // ---- Promises 9 to 12

    private static void promise9() {
        tests("Promise 9: slot: -2");
        for (int slot : NO_SLOTS) {
            desk().due(-2, "elements", slot).string(0, 1).string(9, 1).due(-2, "elements", slot);
        }
        desk().string(0, 1).string(9, 1, 1).due(1, "elements", 0).due(2, "elements", 9);

        tests("Promise 9: the empty string has none, the full one from 4 to 24");
        AskedDesk desk = desk().due(0, "elements", 0).string(0, 1, 1, 1, 1, 1, 1, 1, 1, 1, 1, 1, 1);
        desk.due(12, "elements", 0).due(0, "entry", 2, 0, 0).due(24, "elements", 0);
        desk.due(1, "entry", word(1, 1), 0, -1).due(6, "elements", 0).due(2, "entry", word(1, 1, 1), 0, -1);
        desk.due(4, "elements", 0).due(2, "entry", word(1, 1, 1), 0, 0).due(8, "elements", 0);

        tests("Promise 9: elements whose weights count as 0 are counted too");
        desk.due(1, "settings", 0, 1, 30).due(8, "elements", 0);
        desk.due(2, "entry", word(1, 1, 1), 5, 0).due(8, "elements", 0);
    }

    private static void promise10() {
        tests("Promise 10: slots: -2");
        for (int none : NO_SLOTS) {
            desk().due(-2, "compare", none, 0, 1).due(-2, "compare", 0, none, 1).due(-2, "compare", none, none, 4)
                    .due(-2, "compare", 9, none, 4).due(-2, "compare", none, 9, 4);
        }

        tests("Promise 10: strength: -3");
        for (int none : NO_STRENGTHS) {
            desk().due(-3, "compare", 0, 9, none).due(-3, "compare", 9, 0, none).due(-3, "compare", 5, 5, none);
        }

        tests("Promise 10: slots before strength");
        for (int strength : NO_STRENGTHS) {
            for (int none : NO_SLOTS) {
                desk().due(-2, "compare", none, 0, strength).due(-2, "compare", 0, none, strength);
            }
        }

        tests("Promise 10: the first and the last slot at the first and the last strength");
        AskedDesk desk = desk().string(9, 0);
        for (int strength = 1; strength <= 4; strength++) {
            desk.due(-1, "compare", 0, 9, strength).due(1, "compare", 9, 0, strength).due(0, "compare", 9, 9, strength);
            desk.due(0, "compare", 0, 8, strength);
        }

        tests("Promise 10: equal: the keys are the same, at this strength and below");
        int[] apart = {element(2, 1, 1), element(1, 2, 1), element(1, 1, 2)};
        for (int level = 1; level <= 3; level++) {
            AskedDesk pair = desk().due(0, "entry", 2, apart[level - 1], -1).string(0, 0).string(1, 1);
            for (int strength = 1; strength <= 4; strength++) {
                int want = strength >= level ? -1 : 0;
                pair.due(want, "compare", 0, 1, strength).due(-want, "compare", 1, 0, strength);
            }
        }
        AskedDesk fourth = desk().due(1, "settings", 0, 1, 2).string(0, 0).string(1, 1);
        fourth.due(0, "compare", 0, 1, 3).due(-1, "compare", 0, 1, 4).due(1, "compare", 1, 0, 4);

        tests("Promise 10: full strings that differ at the last place alone");
        AskedDesk full = desk().string(0, 9, 9, 9, 9, 9, 9, 9, 9, 9, 9, 9, 8);
        full.string(1, 9, 9, 9, 9, 9, 9, 9, 9, 9, 9, 9, 9);
        full.due(-1, "compare", 0, 1, 1).due(1, "compare", 1, 0, 1).due(9, "take", 1).due(1, "compare", 0, 1, 1);
        AskedDesk end = desk().due(0, "entry", 1, 1022, 1022).due(0, "entry", 2, 1022, element(30, 7, 2));
        end.due(1, "settings", 0, 1, 0).string(0, 0, 0, 0, 0, 0, 0, 0, 0, 0, 0, 0, 0);
        end.string(1, 0, 0, 0, 0, 0, 0, 0, 0, 0, 0, 0, 1).due(0, "compare", 0, 1, 2).due(1, "compare", 0, 1, 3);
        end.due(0, "entry", 2, 1022, 0).due(1, "compare", 0, 1, 1);
    }

    private static void promise11() {
        tests("Promise 11: slot: -2");
        for (int none : NO_SLOTS) {
            desk().due(-2, "keySize", none, 1).due(-2, "keySize", none, 4);
        }

        tests("Promise 11: strength: -3");
        for (int none : NO_STRENGTHS) {
            desk().due(-3, "keySize", 0, none).due(-3, "keySize", 9, none);
        }

        tests("Promise 11: slot before strength");
        for (int strength : NO_STRENGTHS) {
            for (int none : NO_SLOTS) {
                desk().due(-2, "keySize", none, strength);
            }
        }

        tests("Promise 11: the empty string and the full one");
        AskedDesk desk = desk().string(9, FULL);
        for (int strength = 1; strength <= 4; strength++) {
            desk.due(strength - 1, "keySize", 0, strength);
        }
        desk.due(12, "keySize", 9, 1).due(25, "keySize", 9, 2).due(38, "keySize", 9, 3).due(39, "keySize", 9, 4);
        desk.due(1, "settings", 0, 1, 0).due(51, "keySize", 9, 4).due(1, "settings", 0, 1, 30).due(15, "keySize", 9, 4);
    }

    private static void promise12() {
        tests("Promise 12: slot: -2");
        for (int none : NO_SLOTS) {
            desk().due(-2, "keyAt", none, 2, 0).due(-2, "keyAt", none, 4, 2);
        }

        tests("Promise 12: strength: -3");
        for (int none : NO_STRENGTHS) {
            desk().string(0, 0).due(-3, "keyAt", 0, none, 0).due(-3, "keyAt", 9, none, 0);
        }

        tests("Promise 12: there is no such place: -4");
        AskedDesk desk = desk().string(9, 4);
        int[] sizes = {0, 1, 3, 5, 6};
        for (int strength = 1; strength <= 4; strength++) {
            desk.due(5, "keyAt", 9, strength, 0).due(-4, "keyAt", 9, strength, -1);
            desk.due(-4, "keyAt", 9, strength, sizes[strength]).due(-4, "keyAt", 9, strength, LEAST);
            desk.due(-4, "keyAt", 9, strength, GREATEST).due(strength == 1 ? 5 : strength == 4 ? 0 : 1,
                    "keyAt", 9, strength, sizes[strength] - 1);
            desk.due(-4, "keyAt", 0, strength, strength - 1).due(strength == 1 ? -4 : 0, "keyAt", 0, strength, 0);
        }

        tests("Promise 12: no place of another slot's key behind the end");
        desk().string(0, 0).string(1, 7, 7, 7).due(3, "keySize", 1, 1).due(1, "compare", 1, 0, 4)
                .due(-4, "keyAt", 0, 1, 1).due(-4, "keyAt", 0, 4, 99).due(-4, "keyAt", 0, 1, 99)
                .due(-4, "keyAt", 1, 1, -99);

        tests("Promise 12: slot before strength, strength before place");
        for (int place : new int[] {-1, 99, LEAST, GREATEST}) {
            for (int none : NO_SLOTS) {
                desk().due(-2, "keyAt", none, 1, place).due(-2, "keyAt", none, 0, place)
                        .due(-2, "keyAt", none, 5, place);
            }
            for (int none : NO_STRENGTHS) {
                desk().due(-3, "keyAt", 0, none, place).due(-3, "keyAt", 9, none, place);
            }
        }
    }

    // ---- Promises 13 to 16

    private static void promise13() {
        tests("Promise 13: slot: -2");
        for (int none : NO_SLOTS) {
            desk().due(-2, "rank", none, 1).due(-2, "rank", none, 4);
        }

        tests("Promise 13: strength: -3");
        for (int none : NO_STRENGTHS) {
            desk().due(-3, "rank", 0, none).due(-3, "rank", 9, none);
        }

        tests("Promise 13: slot before strength");
        for (int strength : NO_STRENGTHS) {
            for (int none : NO_SLOTS) {
                desk().due(-2, "rank", none, strength);
            }
        }

        tests("Promise 13: from no slot to nine slots are less, equal ones are not less");
        AskedDesk desk = desk();
        for (int slot = 0; slot <= 9; slot++) {
            desk.due(0, "rank", slot, 1).due(0, "rank", slot, 4);
        }
        for (int slot = 0; slot <= 9; slot++) {
            desk.string(slot, 9 - slot);
        }
        for (int slot = 0; slot <= 9; slot++) {
            desk.due(9 - slot, "rank", slot, 1).due(9 - slot, "rank", slot, 4);
        }
        desk.due(1, "copy", 8, 9).due(0, "rank", 8, 1).due(0, "rank", 9, 1).due(2, "rank", 7, 1).due(9, "rank", 0, 1);
        AskedDesk up = desk();
        for (int slot = 0; slot <= 9; slot++) {
            up.string(slot, slot);
        }
        for (int slot = 0; slot <= 9; slot++) {
            up.due(slot, "rank", slot, 1).due(slot, "rank", slot, 4);
        }
    }

    private static void promise14() {
        tests("Promise 14: strength: -3");
        for (int none : NO_STRENGTHS) {
            desk().due(-3, "nth", 0, none).due(-3, "nth", 9, none);
        }

        tests("Promise 14: k is not 0 to 9: -4");
        for (int none : new int[] {-1, 10, LEAST, GREATEST}) {
            desk().due(-4, "nth", none, 1).due(-4, "nth", none, 4);
        }

        tests("Promise 14: strength before k");
        for (int strength : NO_STRENGTHS) {
            for (int none : new int[] {-1, 10, LEAST, GREATEST}) {
                desk().due(-3, "nth", none, strength);
            }
        }

        tests("Promise 14: equal ones in the order of the slots' numbers");
        AskedDesk desk = desk().string(0, 1).string(5, 1).string(9, 0);
        int[] order = {1, 2, 3, 4, 6, 7, 8, 9, 0, 5};
        for (int k = 0; k <= 9; k++) {
            desk.due(order[k], "nth", k, 1).due(order[k], "nth", k, 4);
        }
        AskedDesk same = desk();
        for (int slot = 0; slot <= 9; slot++) {
            same.string(slot, 4);
        }
        for (int k = 0; k <= 9; k++) {
            same.due(k, "nth", k, 1).due(k, "nth", k, 4);
        }

        tests("Promise 14: ten different strings in the opposite order");
        AskedDesk down = desk();
        for (int slot = 0; slot <= 9; slot++) {
            down.string(slot, 9 - slot);
        }
        for (int k = 0; k <= 9; k++) {
            down.due(9 - k, "nth", k, 1).due(9 - k, "nth", k, 4);
        }
    }

    private static void promise15() {
        tests("Promise 15: strength: -3");
        for (int none : NO_STRENGTHS) {
            desk().due(-3, "kinds", none);
        }

        tests("Promise 15: from one kind to ten");
        for (int strength = 1; strength <= 4; strength++) {
            AskedDesk desk = desk().due(1, "kinds", strength);
            for (int slot = 0; slot <= 8; slot++) {
                desk.string(slot, slot).due(slot + 2, "kinds", strength);
            }
            desk.string(9, 9).due(10, "kinds", strength).due(1, "copy", 9, 0).due(9, "kinds", strength);
            for (int slot = 0; slot <= 9; slot++) {
                desk.due(1, "copy", slot, 5);
            }
            desk.due(1, "kinds", strength);
        }

        tests("Promise 15: strings that differ may have the same key");
        AskedDesk desk = desk().due(0, "entry", 1, 0, -1).string(0, 0).string(1, 0, 0).due(1, "kinds", 4);
        desk.due(0, "entry", 1, element(0, 1, 0), -1).due(1, "kinds", 1).due(3, "kinds", 2).due(3, "kinds", 4);
    }

    private static void promise16() {
        tests("Promise 16: slots: -2");
        for (int none : NO_SLOTS) {
            desk().due(-2, "find", none, 0, 1, 0).due(-2, "find", 0, none, 1, 0).due(-2, "find", none, none, 4, 0)
                    .due(-2, "find", 9, none, 4, 0).due(-2, "find", none, 9, 4, 0);
        }

        tests("Promise 16: strength: -3");
        for (int none : NO_STRENGTHS) {
            desk().due(-3, "find", 0, 9, none, 0).due(-3, "find", 9, 0, none, 0);
        }
        for (int strength = 1; strength <= 4; strength++) {
            desk().due(0, "find", 0, 9, strength, 0).due(0, "find", 9, 0, strength, 0);
        }

        tests("Promise 16: slots before strength, strength before none");
        for (int strength : NO_STRENGTHS) {
            for (int from : new int[] {LEAST, 13, GREATEST}) {
                desk().string(1, 1).due(-3, "find", 0, 1, strength, from);
                for (int none : NO_SLOTS) {
                    desk().due(-2, "find", none, 0, strength, from).due(-2, "find", 0, none, strength, from);
                }
            }
        }

        tests("Promise 16: the least place p, at least 'from'");
        AskedDesk desk = desk().string(0, 3, 4, 3, 4, 3).string(1, 3).string(2, 4, 3);
        int[] due = {0, 2, 2, 4, 4, -4, -4};
        int[] dueTwo = {1, 1, 3, 3, -4, -4, -4};
        for (int from = 0; from <= 6; from++) {
            desk.due(due[from], "find", 0, 1, 4, from).due(dueTwo[from], "find", 0, 2, 4, from);
        }
        for (int below : new int[] {-1, -13, LEAST}) {
            desk.due(0, "find", 0, 1, 4, below).due(1, "find", 0, 2, 4, below);
        }
        desk.due(-4, "find", 0, 1, 4, GREATEST).due(-4, "find", 0, 1, 4, GREATEST - 1);

        tests("Promise 16: also the empty row; p is at most the number of letters");
        for (int size = 0; size <= 12; size++) {
            AskedDesk empty = desk().string(9, java.util.Arrays.copyOf(FULL, size));
            for (int from = 0; from <= size; from++) {
                empty.due(from, "find", 9, 0, 4, from);
            }
            empty.due(-4, "find", 9, 0, 4, size + 1).due(0, "find", 9, 0, 1, -1).due(0, "find", 9, 0, 1, LEAST);
            empty.due(-4, "find", 9, 0, 1, GREATEST);
        }

        tests("Promise 16: in the empty string");
        desk().string(1, 0).due(-4, "find", 0, 1, 1, 0).due(0, "find", 0, 2, 4, 0).due(0, "find", 0, 0, 4, 0)
                .due(-4, "find", 0, 0, 4, 1).due(0, "find", 0, 0, 4, LEAST);
    }

    private static void promise16Rows() {
        tests("Promise 16: a row up to the end of the full string");
        AskedDesk full = desk().string(0, FULL).due(12, "copy", 1, 0).string(2, 0, 1).string(3, 1);
        full.due(0, "find", 0, 1, 4, 0).due(-4, "find", 0, 1, 4, 1).due(0, "find", 0, 0, 4, 0);
        full.due(0, "find", 0, 2, 4, 0).due(10, "find", 0, 2, 4, 1).due(10, "find", 0, 2, 4, 10);
        full.due(-4, "find", 0, 2, 4, 11).due(11, "find", 0, 3, 4, 2).due(11, "find", 0, 3, 4, 11);
        full.due(-4, "find", 0, 3, 4, 12);

        tests("Promise 16: no row goes over the end of the string");
        desk().string(0, 1, 2).string(1, 2, 3).string(2, 3).due(-4, "find", 0, 1, 1, 0).due(-4, "find", 0, 2, 1, 0);
        desk().string(0, 1, 2, 3).due(3, "take", 0).string(1, 2, 3).due(-4, "find", 0, 1, 1, 0);

        tests("Promise 16: a longer string is not found in a shorter one");
        desk().string(0, 1).string(1, 1, 1).due(-4, "find", 0, 1, 1, 0).due(0, "find", 1, 0, 1, 0);

        tests("Promise 16: taken as a string: words are taken anew in the row");
        AskedDesk words = desk().due(1, "entry", word(0, 1), element(20, 1, 1), -1).string(0, 0, 1, 2);
        words.string(1, 0).string(2, 1).string(3, 1, 2).string(4, 0, 1);
        words.due(0, "find", 0, 1, 4, 0).due(1, "find", 0, 2, 4, 0).due(1, "find", 0, 3, 4, 0);
        words.due(0, "find", 0, 4, 4, 0).due(-4, "find", 0, 4, 4, 1);

        tests("Promise 16: taken as a string: no variable element stands before the row");
        AskedDesk shifted = desk().due(0, "entry", 3, element(0, 5, 1), -1).due(1, "settings", 0, 1, 1);
        shifted.string(0, 0, 2).string(1, 2).string(2, 0);
        shifted.due(1, "find", 0, 1, 2, 0).due(1, "find", 0, 1, 4, 0).due(0, "find", 0, 2, 3, 0);
        shifted.due(0, "find", 0, 2, 4, 0).due(2, "find", 0, 2, 3, 2).due(-4, "find", 0, 2, 4, 1);

        tests("Promise 16: the same key at this strength");
        AskedDesk strengths = desk().due(0, "entry", 2, element(1, 2, 1), -1).due(0, "entry", 3, element(1, 1, 2), -1);
        strengths.string(0, 1, 2, 0).string(1, 0);
        strengths.due(0, "find", 0, 1, 1, 0).due(1, "find", 0, 1, 2, 0).due(2, "find", 0, 1, 3, 0);
        strengths.due(2, "find", 0, 1, 4, 0);

        tests("Promise 16: a string without weights has the key of the empty row");
        AskedDesk none = desk().due(0, "entry", 1, 0, 0).string(0, 5, 5).string(1, 0, 0).string(2, 5, 0);
        none.due(0, "find", 0, 1, 4, 0).due(2, "find", 0, 1, 4, 2).due(-4, "find", 0, 1, 4, 3);
        none.due(0, "find", 0, 2, 4, 0).due(1, "find", 0, 2, 4, 1).due(-4, "find", 0, 2, 4, 2);
    }

    public static void main(String[] args) {
        callsUpToTheLast();
        slotsAndLettersOfTheTerms();
        wordsOfTheTerms();
        elementsOfTheTerms();
        entriesOfTheTerms();
        elementsOfAString();
        settingsOfTheTerms();
        whatFollowsVariableElements();
        keysOfTheTerms();
        promise1();
        promise2();
        promise3();
        promise4();
        promise5();
        promise6();
        promise7Letters();
        promise7GreatestWeights();
        promise7WhatGrows();
        promise8();
        promise9();
        promise10();
        promise11();
        promise12();
        promise13();
        promise14();
        promise15();
        promise16();
        promise16Rows();
        AskedDesk.end("the boundary cases");
    }
}

/** Calls with the answers that the document asks for, worked out by hand, promise by promise. */
public final class PromiseTest {
    private static final int[] NO_SLOTS = {-1, 10, 11, Integer.MIN_VALUE, Integer.MAX_VALUE};
    private static final int[] NO_STRENGTHS = {-1, 0, 5, Integer.MIN_VALUE, Integer.MAX_VALUE};

    private static int wrong = 0;

    private static void due(String what, int got, int want) {
        if (got != want) {
            wrong++;
            System.out.println(what + " answered " + got + ", due is " + want);
        }
    }

    private static int element(int first, int second, int third) {
        return first + 32 * second + 256 * third;
    }

    private static int word(int... letters) {
        int word = 0;
        int scale = 1;
        for (int letter : letters) {
            word += scale * (letter + 1);
            scale *= 11;
        }
        return word;
    }

    private static void fill(CollationDesk desk, int slot, int... letters) {
        while (desk.take(slot) >= 0) {
            continue;
        }
        for (int letter : letters) {
            desk.put(slot, letter);
        }
    }

    private static CollationDesk deskWith(int... letters) {
        CollationDesk desk = new CollationDesk();
        fill(desk, 0, letters);
        return desk;
    }

    private static void dueKey(String what, CollationDesk desk, int slot, int strength, int... key) {
        due(what + ": keySize", desk.keySize(slot, strength), key.length);
        for (int place = 0; place < key.length; place++) {
            due(what + ": keyAt " + place, desk.keyAt(slot, strength, place), key[place]);
        }
        due(what + ": keyAt behind the end", desk.keyAt(slot, strength, key.length), -4);
    }

    private static void promise1NewObject() {
        CollationDesk desk = new CollationDesk();
        for (int slot = 0; slot < 10; slot++) {
            due("new: elements", desk.elements(slot), 0);
            due("new: take", desk.take(slot), -4);
            due("new: keySize 1", desk.keySize(slot, 1), 0);
            due("new: keySize 4", desk.keySize(slot, 4), 3);
        }
        due("new: kinds", desk.kinds(4), 1);
        for (int letter = 0; letter < 10; letter++) {
            fill(desk, 0, letter);
            dueKey("new: letter " + letter, desk, 0, 4, letter + 1, 0, 1, 0, 1, 0);
        }
        for (int word = -5; word < 1500; word++) {
            due("new: forget " + word, new CollationDesk().forget(word) < 0 ? 1 : 0, 1);
        }
        CollationDesk other = new CollationDesk();
        other.put(3, 3);
        other.settings(1, 1, 9);
        due("two objects share nothing", new CollationDesk().keySize(3, 4), 3);
    }

    private static void promise2Put() {
        CollationDesk desk = new CollationDesk();
        for (int slot : NO_SLOTS) {
            due("put slot " + slot, desk.put(slot, 0), -2);
            due("put slot before letter", desk.put(slot, 10), -2);
        }
        for (int size = 1; size <= 12; size++) {
            due("put letter -1", desk.put(9, -1), -4);
            due("put letter 10", desk.put(9, 10), -4);
            due("put", desk.put(9, size % 10), size);
        }
        due("put full", desk.put(9, 0), -5);
        due("put letter before full", desk.put(9, 10), -4);
        due("put full changes nothing", desk.elements(9), 12);
        dueKey("put at the end", desk, 9, 1, 2, 3, 4, 5, 6, 7, 8, 9, 10, 1, 2, 3);
        due("put leaves the others", desk.put(8, 0), 1);
    }

    private static void promise3Take() {
        CollationDesk desk = deskWith(4, 0, 9);
        for (int slot : NO_SLOTS) {
            due("take slot " + slot, desk.take(slot), -2);
        }
        due("take", desk.take(0), 9);
        due("take", desk.take(0), 0);
        due("take", desk.take(0), 4);
        due("take empty", desk.take(0), -4);
        due("take empty again", desk.take(0), -4);
        due("put after take", desk.put(0, 7), 1);
        dueKey("put after take", desk, 0, 1, 8);
    }

    private static void promise4Copy() {
        CollationDesk desk = deskWith(4, 0, 9);
        fill(desk, 1, 1, 1, 1, 1, 1);
        for (int slot : NO_SLOTS) {
            due("copy slot " + slot, desk.copy(slot, 0), -2);
            due("copy other " + slot, desk.copy(0, slot), -2);
        }
        due("copy to itself", desk.copy(0, 0), 3);
        due("copy", desk.copy(1, 0), 3);
        dueKey("copy", desk, 1, 1, 5, 1, 10);
        due("copy is its own", desk.take(1), 9);
        dueKey("copy leaves the other", desk, 0, 1, 5, 1, 10);
        due("copy empty", desk.copy(0, 2), 0);
        due("copy empty", desk.elements(0), 0);
        fill(desk, 3, 0, 1, 2, 3, 4, 5, 6, 7, 8, 9, 0, 1);
        due("copy full", desk.copy(9, 3), 12);
        due("copy full", desk.compare(9, 3, 4), 0);
        due("copy full", desk.take(9), 1);
    }

    private static void promise5Entry() {
        CollationDesk desk = deskWith(0, 1, 2);
        int[] noWords = {-1, 0, 11, 22, 121, 122, 131, 132, 143, 1210, 1331, 1332, 1342, 1464,
                Integer.MIN_VALUE, Integer.MAX_VALUE};
        for (int none : noWords) {
            due("entry word " + none, desk.entry(none, 1, -1), -1);
            due("entry word before element", desk.entry(none, -1, -2), -1);
        }
        int[] noElements = {-1, 31, 63, 1023, 1024, 1025, Integer.MIN_VALUE, Integer.MAX_VALUE};
        for (int none : noElements) {
            due("entry one " + none, desk.entry(1, none, -1), -2);
            due("entry two " + none, desk.entry(1, 1, none), none == -1 ? 0 : -2);
        }
        due("entry of a letter", desk.entry(1, element(1, 1, 1), -1), 0);
        due("entry two letters", desk.entry(word(0, 1), 1022, 0), 1);
        due("entry in place", desk.entry(word(0, 1), element(20, 2, 2), -1), 1);
        dueKey("entry of two letters", desk, 0, 3, 20, 3, 0, 2, 1, 0, 2, 1);
        due("entry three letters", desk.entry(word(0, 1, 2), element(21, 3, 3), element(22, 4, 0)), 2);
        dueKey("entry of three letters is longer", desk, 0, 3, 21, 22, 0, 3, 4, 0, 3);
        due("entry", desk.entry(12, 1, 2), 3);
        due("entry", desk.entry(120, 1, 2), 4);
        due("entry", desk.entry(133, 1, 2), 5);
        due("entry", desk.entry(1330, 1, 2), 6);
        due("entry full", desk.entry(word(5, 5), 1, -1), -3);
        due("entry element before full", desk.entry(word(5, 5), 31, -1), -2);
        due("entry in place when full", desk.entry(1330, 1, -1), 6);
        due("entry of a letter when full", desk.entry(10, 1, -1), 6);
        due("full changes nothing", desk.forget(word(5, 5)), -2);
    }

    private static void promise6Forget() {
        CollationDesk desk = deskWith(0, 1, 2);
        int[] noWords = {-1, 0, 11, 121, 1331, 1, 10, 5, Integer.MIN_VALUE, Integer.MAX_VALUE};
        for (int none : noWords) {
            due("forget word " + none, desk.forget(none), -1);
        }
        due("forget none", desk.forget(12), -2);
        due("forget none", desk.forget(1330), -2);
        for (int letter = 0; letter < 6; letter++) {
            desk.entry(word(letter, letter + 1), element(20 + letter, 1, 1), -1);
        }
        due("forget", desk.forget(word(2, 3)), 5);
        due("forget again", desk.forget(word(2, 3)), -2);
        for (int letter = 0; letter < 6; letter++) {
            fill(desk, 1, letter, letter + 1);
            due("forget leaves the others", desk.keyAt(1, 1, 0), letter == 2 ? 3 : 20 + letter);
        }
        due("entry after forget", desk.entry(word(9, 9, 9), 1, -1), 6);
        due("forget last", desk.forget(word(9, 9, 9)), 5);
        due("forget first", desk.forget(word(0, 1)), 4);
        dueKey("forget: next longest word", desk, 0, 1, 1, 21);

        CollationDesk gone = new CollationDesk();
        gone.entry(word(0, 1), element(30, 7, 3), element(30, 7, 3));
        gone.forget(word(0, 1));
        due("forgotten elements don't hinder tailor", gone.tailor(0, 1, 1), element(2, 1, 1));
    }

    private static void promise7TailorRefusals() {
        CollationDesk desk = new CollationDesk();
        int[] noLetters = {-1, 10, Integer.MIN_VALUE, Integer.MAX_VALUE};
        for (int none : noLetters) {
            due("tailor a " + none, desk.tailor(none, 1, 1), -1);
            due("tailor b " + none, desk.tailor(1, none, 1), -1);
            due("tailor letter before level", desk.tailor(none, 1, 0), -1);
            due("tailor level " + none, desk.tailor(0, 1, none), -2);
        }
        due("tailor same", desk.tailor(4, 4, 1), -1);
        due("tailor same before level", desk.tailor(4, 4, 0), -1);
        due("tailor level 0", desk.tailor(0, 1, 0), -2);
        due("tailor level 4", desk.tailor(0, 1, 4), -2);
    }

    private static void promise7TailorMoves() {
        CollationDesk desk = deskWith(0, 1, 2, 3);
        desk.entry(word(9, 9), element(2, 5, 1), element(3, 1, 1));
        fill(desk, 1, 9, 9);
        due("tailor 1", desk.tailor(1, 0, 1), element(3, 1, 1));
        dueKey("tailor 1 moves what is behind", desk, 0, 1, 3, 2, 4, 5);
        dueKey("tailor 1 moves the entries of words", desk, 1, 1, 2, 4);
        due("tailor 2", desk.tailor(1, 3, 2), element(2, 2, 1));
        dueKey("tailor 2", desk, 0, 2, 3, 2, 4, 2, 0, 1, 1, 1, 2);
        dueKey("tailor 2 moves second weights", desk, 1, 3, 2, 4, 0, 6, 1, 0, 1, 1);
        due("tailor 2 again", desk.tailor(1, 4, 2), element(2, 2, 1));
        dueKey("tailor 2 again", desk, 0, 2, 3, 2, 4, 2, 0, 1, 1, 1, 3);
        due("tailor 3", desk.tailor(3, 2, 3), element(2, 3, 2));
        due("tailor 3", desk.tailor(3, 5, 3), element(2, 3, 2));
        dueKey("tailor 3", desk, 0, 3, 3, 2, 2, 2, 0, 1, 1, 3, 3, 0, 1, 1, 3, 1);
        due("tailor 3 at the top", desk.tailor(2, 6, 3), -3);
        due("tailor 3 pushes over the top", desk.tailor(3, 6, 3), -3);
        due("tailor 3 with another second weight", desk.tailor(1, 6, 3), element(2, 1, 2));

        CollationDesk first = deskWith(1);
        first.entry(word(0), element(4, 3, 2), element(20, 7, 3));
        first.entry(word(1), element(9, 3, 3), element(9, 3, 3));
        due("tailor by the first element", first.tailor(0, 1, 2), element(4, 4, 1));
        due("tailor leaves one element", first.elements(0), 1);
        first.entry(word(2), element(0, 0, 0), -1);
        due("tailor behind nothing", first.tailor(2, 1, 1), element(1, 1, 1));
        due("tailor behind nothing", first.tailor(2, 1, 2), element(0, 1, 1));
        due("tailor behind nothing", first.tailor(2, 1, 3), element(0, 0, 1));
        fill(first, 0, 0);
        dueKey("tailor grows the second element of a", first, 0, 1, 5, 21);
    }

    private static void promise7TailorOverTheTop() {
        int[][] tops = {{30, 1, 1}, {1, 7, 1}, {1, 1, 3}};
        int[][] below = {{29, 1, 1}, {1, 6, 1}, {1, 1, 2}};
        for (int level = 1; level <= 3; level++) {
            int[] high = tops[level - 1];
            int top = element(high[0], high[1], high[2]);
            int[] low = below[level - 1];
            int under = element(low[0], low[1], low[2]);
            String what = "tailor level " + level;

            CollationDesk desk = new CollationDesk();
            desk.entry(word(0), top, -1);
            due(what + " behind the greatest", desk.tailor(0, 1, level), -3);
            desk.entry(word(0), under, -1);
            desk.entry(word(1), top, -1);
            due(what + " with b's entry of before", desk.tailor(0, 1, level), -3);
            desk.entry(word(1), 0, top);
            due(what + " with b's second element of before", desk.tailor(0, 1, level), -3);
            desk.entry(word(1), 0, -1);
            desk.entry(word(7, 8, 9), 0, top);
            due(what + " with a word's element", desk.tailor(0, 1, level), -3);
            fill(desk, 0, 0, 1, 2);
            dueKey(what + " refused changes nothing", desk, 0, 1, low[0], 3);
            desk.entry(word(7, 8, 9), under, under);
            int grown = desk.tailor(0, 1, level);
            int[] best = {element(30, 1, 1), element(1, 7, 1), element(1, 1, 3)};
            due(what + " up to the greatest", grown, best[level - 1]);
        }
    }

    private static void promise8Settings() {
        CollationDesk desk = deskWith(0);
        int[] noSwitches = {-1, 2, Integer.MIN_VALUE, Integer.MAX_VALUE};
        for (int none : noSwitches) {
            due("settings backwards " + none, desk.settings(none, 0, 0), -1);
            due("settings shifted " + none, desk.settings(0, none, 0), -1);
            due("settings switch before top", desk.settings(none, 1, 31), -1);
        }
        due("settings top -1", desk.settings(1, 1, -1), -2);
        due("settings top 31", desk.settings(1, 1, 31), -2);
        dueKey("settings refused changes nothing", desk, 0, 4, 1, 0, 1, 0, 1, 0);
        due("settings", desk.settings(1, 1, 30), 1);
        dueKey("settings", desk, 0, 4, 0, 0, 0, 1);
        due("settings", desk.settings(0, 0, 0), 1);
        dueKey("settings back", desk, 0, 4, 1, 0, 1, 0, 1, 0);
    }

    private static void shiftedKeys() {
        CollationDesk desk = deskWith(2, 0, 1, 0, 1, 1, 0, 3, 1);
        desk.entry(word(1), element(0, 5, 2), -1);
        desk.entry(word(3), 0, -1);
        desk.settings(0, 1, 2);
        // 2 is above TOP, each 0 is variable, each 1 behind it or behind such a 1 counts for nothing.
        dueKey("shifted", desk, 0, 4, 3, 0, 1, 0, 1, 0, 31, 1, 1, 1);
        desk.settings(0, 1, 3);
        dueKey("shifted, TOP itself is variable", desk, 0, 4, 0, 0, 0, 3, 1, 1, 1);
        desk.settings(0, 1, 0);
        dueKey("shifted with TOP 0", desk, 0, 4, 3, 1, 1, 1, 0, 1, 1, 5, 1, 5, 5, 1, 5,
                0, 1, 1, 2, 1, 2, 2, 1, 2, 0, 31, 31, 31, 31, 31, 31, 31, 31);
        fill(desk, 0, 1, 3, 1, 0, 3, 1, 4, 1);
        desk.settings(0, 1, 1);
        // The empty element 3 stays among what follows a variable one, and ends nothing there.
        dueKey("shifted behind an empty element", desk, 0, 4, 5, 0, 5, 5, 1, 5, 0, 2, 2, 1, 2,
                0, 31, 31, 1, 31, 31);
        desk.entry(word(5), element(1, 1, 1), element(0, 6, 1));
        fill(desk, 0, 5, 4);
        dueKey("shifted within one entry", desk, 0, 4, 5, 0, 1, 0, 1, 0, 1, 31);
        desk.settings(0, 0, 30);
        dueKey("not shifted", desk, 0, 4, 1, 5, 0, 1, 6, 1, 0, 1, 1, 1, 0);
        desk.entry(word(6), element(0, 0, 1), element(0, 1, 0));
        desk.entry(word(7), element(9, 0, 0), -1);
        desk.settings(0, 1, 8);
        fill(desk, 0, 6, 7);
        dueKey("shifted with one weight alone", desk, 0, 4, 9, 0, 1, 0, 1, 0, 31, 31, 31);
    }

    private static void promise9Elements() {
        CollationDesk desk = deskWith(0, 1, 2, 0, 1, 0, 1);
        for (int slot : NO_SLOTS) {
            due("elements slot " + slot, desk.elements(slot), -2);
        }
        due("elements", desk.elements(0), 7);
        desk.entry(word(1, 2), 1, -1);
        due("elements: a word inside", desk.elements(0), 6);
        desk.entry(word(0, 1), 1, -1);
        due("elements: from the first letter on", desk.elements(0), 4);
        desk.entry(word(0, 1, 0), 1, 2);
        due("elements: the longest word", desk.elements(0), 5);
        desk.forget(word(0, 1));
        due("elements: the longest word without the shorter one", desk.elements(0), 5);
        desk.settings(1, 1, 30);
        due("elements: settings don't count", desk.elements(0), 5);
        desk.entry(word(9), 0, 0);
        fill(desk, 1, 9, 9, 9, 9, 9, 9, 9, 9, 9, 9, 9, 9);
        due("elements: empty ones count", desk.elements(1), 24);
        fill(desk, 9, 0, 1);
        due("elements: no word over the end", desk.elements(9), 2);
        fill(desk, 8, 0, 1, 2, 3, 4, 5, 6, 7, 8, 0, 0, 1);
        due("elements: no word over into the next slot", desk.elements(8), 11);
    }

    private static void promise10Compare() {
        CollationDesk desk = deskWith(0, 1);
        fill(desk, 1, 0, 1, 0);
        fill(desk, 2, 0, 2);
        for (int none : NO_SLOTS) {
            due("compare i " + none, desk.compare(none, 0, 1), -2);
            due("compare j " + none, desk.compare(0, none, 1), -2);
            due("compare slot before strength", desk.compare(0, none, 0), -2);
        }
        for (int none : NO_STRENGTHS) {
            due("compare strength " + none, desk.compare(0, 0, none), -3);
        }
        for (int strength = 1; strength <= 4; strength++) {
            due("compare shorter", desk.compare(0, 1, strength), -1);
            due("compare longer", desk.compare(1, 0, strength), 1);
            due("compare lesser", desk.compare(1, 2, strength), -1);
            due("compare greater", desk.compare(2, 1, strength), 1);
            due("compare itself", desk.compare(2, 2, strength), 0);
            due("compare empty", desk.compare(5, 0, strength), -1);
            due("compare empties", desk.compare(5, 6, strength), 0);
        }
        CollationDesk levels = deskWith(0);
        int[] weights = {element(1, 1, 2), element(1, 2, 1), element(2, 1, 1)};
        for (int letter = 1; letter <= 3; letter++) {
            levels.entry(word(letter), weights[letter - 1], -1);
            fill(levels, 1, letter);
            for (int strength = 1; strength <= 4; strength++) {
                int want = strength + letter >= 4 ? -1 : 0;
                due("compare level " + letter + " at " + strength, levels.compare(0, 1, strength), want);
                due("compare level " + letter + " at " + strength, levels.compare(1, 0, strength), -want);
            }
        }
        CollationDesk fourth = deskWith(0, 2);
        fill(fourth, 1, 1, 2);
        fourth.settings(0, 1, 2);
        due("compare fourth at 3", fourth.compare(0, 1, 3), 0);
        due("compare fourth at 4", fourth.compare(0, 1, 4), -1);
    }

    private static void promises11And12Key() {
        CollationDesk desk = deskWith(0, 1, 2);
        for (int none : NO_SLOTS) {
            due("keySize slot " + none, desk.keySize(none, 1), -2);
            due("keySize slot before strength", desk.keySize(none, 0), -2);
            due("keyAt slot " + none, desk.keyAt(none, 1, 0), -2);
            due("keyAt slot before strength", desk.keyAt(none, 0, 99), -2);
        }
        for (int none : NO_STRENGTHS) {
            due("keySize strength " + none, desk.keySize(0, none), -3);
            due("keyAt strength " + none, desk.keyAt(0, none, 0), -3);
            due("keyAt strength before place", desk.keyAt(0, none, 99), -3);
        }
        due("keyAt place -1", desk.keyAt(0, 1, -1), -4);
        due("keyAt least place", desk.keyAt(0, 1, Integer.MIN_VALUE), -4);
        due("keyAt greatest place", desk.keyAt(0, 4, Integer.MAX_VALUE), -4);
        due("keyAt in an empty key", desk.keyAt(5, 1, 0), -4);
        desk.entry(word(0), element(7, 2, 0), element(0, 3, 1));
        desk.entry(word(1), element(0, 0, 3), element(30, 0, 2));
        desk.entry(word(2), element(8, 7, 0), -1);
        int[] key = {7, 30, 8, 0, 2, 3, 7, 0, 1, 3, 2, 0};
        int[] sizes = {3, 7, 11, 12};
        int[] backwardsKey = {7, 30, 8, 0, 7, 3, 2, 0, 1, 3, 2, 0};
        for (int strength = 1; strength <= 4; strength++) {
            desk.settings(0, 0, 9);
            dueKey("key", desk, 0, strength, java.util.Arrays.copyOf(key, sizes[strength - 1]));
            desk.settings(1, 0, 9);
            dueKey("backwards", desk, 0, strength, java.util.Arrays.copyOf(backwardsKey, sizes[strength - 1]));
        }
        desk.settings(0, 1, 0);
        desk.entry(word(3), element(1, 1, 1), element(1, 1, 1));
        fill(desk, 9, 3, 3, 3, 3, 3, 3, 3, 3, 3, 3, 3, 3);
        due("the greatest key", desk.keySize(9, 4), 99);
        due("the greatest key's end", desk.keyAt(9, 4, 98), 31);
    }

    private static void promises13To15Order() {
        CollationDesk desk = new CollationDesk();
        for (int none : NO_SLOTS) {
            due("rank slot " + none, desk.rank(none, 1), -2);
            due("rank slot before strength", desk.rank(none, 0), -2);
            due("nth k " + none, desk.nth(none, 1), -4);
            due("nth strength before k", desk.nth(none, 0), -3);
        }
        for (int none : NO_STRENGTHS) {
            due("rank strength " + none, desk.rank(0, none), -3);
            due("nth strength " + none, desk.nth(0, none), -3);
            due("kinds strength " + none, desk.kinds(none), -3);
        }
        for (int slot = 0; slot < 10; slot++) {
            due("rank of empties", desk.rank(slot, 4), 0);
            due("nth of empties", desk.nth(slot, 4), slot);
        }
        int[] strings = {5, 3, 5, 0, 9, 3, 5, 1, 0, 2};
        int[] ranks = {6, 4, 6, 0, 9, 4, 6, 2, 0, 3};
        int[] order = {3, 8, 7, 9, 1, 5, 0, 2, 6, 4};
        for (int slot = 0; slot < 10; slot++) {
            desk.put(slot, strings[slot]);
        }
        for (int k = 0; k < 10; k++) {
            due("rank", desk.rank(k, 3), ranks[k]);
            due("nth", desk.nth(k, 3), order[k]);
        }
        due("kinds", desk.kinds(3), 6);
        desk.entry(word(9), element(1, 1, 2), -1);
        due("kinds at 2", desk.kinds(2), 5);
        due("kinds at 3", desk.kinds(3), 6);
        due("rank at 2", desk.rank(4, 2), 0);
        due("rank at 3", desk.rank(4, 3), 2);
        due("nth at 2", desk.nth(1, 2), 4);
        due("nth at 3", desk.nth(2, 3), 4);
        for (int slot = 0; slot < 10; slot++) {
            fill(desk, slot, 8 - (slot + 8) % 9, slot % 7);
        }
        due("kinds of ten", desk.kinds(1), 10);
    }

    private static void promise16Find() {
        CollationDesk desk = deskWith(0, 1, 0, 1, 2);
        fill(desk, 1, 0, 1);
        fill(desk, 2, 1, 2);
        fill(desk, 3, 2, 2);
        for (int none : NO_SLOTS) {
            due("find i " + none, desk.find(none, 1, 1, 0), -2);
            due("find j " + none, desk.find(0, none, 1, 0), -2);
            due("find slot before strength", desk.find(0, none, 0, 0), -2);
        }
        for (int none : NO_STRENGTHS) {
            due("find strength " + none, desk.find(0, 1, none, 0), -3);
        }
        due("find", desk.find(0, 1, 4, 0), 0);
        due("find from 1", desk.find(0, 1, 4, 1), 2);
        due("find from 2", desk.find(0, 1, 4, 2), 2);
        due("find from 3", desk.find(0, 1, 4, 3), -4);
        due("find at the end", desk.find(0, 2, 4, 0), 3);
        due("find none", desk.find(0, 3, 4, 0), -4);
        due("find from below 0", desk.find(0, 2, 4, -7), 3);
        due("find from the least", desk.find(0, 1, 4, Integer.MIN_VALUE), 0);
        due("find from the greatest", desk.find(0, 4, 4, Integer.MAX_VALUE), -4);
        due("find the empty row", desk.find(0, 4, 4, 0), 0);
        due("find the empty row at the end", desk.find(0, 4, 4, 5), 5);
        due("find the empty row behind the end", desk.find(0, 4, 4, 6), -4);
        due("find in an empty string", desk.find(4, 1, 1, 0), -4);
        due("find itself", desk.find(0, 0, 4, 0), 0);
        due("find within the same slot", desk.find(0, 0, 4, 1), -4);

        desk.entry(word(1, 0), element(25, 1, 1), -1);
        fill(desk, 5, 1);
        due("find takes a row by itself", desk.find(0, 5, 4, 0), 1);
        fill(desk, 6, 1, 0);
        due("find a word", desk.find(0, 6, 4, 0), 1);
        desk.entry(word(7), element(2, 1, 2), -1);
        fill(desk, 7, 7, 2);
        due("find at strength 2", desk.find(0, 7, 2, 0), 3);
        due("find at strength 3", desk.find(0, 7, 3, 0), -4);
        desk.entry(word(6), element(0, 1, 0), -1);
        fill(desk, 8, 6);
        due("find what has no first weight", desk.find(0, 8, 1, 3), 3);
        due("find what has a second weight", desk.find(0, 8, 2, 3), -4);
    }

    public static void main(String[] args) {
        promise1NewObject();
        promise2Put();
        promise3Take();
        promise4Copy();
        promise5Entry();
        promise6Forget();
        promise7TailorRefusals();
        promise7TailorMoves();
        promise7TailorOverTheTop();
        promise8Settings();
        shiftedKeys();
        promise9Elements();
        promise10Compare();
        promises11And12Key();
        promises13To15Order();
        promise16Find();
        System.out.println(wrong == 0 ? "all answers are as due" : wrong + " answers are not as due");
        if (wrong != 0) {
            System.exit(1);
        }
    }
}

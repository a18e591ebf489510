import java.util.Arrays;

/**
 * A CollationDesk whose calls are made by their names, so that a wrong answer can be told with its call. It counts the
 * calls, as the document promises nothing behind the 512th.
 */
public final class AskedDesk {
    private static final int CALLS = 512;

    private static int wrong = 0;
    private static String sentence = "";

    private final CollationDesk desk = new CollationDesk();
    private int calls = 0;

    /** The sentence of the document that the next answers belong to. */
    public static void tests(String text) {
        sentence = text;
    }

    public static void isWrong(String what) {
        wrong++;
        System.out.println(sentence + " | " + what);
    }

    /** Ends the test, with exit code 1 if an answer was wrong. */
    public static void end(String what) {
        System.out.println(wrong == 0 ? what + ": all answers are as due" : wrong + " answers are not as due");
        if (wrong != 0) {
            System.exit(1);
        }
    }

    public static int element(int first, int second, int third) {
        return first + 32 * second + 256 * third;
    }

    public static int word(int... letters) {
        int word = 0;
        for (int k = letters.length - 1; k >= 0; k--) {
            word = word * 11 + letters[k] + 1;
        }
        return word;
    }

    public int ask(String name, int... with) {
        calls++;
        if (calls > CALLS) {
            isWrong("the test itself makes more than " + CALLS + " calls");
        }
        switch (name) {
            case "put": return desk.put(with[0], with[1]);
            case "take": return desk.take(with[0]);
            case "copy": return desk.copy(with[0], with[1]);
            case "entry": return desk.entry(with[0], with[1], with[2]);
            case "forget": return desk.forget(with[0]);
            case "tailor": return desk.tailor(with[0], with[1], with[2]);
            case "settings": return desk.settings(with[0], with[1], with[2]);
            case "elements": return desk.elements(with[0]);
            case "compare": return desk.compare(with[0], with[1], with[2]);
            case "keySize": return desk.keySize(with[0], with[1]);
            case "keyAt": return desk.keyAt(with[0], with[1], with[2]);
            case "rank": return desk.rank(with[0], with[1]);
            case "nth": return desk.nth(with[0], with[1]);
            case "kinds": return desk.kinds(with[0]);
            case "find": return desk.find(with[0], with[1], with[2], with[3]);
            default: throw new IllegalArgumentException(name);
        }
    }

    /** Makes a call whose answer must be the one that is due. */
    public AskedDesk due(int want, String name, int... with) {
        int got = ask(name, with);
        if (got != want) {
            isWrong("call " + calls + ": " + name + Arrays.toString(with) + " answered " + got + ", due is " + want);
        }
        return this;
    }

    /** Puts letters behind an empty string. */
    public AskedDesk string(int slot, int... letters) {
        for (int k = 0; k < letters.length; k++) {
            due(k + 1, "put", slot, letters[k]);
        }
        return this;
    }

    /** Reads a whole key, and the places directly before and behind it. */
    public AskedDesk dueKey(int slot, int strength, int... key) {
        due(key.length, "keySize", slot, strength);
        due(-4, "keyAt", slot, strength, -1);
        for (int place = 0; place < key.length; place++) {
            due(key[place], "keyAt", slot, strength, place);
        }
        return due(-4, "keyAt", slot, strength, key.length);
    }
}

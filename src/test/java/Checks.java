import java.nio.charset.StandardCharsets;
import java.util.NoSuchElementException;

/** What the tests share: telling a text, comparing answers, counting those that are wrong. */
final class Checks {
    static final String HOUSE = "lamp a;lamp b;lamp c;lamp d;lamp e;pull p 3 a b;pull q 5 b c;pull r 4 a c;"
            + "pull s 2 c d;pull t 9;pull u 1 d;lit a;lit c;ring p 1;ring s 1;ring q 2;mend 5;seed 0;";

    private int asked;
    private int wrong;

    void due(String call, long got, long want) {
        asked++;
        if (got != want) {
            wrong++;
            System.out.println(call + " answered " + got + ", due is " + want);
        }
    }

    void due(String call, boolean got, boolean want) {
        due(call, got ? 1 : 0, want ? 1 : 0);
    }

    void end(String name) {
        System.out.println(name + ": " + asked + " answers, " + wrong + " wrong");
        if (wrong != 0 || asked == 0) {
            System.exit(1);
        }
    }

    /** Feeds a text, with blanks behind it, and answers what text() answers. */
    static int tell(BellPulls house, String text) {
        feed(house, text);
        return house.text(text.length());
    }

    static void feed(BellPulls house, String text) {
        byte[] bytes = text.getBytes(StandardCharsets.ISO_8859_1);
        for (int from = 0; from < bytes.length; from += 20) {
            int[] five = new int[5];
            for (int i = 0; i < 20; i++) {
                int sign = from + i < bytes.length ? bytes[from + i] & 255 : 32;
                five[i / 4] = five[i / 4] << 8 | sign;
            }
            house.feed(five[0], five[1], five[2], five[3], five[4]);
        }
    }

    static BellPulls of(String text) {
        BellPulls house = new BellPulls();
        if (tell(house, text) < 0) {
            throw new AssertionError("fault " + house.fault(0) + " at " + house.fault(1) + " of " + text);
        }
        return house;
    }

    /** What lamp() answers: -1001 IndexOutOfBoundsException, -1002 NoSuchElementException. */
    static int lamp(BellPulls house, int lamp, int what) {
        try {
            return house.lamp(lamp, what);
        } catch (IndexOutOfBoundsException e) {
            return -1001;
        } catch (NoSuchElementException e) {
            return -1002;
        }
    }

    static int letters(String word) {
        int code = 0;
        for (int i = 0; i < 6; i++) {
            code = code << 5 | (i < word.length() ? word.charAt(i) - 'a' + 1 : 0);
        }
        return code;
    }
}

/** What the tests have together: answers held against what is due, and valleys written and read. */
abstract class Checks {
    static final int NONE = -1, UNKNOWN = -101, OUTSIDE = -102, STATE = -103, FULL = -104;
    static final int LEAST = Integer.MIN_VALUE, GREATEST = Integer.MAX_VALUE;

    private static String sentence = "";
    private static int wrong = 0;

    /** The words of the document that the checks behind it hold to. */
    static void says(String words) {
        sentence = words;
    }

    static void due(String call, long got, long want) {
        if (got != want) {
            wrong++;
            System.out.println("\"" + sentence + "\": " + call + " answered " + got + ", due is " + want);
        }
    }

    /** Some calls in a row, told together. */
    static void dueRow(String calls, int[] got, int... want) {
        for (int i = 0; i < want.length; i++) {
            due(calls + " [" + i + "]", i < got.length ? got[i] : Long.MIN_VALUE, want[i]);
        }
        due(calls + ", how many", got.length, want.length);
    }

    static void end(String whenAllIsWell) {
        System.out.println(wrong == 0 ? whenAllIsWell : wrong + " answers are not as due");
        if (wrong != 0) {
            System.exit(1);
        }
    }

    static int[] row(int... numbers) {
        return numbers;
    }

    static SinEaters write(SinEaters x, String text) {
        for (int i = 0; i < text.length(); i++) {
            x.letter(text.charAt(i));
        }
        return x;
    }

    static SinEaters read(String text) {
        SinEaters x = write(new SinEaters(), text);
        due("valley() of " + text, x.valley(), (text.length() - text.indexOf(';') - 1) / 2);
        return x;
    }

    static int faultOf(String text) {
        return write(new SinEaters(), text).fault();
    }

    static int valleyOf(String text) {
        return write(new SinEaters(), text).valley();
    }

    static int[] aboutAll(SinEaters x, int eater) {
        int[] all = new int[8];
        for (int what = 0; what < all.length; what++) {
            all[what] = x.about(eater, what);
        }
        return all;
    }

    static int[] loafAll(SinEaters x, int loaf) {
        int[] all = new int[5];
        for (int what = 0; what < all.length; what++) {
            all[what] = x.loaf(loaf, what);
        }
        return all;
    }

    static int[] countAll(SinEaters x) {
        int[] all = new int[11];
        for (int what = 0; what < all.length; what++) {
            all[what] = x.count(what);
        }
        return all;
    }

    /** How much, and who eats loaf 0 to 7: nine of the twelve times that there are. */
    static int[] spreadAll(SinEaters x) {
        int[] all = new int[9];
        all[0] = x.spread(0);
        for (int loaf = 0; loaf < 8; loaf++) {
            all[loaf + 1] = x.spread(10 + loaf);
        }
        return all;
    }

    static long digestOf(long... numbers) {
        long h = 1019;
        for (long one : numbers) {
            h = 31 * h + one;
        }
        return h;
    }
}

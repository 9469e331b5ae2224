import java.util.function.LongSupplier;

/**
 * What the boundary tests share: each test stands under the words of the document that it holds to,
 * begins with a new object, and tells those words where an answer is not the one that is due.
 */
abstract class Sentences {
    static final int NONE = WheelCrane.NONE, BAD = WheelCrane.BAD, NO = WheelCrane.NO, FULL = WheelCrane.FULL;
    static final int LOW = Integer.MIN_VALUE, HIGH = Integer.MAX_VALUE;
    static final long LONG_BAD = -2000000000L, LONG_NO = -3000000000L;

    static WheelCrane x;
    private static String words;
    private static int sentences;
    private static int answers;
    private static int wrong;

    /** Begins the test of a sentence, on a new object. */
    static void sentence(String part, String text) {
        words = part + ": " + text;
        sentences++;
        x = new WheelCrane();
    }

    static void again() {
        x = new WheelCrane();
    }

    static void due(long want, long got) {
        answers++;
        if (got != want) {
            wrong++;
            System.out.println(words + " (line " + lineOfTest() + "): answered " + got + ", due is " + want);
        }
    }

    /** The calls are refused, one by one, each changing nothing that the digest tells. */
    static void refused(long want, LongSupplier... calls) {
        for (LongSupplier call : calls) {
            long before = x.digest();
            due(want, call.getAsLong());
            due(before, x.digest());
        }
    }

    /** The digest of numbers in the document's order. */
    static long digestOf(long... numbers) {
        long h = 271;
        for (long v : numbers) h = 31 * h + v;
        return h;
    }

    static void finish() {
        String all = answers + " answers to " + sentences + " sentences";
        System.out.println(wrong == 0 ? all + " are as due" : wrong + " of " + all + " are not as due");
        System.exit(wrong == 0 ? 0 : 1);
    }

    private static int lineOfTest() {
        for (StackTraceElement at : new Throwable().getStackTrace()) {
            if (!at.getClassName().equals("Sentences")) return at.getLineNumber();
        }
        return 0;
    }
}

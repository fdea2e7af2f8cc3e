/** What the tests share: checks that count, and ways to hand texts to a differ. */
final class Kit {
    private static int checks = 0;
    private static int wrong = 0;

    private Kit() {
    }

    /** A call of the face that may throw. */
    interface Call {
        double answer();
    }

    /** A call of the face that takes one number and may throw. */
    interface NumberCall {
        double answer(int number);
    }

    static void same(String what, double got, double want) {
        checks++;
        if (got != want) {
            wrong++;
            System.out.println(what + ": answered " + got + ", due is " + want);
        }
    }

    static void sameText(String what, String got, String want) {
        checks++;
        if (!got.equals(want)) {
            wrong++;
            System.out.println(what + ": answered " + got + ", due is " + want);
        }
    }

    static void bounds(String what, Call call) {
        sameText(what, outcome(call), "throws.IndexOutOfBoundsException");
    }

    static void argument(String what, Call call) {
        sameText(what, outcome(call), "throws.IllegalArgumentException");
    }

    static void state(String what, Call call) {
        sameText(what, outcome(call), "throws.IllegalStateException");
    }

    static void noElement(String what, Call call) {
        sameText(what, outcome(call), "throws.NoSuchElementException");
    }

    /** The numbers from low to high are answered; those beside them and the farthest ones are refused. */
    static void range(String what, int low, int high, String exception, NumberCall call) {
        for (int number = low; number <= high; number++) {
            // An object answers 512 calls: of long ranges the ends are enough.
            if (number - low < 60 || high - number < 60) {
                int asked = number;
                String got = outcome(() -> call.answer(asked));
                sameText(what + " with " + number + " answers", String.valueOf(!got.startsWith("throws.")), "true");
            }
        }
        for (int number : new int[] {Integer.MIN_VALUE, low - 1, high + 1, Integer.MAX_VALUE}) {
            sameText(what + " with " + number, outcome(() -> call.answer(number)), "throws." + exception);
        }
    }

    /** The answer of a call, or the exact class that it throws. */
    static String outcome(Call call) {
        try {
            return String.valueOf(call.answer());
        } catch (RuntimeException e) {
            return "throws." + e.getClass().getSimpleName();
        }
    }

    /** Puts a text into the empty buffer. */
    static void type(DiskImageDiff differ, String text) {
        byte[] bytes = new byte[(text.length() + 19) / 20 * 20];
        java.util.Arrays.fill(bytes, (byte) ' ');
        for (int i = 0; i < text.length(); i++) {
            bytes[i] = (byte) text.charAt(i);
        }
        for (int i = 0; i < bytes.length; i += 20) {
            differ.append(word(bytes, i), word(bytes, i + 4), word(bytes, i + 8), word(bytes, i + 12),
                word(bytes, i + 16));
        }
        differ.truncate(text.length());
    }

    private static int word(byte[] bytes, int at) {
        return (bytes[at] & 255) << 24 | (bytes[at + 1] & 255) << 16 | (bytes[at + 2] & 255) << 8
            | bytes[at + 3] & 255;
    }

    static int load(DiskImageDiff differ, int image, String text) {
        type(differ, text);
        return differ.load(image);
    }

    static DiskImageDiff differ(String oldText, String newText) {
        DiskImageDiff differ = new DiskImageDiff();
        load(differ, 0, oldText);
        load(differ, 1, newText);
        return differ;
    }

    /** A text that must be refused with a code at a position. */
    static void refused(String text, int code, int position) {
        DiskImageDiff differ = new DiskImageDiff();
        type(differ, text);
        argument("load of " + text, () -> differ.load(0));
        same("errorCode of " + text, differ.errorCode(), code);
        same("errorPosition of " + text, differ.errorPosition(), position);
        same("buffer after " + text, differ.append(0, 0, 0, 0, 0), 20);
    }

    /** A text that must be refused with a code where the bar stands, which is no part of the text. */
    static void wrongAt(int code, String marked) {
        int bar = marked.indexOf('|');
        refused(marked.substring(0, bar) + marked.substring(bar + 1), code, bar);
    }

    /** A text that must be read as so many nodes. */
    static void accepted(String text, int nodes) {
        DiskImageDiff differ = new DiskImageDiff();
        type(differ, text);
        sameText("load of " + text, outcome(() -> differ.load(0)), String.valueOf((double) nodes));
        same("errorCode of " + text, differ.errorCode(), 0);
        same("errorPosition of " + text, differ.errorPosition(), DiskImageDiff.NONE);
    }

    static int code(String name) {
        int code = 0;
        for (int i = 0; i < name.length(); i++) {
            code = code * 27 + name.charAt(i) - 'a' + 1;
        }
        return code;
    }

    static String path(DiskImageDiff differ, int image, int node) {
        int length = differ.formatPath(image, node);
        StringBuilder text = new StringBuilder();
        for (int i = 0; i < length; i++) {
            text.append((char) differ.formatted(i));
        }
        return text.toString();
    }

    /** The paths of all nodes of an image in their order. */
    static String paths(DiskImageDiff differ, int image) {
        StringBuilder text = new StringBuilder();
        for (int i = 0; i < differ.image(image, 2); i++) {
            text.append(i == 0 ? "" : " ").append(path(differ, image, i));
        }
        return text.toString();
    }

    /** The script as rows of kind, old number and new number. */
    static String script(DiskImageDiff differ) {
        StringBuilder text = new StringBuilder();
        for (int i = 0; i < differ.operations(); i++) {
            text.append(i == 0 ? "" : " ").append(differ.operation(i, 0)).append(':').append(differ.operation(i, 1))
                .append(':').append(differ.operation(i, 2));
        }
        return text.toString();
    }

    static String repeat(String part, int times) {
        return part.repeat(times);
    }

    /** Ends the test: exit code 1 if a check was wrong or none was made. */
    static void end(String name) {
        System.out.println(name + ": " + checks + " checks, " + wrong + " wrong");
        if (wrong != 0 || checks == 0) {
            System.exit(1);
        }
    }
}

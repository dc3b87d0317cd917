/** What the tests share: they compare answers, count the wrong ones and end with exit code 1 if there were any. */
final class Checks {
    interface Call {
        long make();
    }

    private static int compared = 0;
    private static int wrong = 0;

    private Checks() {
    }

    static void due(String what, long got, long want) {
        compared++;
        if (got != want) {
            wrong++;
            System.out.println(what + " answered " + got + ", due is " + want);
        }
    }

    /** The call must throw this very class: a machine's own exception is often a subclass of the due one. */
    static void dueThrow(String what, Class<? extends RuntimeException> want, Call call) {
        compared++;
        String got;
        try {
            got = "the answer " + call.make();
        } catch (RuntimeException e) {
            if (e.getClass() == want) {
                return;
            }
            got = e.getClass().getName();
        }
        wrong++;
        System.out.println(what + " gave " + got + ", due is " + want.getName());
    }

    static void end(String name) {
        System.out.println(name + ": " + compared + " answers compared, " + wrong + " wrong");
        System.exit(wrong == 0 && compared > 0 ? 0 : 1);
    }

    static int byteAt(String text, int index) {
        return index < text.length() ? text.charAt(index) & 255 : ' ';
    }

    static int wordAt(String text, int index) {
        return byteAt(text, index) << 24 | byteAt(text, index + 1) << 16
                | byteAt(text, index + 2) << 8 | byteAt(text, index + 3);
    }

    /** Appends the text, filled up with spaces to a multiple of 20. */
    static void put(PacketToll toll, String text) {
        for (int i = 0; i < text.length(); i += 20) {
            toll.append(wordAt(text, i), wordAt(text, i + 4), wordAt(text, i + 8),
                    wordAt(text, i + 12), wordAt(text, i + 16));
        }
    }

    static int load(PacketToll toll, String text) {
        put(toll, text);
        return toll.load(text.length());
    }

    static PacketToll tollWith(String text) {
        PacketToll toll = new PacketToll();
        int packets = load(toll, text);
        if (packets < 0) {
            throw new AssertionError("error " + packets + " at " + toll.errorOffset() + " in " + text);
        }
        return toll;
    }

    static String times(int count, String part) {
        return part.repeat(count);
    }
}

import java.io.IOException;
import java.nio.charset.StandardCharsets;
import java.nio.file.Files;
import java.nio.file.Path;

/** What the tests share: they compare answers, count the wrong ones and end with exit code 1 if there were any. */
final class Checks {
    interface Call {
        long make();
    }

    private static int compared = 0;
    private static int wrong = 0;
    private static int sentences = 0;
    private static String sentence = "";
    private static final String DOCUMENT = document();

    private Checks() {
    }

    private static String document() {
        try {
            return oneLine(Files.readString(Path.of("../shared/DOC.md"), StandardCharsets.UTF_8));
        } catch (IOException e) {
            System.out.println("../shared/DOC.md cannot be read: what the tests quote is not looked up in it");
            return "";
        }
    }

    private static String oneLine(String text) {
        return text.replaceAll("\\s+", " ");
    }

    /** The place in the document and the sentence there that the answers from here on hold; a wrong one tells it. */
    static void says(String where, String words) {
        sentence = where + ": \"" + words + "\": ";
        sentences++;
        compared++;
        if (!DOCUMENT.isEmpty() && !DOCUMENT.contains(oneLine(words))) {
            wrong++;
            System.out.println(sentence + "does not stand in the document");
        }
    }

    static void due(String what, long got, long want) {
        compared++;
        if (got != want) {
            wrong++;
            System.out.println(sentence + what + " answered " + got + ", due is " + want);
        }
    }

    static void holds(String what, boolean does) {
        compared++;
        if (!does) {
            wrong++;
            System.out.println(sentence + what + " does not hold");
        }
    }

    /** The call must throw this very class: a machine's own exception is often a subclass of the due one. */
    static void dueThrow(String what, Class<? extends RuntimeException> want, Call call) {
        compared++;
        String got;
        try {
            got = "the answer " + call.make();
        } catch (RuntimeException e) {
            if (e.getClass() == want) {
                return;
            }
            got = e.getClass().getName();
        }
        wrong++;
        System.out.println(sentence + what + " gave " + got + ", due is " + want.getName());
    }

    static void end(String name) {
        String held = sentences > 0 ? " of " + sentences + " sentences" : "";
        System.out.println(name + ": " + compared + " answers" + held + " compared, " + wrong + " wrong");
        System.exit(wrong == 0 && compared > 0 ? 0 : 1);
    }

    static int byteAt(String text, int index) {
        return index < text.length() ? text.charAt(index) & 255 : ' ';
    }

    static int wordAt(String text, int index) {
        return byteAt(text, index) << 24 | byteAt(text, index + 1) << 16
                | byteAt(text, index + 2) << 8 | byteAt(text, index + 3);
    }

    /** Appends the 20 bytes of the text from this index on, filled up with spaces. */
    static int append(PacketToll toll, String text, int index) {
        return toll.append(wordAt(text, index), wordAt(text, index + 4), wordAt(text, index + 8),
                wordAt(text, index + 12), wordAt(text, index + 16));
    }

    /** Appends the text, filled up with spaces to a multiple of 20. */
    static void put(PacketToll toll, String text) {
        for (int i = 0; i < text.length(); i += 20) {
            append(toll, text, i);
        }
    }

    static int load(PacketToll toll, String text) {
        put(toll, text);
        return toll.load(text.length());
    }

    static PacketToll tollWith(String text) {
        PacketToll toll = new PacketToll();
        int packets = load(toll, text);
        if (packets < 0) {
            throw new AssertionError("error " + packets + " at " + toll.errorOffset() + " in " + text);
        }
        return toll;
    }

    /** An object with this setup behind so many ticks. */
    static PacketToll tollAt(int time, String text) {
        PacketToll toll = tollWith(text);
        passTo(toll, time);
        return toll;
    }

    static void passTo(PacketToll toll, int time) {
        for (int now = toll.state(0); now < time; now = toll.state(0)) {
            toll.pass(Math.min(200, time - now));
        }
    }

    static void duePacket(PacketToll toll, int packet, int... want) {
        for (int what = 0; what < want.length; what++) {
            due("packet(" + packet + ", " + what + ") at " + toll.state(0), toll.packet(packet, what), want[what]);
        }
    }

    static void dueCoupon(PacketToll toll, int coupon, int... want) {
        for (int what = 0; what < want.length; what++) {
            due("coupon(" + coupon + ", " + what + ") at " + toll.state(0), toll.coupon(coupon, what), want[what]);
        }
    }

    static String times(int count, String part) {
        return part.repeat(count);
    }
}

import java.util.ArrayList;
import java.util.List;

/** All answers that an object gives without a change, and whether two objects give the same ones from now on. */
final class Answers {
    private static final String SPACES = "                    ";

    private Answers() {
    }

    /** checksum stands for state, flow, packet, coupon, tokens and queue, which it is made of. */
    static List<String> of(PacketToll toll) {
        List<String> all = new ArrayList<>();
        all.add("checksum() " + toll.checksum());
        int gates = toll.state(1);
        int flows = toll.state(2);
        int packets = toll.state(3);
        for (int g = 0; g < gates; g++) {
            all.add("gate(" + g + ") " + toll.gate(g, 0) + " " + toll.gate(g, 1) + " " + toll.gate(g, 2));
            all.add("curve(" + g + ") " + toll.curve(g, 1) + " " + toll.curve(g, 999));
            for (int f = 0; f < flows; f++) {
                all.add("loadOver(" + g + ", " + f + ") " + toll.loadOver(g, f, 1) + " " + toll.loadOver(g, f, 999));
            }
        }
        for (int f = 0; f < flows; f++) {
            all.add("billAfter(" + f + ") " + toll.billAfter(f, 0) + " " + toll.billAfter(f, 500));
            int places = toll.flow(f, 0);
            for (int place = 0; place < places; place++) {
                all.add("route(" + f + ", " + place + ") " + toll.route(f, place));
            }
        }
        for (int p = 0; p < packets; p++) {
            all.add("endsAt(" + p + ") " + toll.endsAt(p) + ", help(" + p + ") " + toll.help(p));
        }
        return all;
    }

    static void dueSame(String what, List<String> got, List<String> want) {
        for (int i = 0; i < Math.min(got.size(), want.size()); i++) {
            Checks.holds(what + ": " + got.get(i) + ", due is " + want.get(i), got.get(i).equals(want.get(i)));
        }
        Checks.due(what + ": number of answers", got.size(), want.size());
    }

    /** The other object was used alike but for a call that must leave nothing behind; both are used up here. */
    static void dueSameFromHere(String what, PacketToll tried, PacketToll other) {
        Checks.due(what + ": errorOffset()", tried.errorOffset(), other.errorOffset());
        dueSame(what, of(tried), of(other));
        dueSameUndone(what, tried, other);
        int held = Checks.append(other, SPACES, 0);
        Checks.due(what + ": append", Checks.append(tried, SPACES, 0), held);
        if (held > 0) {
            Checks.due(what + ": load of what was appended", tried.load(held), other.load(held));
        }
        Checks.due(what + ": errorOffset() after that", tried.errorOffset(), other.errorOffset());
        dueSame(what + ": after that", of(tried), of(other));
    }

    private static void dueSameUndone(String what, PacketToll tried, PacketToll other) {
        for (int i = 1; i <= 9; i++) {
            Checks.due(what + ": undo " + i, tried.undo(), other.undo());
            Checks.due(what + ": checksum behind undo " + i, tried.checksum(), other.checksum());
        }
    }
}

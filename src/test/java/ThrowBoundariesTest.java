import java.util.NoSuchElementException;
import java.util.function.Supplier;
import java.util.function.ToLongFunction;

/**
 * Each sentence of the document about what a call throws, in a test of its own: promises 5 to 22 and the term changes.
 * Behind every call here that throws, all other calls must answer as those of an object that did not get the call.
 */
public final class ThrowBoundariesTest {
    private static final Class<IndexOutOfBoundsException> INDEX = IndexOutOfBoundsException.class;
    private static final Class<IllegalArgumentException> ARGUMENT = IllegalArgumentException.class;
    private static final Class<IllegalStateException> STATE = IllegalStateException.class;
    private static final Class<NoSuchElementException> ELEMENT = NoSuchElementException.class;
    private static final int MIN = Integer.MIN_VALUE;
    private static final int MAX = Integer.MAX_VALUE;

    /** Two gates, three flows, four packets (a fifth is sent), two coupons. */
    private static final String USED = "toll;gate 3 10 2;gate 4 7 1;flow 0 1 thrift 2;flow 1;flow 0;packet 0 0 8;packet 0 1 9;"
            + "packet 1 2 20;packet 0 9 3;coupon 0 5 30;coupon 1 40 20;fee 2;refund 40 9;";

    private interface OneIndex {
        long call(PacketToll toll, int index);
    }

    private interface TwoIndexes {
        long call(PacketToll toll, int one, int two);
    }

    public static void main(String[] args) {
        wrongLength();
        wrongWhatOfState();
        noSuchGate("Promise 6", "gate", (t, gate) -> t.gate(gate, 0));
        noSuchGate("Promise 14", "curve", (t, gate) -> t.curve(gate, 1));
        wrongWhatOfGate();
        noSuchFlow("Promise 7", "flow", (t, flow) -> t.flow(flow, 0));
        noSuchFlow("Promise 8", "route", (t, flow) -> t.route(flow, 0));
        noSuchFlow("Promise 16", "billAfter", (t, flow) -> t.billAfter(flow, 0));
        noSuchFlow("Promise 20", "grant", (t, flow) -> t.grant(flow, 1, 1));
        noSuchFlow("Promise 21", "send", (t, flow) -> t.send(flow, 1));
        noSuchFlow("Promise 22", "setThrift", (t, flow) -> t.setThrift(flow, 1));
        wrongWhatOfFlow();
        noSuchPlace();
        noSuchGateOrFlow("Promise 9", "tokens", PacketToll::tokens);
        noSuchGateOrFlow("Promise 10", "queue", PacketToll::queue);
        noSuchGateOrFlow("Promise 13", "loadOver", (t, gate, flow) -> t.loadOver(gate, flow, 1));
        noSuchPacket("Promise 11", "packet", (t, packet) -> t.packet(packet, 0));
        noSuchPacket("Promise 15", "endsAt", PacketToll::endsAt);
        noSuchPacket("Promise 17", "help", PacketToll::help);
        wrongWhatOfPacket();
        noSuchCoupon();
        noSuchCouponOrFlow();
        wrongWhatOfCoupon();
        wrongTicksOfLoadOver();
        wrongTicksOfCurve();
        wrongTicksOfBillAfter();
        wrongTicksOfPass();
        timeBeyondTheLast();
        wrongValueOfGrant();
        wrongTicksOfGrant();
        couponsAreFull();
        wrongSizeOfSend();
        packetsAreFull();
        wrongThrift();
        indexOfNothing();
        firstListedCounts();
        thrownCallChangesNothing();
        Checks.end("ThrowBoundariesTest");
    }

    private static void says(String where, String words) {
        Checks.says(where, words);
    }

    /** At 3, with three changes that can be undone, one that was undone, an error offset and 20 bytes in the buffer. */
    private static PacketToll used() {
        PacketToll toll = Checks.tollAt(3, USED);
        toll.send(2, 5);
        toll.setThrift(1, 4);
        toll.undo();
        Checks.load(toll, "toll;x");
        Checks.put(toll, "toll;fee 5;");
        return toll;
    }

    private static void dueThrow(Supplier<PacketToll> past, String what, Class<? extends RuntimeException> want,
            ToLongFunction<PacketToll> call) {
        PacketToll tried = past.get();
        Checks.dueThrow(what, want, () -> call.applyAsLong(tried));
        Answers.dueSameFromHere("behind " + what, tried, past.get());
    }

    private static void dueThrow(String what, Class<? extends RuntimeException> want, ToLongFunction<PacketToll> call) {
        dueThrow(ThrowBoundariesTest::used, what, want, call);
    }

    private static void wrongLength() {
        says("Promise 3", "Throws `IllegalArgumentException` if length is negative or greater than the length of the buffer; the "
                + "buffer is unchanged then");
        for (int length : new int[] {MIN, -1, 21, MAX}) {
            dueThrow("load(" + length + ")", ARGUMENT, t -> t.load(length));
        }
    }

    private static void wrongWhatOfState() {
        says("Promise 5", "Throws `IllegalArgumentException` if what is out of range");
        for (int what : new int[] {MIN, -1, 10, MAX}) {
            dueThrow("state(" + what + ")", ARGUMENT, t -> t.state(what));
            Checks.dueThrow("state(" + what + ") of a new object", ARGUMENT, () -> new PacketToll().state(what));
        }
    }

    private static void noSuchGate(String where, String name, OneIndex method) {
        says(where, "Throws `IndexOutOfBoundsException` if there is no such gate");
        for (int gate : new int[] {MIN, -1, 2, 5, MAX}) {
            dueThrow(name + " of gate " + gate, INDEX, t -> method.call(t, gate));
        }
        dueSixAreThere(name, t -> method.call(t, 5), t -> method.call(t, 6));
    }

    /** With 6 gates and 6 flows the last index is right, and the one behind it is not. */
    private static void dueSixAreThere(String name, ToLongFunction<PacketToll> last, ToLongFunction<PacketToll> beyond) {
        PacketToll toll = Checks.tollWith(Worlds.SIX_GATES + "flow 0;".repeat(6));
        last.applyAsLong(toll);
        Checks.dueThrow(name + " of the 7th", INDEX, () -> beyond.applyAsLong(toll));
    }

    private static void wrongWhatOfGate() {
        says("Promise 6", "Throws `IllegalArgumentException` if what is out of range");
        for (int what : new int[] {MIN, -1, 3, MAX}) {
            dueThrow("gate(1, " + what + ")", ARGUMENT, t -> t.gate(1, what));
        }
    }

    private static void noSuchFlow(String where, String name, OneIndex method) {
        says(where, "Throws `IndexOutOfBoundsException` if there is no such flow");
        for (int flow : new int[] {MIN, -1, 3, 5, MAX}) {
            dueThrow(name + " of flow " + flow, INDEX, t -> method.call(t, flow));
        }
        dueSixAreThere(name, t -> method.call(t, 5), t -> method.call(t, 6));
    }

    private static void wrongWhatOfFlow() {
        says("Promise 7", "Throws `IllegalArgumentException` if what is out of range");
        for (int what : new int[] {MIN, -1, 6, MAX}) {
            dueThrow("flow(2, " + what + ")", ARGUMENT, t -> t.flow(2, what));
        }
    }

    private static void noSuchPlace() {
        says("Promise 8", "Throws `NoSuchElementException` if there is no such place");
        for (int place : new int[] {MIN, -1, 2, 3, 4, MAX}) {
            dueThrow("route(0, " + place + ")", ELEMENT, t -> t.route(0, place));
        }
        dueThrow("route(1, 1)", ELEMENT, t -> t.route(1, 1));
        PacketToll four = Checks.tollWith(Worlds.SIX_GATES + "flow 0 1 2 3;flow 4 5 0 1;");
        Checks.dueThrow("route(0, 4)", ELEMENT, () -> four.route(0, 4));
        Checks.dueThrow("route(1, 4)", ELEMENT, () -> four.route(1, 4));
        Checks.dueThrow("route(1, -1)", ELEMENT, () -> four.route(1, -1));
    }

    private static void noSuchGateOrFlow(String where, String name, TwoIndexes method) {
        says(where, "Throws `IndexOutOfBoundsException` if there is no such gate or flow");
        int[][] pairs = {{-1, 0}, {2, 0}, {MIN, 0}, {MAX, 0}, {0, -1}, {0, 3}, {1, MIN}, {1, MAX}, {2, 3}, {-1, 6}, {1, -6}};
        for (int[] pair : pairs) {
            dueThrow(name + " of " + pair[0] + ", " + pair[1], INDEX, t -> method.call(t, pair[0], pair[1]));
        }
        dueSixAreThere(name, t -> method.call(t, 5, 5), t -> method.call(t, 5, 6));
        dueSixAreThere(name, t -> method.call(t, 5, 5), t -> method.call(t, 6, 5));
    }

    private static void noSuchPacket(String where, String name, OneIndex method) {
        says(where, "Throws `IndexOutOfBoundsException` if there is no such packet");
        for (int packet : new int[] {MIN, -1, 5, 39, MAX}) {
            dueThrow(name + " of packet " + packet, INDEX, t -> method.call(t, packet));
        }
        PacketToll full = Checks.tollWith("toll;gate0 1 1;flow0;" + "packet0 0 1;".repeat(40));
        method.call(full, 39);
        Checks.dueThrow(name + " of the 41st", INDEX, () -> method.call(full, 40));
        for (int i = 0; i < 30; i++) {
            full.grant(0, 1, 1);
        }
        Checks.dueThrow(name + " of the 41st with 30 coupons", INDEX, () -> method.call(full, 40));
    }

    private static void wrongWhatOfPacket() {
        says("Promise 11", "Throws `IllegalArgumentException` if what is out of range");
        for (int what : new int[] {MIN, -1, 7, MAX}) {
            dueThrow("packet(4, " + what + ")", ARGUMENT, t -> t.packet(4, what));
        }
    }

    private static void noSuchCoupon() {
        says("Promise 12", "Throws `IndexOutOfBoundsException` if there is no such coupon");
        int coupons = used().state(4);
        for (int coupon : new int[] {MIN, -1, coupons, 29, MAX}) {
            dueThrow("coupon(" + coupon + ", 0)", INDEX, t -> t.coupon(coupon, 0));
        }
        dueThrow(ThrowBoundariesTest::fullOfCoupons, "coupon(30, 0)", INDEX, t -> t.coupon(30, 0));
        fullOfCoupons().coupon(29, 0);
    }

    private static void noSuchCouponOrFlow() {
        says("Promise 19", "Throws `IndexOutOfBoundsException` if there is no such coupon or flow");
        int coupons = used().state(4);
        for (int wrong : new int[] {MIN, -1, 29, MAX}) {
            dueThrow("forward(" + wrong + ", 0)", INDEX, t -> t.forward(wrong, 0));
            dueThrow("forward(0, " + wrong + ")", INDEX, t -> t.forward(0, wrong));
            dueThrow("forward(" + wrong + ", " + wrong + ")", INDEX, t -> t.forward(wrong, wrong));
        }
        dueThrow("forward of a coupon behind the last one", INDEX, t -> t.forward(coupons, 0));
        dueThrow("forward to a flow behind the last one", INDEX, t -> t.forward(0, 3));
        dueThrow(ThrowBoundariesTest::fullOfCoupons, "forward(30, 0)", INDEX, t -> t.forward(30, 0));
        fullOfCoupons().forward(29, 0);
        dueSixAreThere("forward", t -> t.forward(t.grant(0, 9, 9), 5), t -> t.forward(0, 6));
    }

    private static void wrongWhatOfCoupon() {
        says("Promise 12", "Throws `IllegalArgumentException` if what is out of range");
        for (int what : new int[] {MIN, -1, 4, MAX}) {
            dueThrow("coupon(0, " + what + ")", ARGUMENT, t -> t.coupon(0, what));
        }
    }

    private static void wrongTicksOfLoadOver() {
        says("Promise 13", "Throws `IllegalArgumentException` if ticks is out of range");
        for (int ticks : new int[] {MIN, -1, 0, 1000, MAX}) {
            dueThrow("loadOver(0, 0, " + ticks + ")", ARGUMENT, t -> t.loadOver(0, 0, ticks));
        }
    }

    private static void wrongTicksOfCurve() {
        says("Promise 14", "Throws `IllegalArgumentException` if ticks is out of range");
        for (int ticks : new int[] {MIN, -1, 0, 1000, MAX}) {
            dueThrow("curve(1, " + ticks + ")", ARGUMENT, t -> t.curve(1, ticks));
        }
    }

    private static void wrongTicksOfBillAfter() {
        says("Promise 16", "Throws `IllegalArgumentException` if ticks is out of range");
        for (int ticks : new int[] {MIN, -1, 501, MAX}) {
            dueThrow("billAfter(0, " + ticks + ")", ARGUMENT, t -> t.billAfter(0, ticks));
        }
    }

    private static void wrongTicksOfPass() {
        says("Promise 18", "Throws `IllegalArgumentException` if ticks is out of range, or the time would exceed 9999");
        for (int ticks : new int[] {MIN, -1, 0, 201, MAX, MAX - 3}) {
            dueThrow("pass(" + ticks + ")", ARGUMENT, t -> t.pass(ticks));
        }
        PacketToll toll = used();
        toll.pass(1);
        Checks.due("the smallest", toll.state(0), 4);
        toll.pass(200);
        Checks.due("the greatest", toll.state(0), 204);
    }

    private static PacketToll usedUpTo(int time) {
        PacketToll toll = used();
        Checks.passTo(toll, time);
        return toll;
    }

    private static void timeBeyondTheLast() {
        says("Promise 18", "Throws `IllegalArgumentException` if ticks is out of range, or the time would exceed 9999");
        dueThrow(() -> usedUpTo(9999), "pass(1) at 9999", ARGUMENT, t -> t.pass(1));
        dueThrow(() -> usedUpTo(9999), "pass(0) at 9999", ARGUMENT, t -> t.pass(0));
        dueThrow(() -> usedUpTo(9999), "pass(MAX) at 9999", ARGUMENT, t -> t.pass(MAX));
        dueThrow(() -> usedUpTo(9998), "pass(2) at 9998", ARGUMENT, t -> t.pass(2));
        dueThrow(() -> usedUpTo(9800), "pass(200) at 9800", ARGUMENT, t -> t.pass(200));
        PacketToll last = usedUpTo(9799);
        last.pass(200);
        Checks.due("200 from 9799 on", last.state(0), 9999);
        PacketToll one = usedUpTo(9998);
        one.pass(1);
        Checks.due("1 from 9998 on", one.state(0), 9999);
    }

    private static void wrongValueOfGrant() {
        says("Promise 20", "Throws `IllegalArgumentException` if value or ticks is out of range");
        for (int wrong : new int[] {MIN, -1, 0, 10000, MAX}) {
            dueThrow("grant(0, " + wrong + ", 1)", ARGUMENT, t -> t.grant(0, wrong, 1));
            dueThrow("grant(0, " + wrong + ", 9999)", ARGUMENT, t -> t.grant(0, wrong, 9999));
        }
    }

    private static void wrongTicksOfGrant() {
        says("Promise 20", "Throws `IllegalArgumentException` if value or ticks is out of range");
        for (int wrong : new int[] {MIN, -1, 0, 10000, MAX}) {
            dueThrow("grant(0, 1, " + wrong + ")", ARGUMENT, t -> t.grant(0, 1, wrong));
            dueThrow("grant(0, 9999, " + wrong + ")", ARGUMENT, t -> t.grant(0, 9999, wrong));
            dueThrow("grant(0, " + wrong + ", " + wrong + ")", ARGUMENT, t -> t.grant(0, wrong, wrong));
        }
    }

    private static PacketToll fullOfCoupons() {
        PacketToll toll = used();
        for (int i = toll.state(4); i < 30; i++) {
            toll.grant(1, 1, 40);
        }
        return toll;
    }

    private static void couponsAreFull() {
        says("Promise 20", "Throws `IllegalStateException` if there are 30 coupons");
        dueThrow(ThrowBoundariesTest::fullOfCoupons, "grant(0, 1, 1) with 30", STATE, t -> t.grant(0, 1, 1));
        dueThrow(ThrowBoundariesTest::fullOfCoupons, "grant(2, 9999, 9999) with 30", STATE, t -> t.grant(2, 9999, 9999));
        PacketToll toll = fullOfCoupons();
        toll.undo();
        Checks.due("with 29", toll.grant(0, 1, 1), 29);
    }

    private static void wrongSizeOfSend() {
        says("Promise 21", "Throws `IllegalArgumentException` if size is out of range");
        for (int size : new int[] {MIN, -1, 0, 1000, MAX}) {
            dueThrow("send(0, " + size + ")", ARGUMENT, t -> t.send(0, size));
        }
    }

    private static PacketToll fullOfPackets() {
        PacketToll toll = used();
        for (int i = toll.state(3); i < 40; i++) {
            toll.send(2, 3);
        }
        toll.pass(1);
        return toll;
    }

    private static void packetsAreFull() {
        says("Promise 21", "Throws `IllegalStateException` if there are 40 packets");
        dueThrow(ThrowBoundariesTest::fullOfPackets, "send(0, 1) with 40", STATE, t -> t.send(0, 1));
        dueThrow(ThrowBoundariesTest::fullOfPackets, "send(2, 999) with 40", STATE, t -> t.send(2, 999));
        PacketToll toll = fullOfPackets();
        toll.undo();
        toll.undo();
        Checks.due("with 39", toll.send(0, 1), 39);
    }

    private static void wrongThrift() {
        says("Promise 22", "Throws `IllegalArgumentException` if thrift is out of range");
        for (int thrift : new int[] {MIN, -1, 100, MAX}) {
            dueThrow("setThrift(0, " + thrift + ")", ARGUMENT, t -> t.setThrift(0, thrift));
        }
    }

    private static void indexOfNothing() {
        says("Changes", "In the methods, IndexOutOfBoundsException is thrown if a parameter named gate, flow, packet or coupon is "
                + "not the index of such a thing.");
        PacketToll gates = Checks.tollWith("toll;gate 1 1 1;");
        Checks.dueThrow("tokens(0, 0) without flows", INDEX, () -> gates.tokens(0, 0));
        Checks.dueThrow("loadOver(0, 0, 1) without flows", INDEX, () -> gates.loadOver(0, 0, 1));
        Checks.dueThrow("grant(0, 1, 1) without flows", INDEX, () -> gates.grant(0, 1, 1));
        PacketToll flows = Checks.tollWith(Worlds.ONE_FLOW);
        Checks.dueThrow("packet(0, 0) without packets", INDEX, () -> flows.packet(0, 0));
        Checks.dueThrow("help(0) without packets", INDEX, () -> flows.help(0));
        Checks.dueThrow("forward(0, 0) without coupons", INDEX, () -> flows.forward(0, 0));
        PacketToll gone = Checks.tollAt(2, Worlds.ONE_FLOW + "coupon 0 1 1;");
        Checks.dueThrow("coupon(0, 0) of one that has expired", INDEX, () -> gone.coupon(0, 0));
        gone.send(0, 1);
        gone.undo();
        Checks.dueThrow("packet(0, 0) of one that was undone", INDEX, () -> gone.packet(0, 0));
    }

    private static void firstListedCounts() {
        says("Changes", "If several exceptions apply to a call, the one that is listed first with the method is thrown.");
        dueThrow("gate(2, 3)", INDEX, t -> t.gate(2, 3));
        dueThrow("flow(3, 6)", INDEX, t -> t.flow(3, 6));
        dueThrow("route(3, 9)", INDEX, t -> t.route(3, 9));
        dueThrow("packet(5, 7)", INDEX, t -> t.packet(5, 7));
        dueThrow("coupon(29, 4)", INDEX, t -> t.coupon(29, 4));
        dueThrow("loadOver(2, 0, 0)", INDEX, t -> t.loadOver(2, 0, 0));
        dueThrow("loadOver(0, 3, 1000)", INDEX, t -> t.loadOver(0, 3, 1000));
        dueThrow("curve(2, 0)", INDEX, t -> t.curve(2, 0));
        dueThrow("billAfter(3, 501)", INDEX, t -> t.billAfter(3, 501));
        dueThrow("setThrift(3, 100)", INDEX, t -> t.setThrift(3, 100));
        dueThrow("grant(3, 0, 1)", INDEX, t -> t.grant(3, 0, 1));
        dueThrow("grant(3, 1, 0)", INDEX, t -> t.grant(3, 1, 0));
        dueThrow("send(3, 0)", INDEX, t -> t.send(3, 0));
        dueThrow(ThrowBoundariesTest::fullOfCoupons, "grant(3, 1, 1) with 30", INDEX, t -> t.grant(3, 1, 1));
        dueThrow(ThrowBoundariesTest::fullOfCoupons, "grant(3, 0, 0) with 30", INDEX, t -> t.grant(3, 0, 0));
        dueThrow(ThrowBoundariesTest::fullOfCoupons, "grant(0, 0, 1) with 30", ARGUMENT, t -> t.grant(0, 0, 1));
        dueThrow(ThrowBoundariesTest::fullOfCoupons, "grant(0, 1, 10000) with 30", ARGUMENT, t -> t.grant(0, 1, 10000));
        dueThrow(ThrowBoundariesTest::fullOfPackets, "send(3, 1) with 40", INDEX, t -> t.send(3, 1));
        dueThrow(ThrowBoundariesTest::fullOfPackets, "send(-1, 1000) with 40", INDEX, t -> t.send(-1, 1000));
        dueThrow(ThrowBoundariesTest::fullOfPackets, "send(0, 1000) with 40", ARGUMENT, t -> t.send(0, 1000));
    }

    private static void thrownCallChangesNothing() {
        says("Changes", "A method that throws an exception changes nothing.");
        PacketToll tried = used();
        for (int i = 0; i < 9; i++) {
            // were they changes, the earlier ones would be final by now
            Checks.dueThrow("pass(0)", ARGUMENT, () -> tried.pass(0));
            Checks.dueThrow("forward(0, 9)", INDEX, () -> tried.forward(0, 9));
            Checks.dueThrow("grant(0, 0, 1)", ARGUMENT, () -> tried.grant(0, 0, 1));
            Checks.dueThrow("send(0, 0)", ARGUMENT, () -> tried.send(0, 0));
            Checks.dueThrow("setThrift(0, -1)", ARGUMENT, () -> tried.setThrift(0, -1));
            Checks.dueThrow("load(-1)", ARGUMENT, () -> tried.load(-1));
        }
        Answers.dueSameFromHere("behind 54 such calls", tried, used());
    }
}

/** Setups that several tests share. */
final class Worlds {
    static final String GATE = "gate 1 1 1;";
    static final String SIX_GATES = "toll;" + GATE.repeat(6);
    static final String ONE_FLOW = "toll;gate1 1 1;flow0;";

    private Worlds() {
    }

    /** Packet 0 fills the room of gate 1; packet 1 pays its size at gate 0 at 1 and is dropped at gate 1 at 2. */
    static String dropped(int paid) {
        return "toll;gate 0 900 9;gate 0 1 1;flow 0 1;flow 0;packet 0 0 900;packet 0 1 " + paid + ";coupon 0 " + paid
                + " 99;";
    }

    /** The bill of one packet of size 7 that passes gate 1 at 2, waits 2 ticks there and spends 3. */
    static void duePrice(String price, int bill) {
        PacketToll toll = Checks.tollWith("toll;gate 0 9 1;gate 0 4 1;flow 1 thrift 2;packet 0 0 7;coupon 0 9 9;price "
                + price + ";");
        toll.pass(2);
        Checks.due("bill before it passes", toll.flow(0, 2), 0);
        toll.pass(1);
        Checks.due("bill for " + price, toll.flow(0, 2), bill);
    }
}

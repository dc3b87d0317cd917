/**
 * Each sentence of the document that names a boundary of what gates, flows, packets and coupons are and of what a tick
 * does with them, in a test of its own: the terms and promise 18.
 */
public final class TickBoundariesTest {
    private static final Class<IndexOutOfBoundsException> INDEX = IndexOutOfBoundsException.class;

    public static void main(String[] args) {
        timeIsZeroAtFirst();
        sixGates();
        sixFlows();
        fortyPackets();
        thirtyCoupons();
        bucketsAreFullAtFirst();
        queueHoldsItsRoom();
        statesOfAPacket();
        couponsFromOneToTheMost();
        couponsBehindARemovedOne();
        spendFirstToEnd();
        spendUntilNothingIsLeft();
        bucketsAreRefilledUpToTheDepth();
        couponsAreRemovedAtTheirEnd();
        arriveInOrderOfIndexes();
        packetsToComeArriveAtTheirStart();
        arriveWhereAsManyAsTheRoomAre();
        refundOfMoreThanNothing();
        refundOfTheSum();
        refundEnds();
        refundIsThereAtOnce();
        refundsInOrderOfIndexes();
        refundWithThirtyCoupons();
        gatesInAscendingOrder();
        flowsInAscendingOrder();
        firstInTheQueueStopsTheOthers();
        passByTokens();
        passByThrift();
        thriftCountsInEachQueue();
        passByTokensAndCoupons();
        takesAllTokens();
        deliveredBehindTheLastGate();
        timeBecomesGreaterByOne();
        billByThePrice();
        numberOutsideBecomesTheNearerBound();
        priceIsLimited();
        priceSeesTheQueue();
        divisionTruncates();
        divisionByNothing();
        operationsFromLeftToRight();
        eachResultIsLimited();
        priceWithoutStatement();
        latestFortyPassages();
        loadFromSomeTime();
        passAnswersTheDelivered();
        Checks.end("TickBoundariesTest");
    }

    private static void says(String where, String words) {
        Checks.says(where, words);
    }

    private static void due(String what, long got, long want) {
        Checks.due(what, got, want);
    }

    private static void timeIsZeroAtFirst() {
        says("Conventions", "The time is counted in ticks, 0 at first.");
        PacketToll toll = new PacketToll();
        due("at first", toll.state(0), 0);
        toll.pass(1);
        due("behind one tick", toll.state(0), 1);
        toll.pass(200);
        due("behind 201", toll.state(0), 201);
        Checks.load(toll, "toll;");
        due("behind a load", toll.state(0), 0);
    }

    private static void sixGates() {
        says("Gates, flows and packets", "There are at most 6 gates, with indexes from 0.");
        PacketToll none = Checks.tollWith("toll;");
        Checks.dueThrow("gate(0, 0) without gates", INDEX, () -> none.gate(0, 0));
        PacketToll toll = Checks.tollWith("toll;gate1 2 3;gate2 2 3;gate3 2 3;gate4 2 3;gate5 2 3;gate6 2 3;");
        due("gates", toll.state(1), 6);
        for (int gate = 0; gate < 6; gate++) {
            due("rate of " + gate, toll.gate(gate, 0), gate + 1);
        }
        Checks.dueThrow("gate(6, 0)", INDEX, () -> toll.gate(6, 0));
        Checks.dueThrow("gate(-1, 0)", INDEX, () -> toll.gate(-1, 0));
        due("a 7th", Checks.load(toll, "toll;" + Worlds.GATE.repeat(7)), PacketToll.TOO_MANY);
    }

    private static void sixFlows() {
        says("Gates, flows and packets", "There are at most 6 flows, with indexes from 0.");
        PacketToll none = Checks.tollWith("toll;gate 1 1 1;");
        Checks.dueThrow("flow(0, 0) without flows", INDEX, () -> none.flow(0, 0));
        String text = "toll;gate1 1 1;flow0thrift1;flow0thrift2;flow0thrift3;flow0thrift4;flow0thrift5;flow0thrift6;";
        PacketToll toll = Checks.tollWith(text);
        due("flows", toll.state(2), 6);
        for (int flow = 0; flow < 6; flow++) {
            due("thrift of " + flow, toll.flow(flow, 1), flow + 1);
        }
        Checks.dueThrow("flow(6, 0)", INDEX, () -> toll.flow(6, 0));
        Checks.dueThrow("flow(-1, 0)", INDEX, () -> toll.flow(-1, 0));
        due("a 7th", Checks.load(toll, text + "flow0;"), PacketToll.TOO_MANY);
    }

    private static void fortyPackets() {
        says("Gates, flows and packets", "There are at most 40 packets, with indexes from 0.");
        PacketToll none = Checks.tollWith(Worlds.ONE_FLOW);
        Checks.dueThrow("packet(0, 0) without packets", INDEX, () -> none.packet(0, 0));
        PacketToll toll = Checks.tollWith(Worlds.ONE_FLOW + "packet0 0 7;".repeat(39) + "packet0 0 8;");
        due("packets", toll.state(3), 40);
        due("size of the first", toll.packet(0, 2), 7);
        due("size of the last", toll.packet(39, 2), 8);
        Checks.dueThrow("packet(40, 0)", INDEX, () -> toll.packet(40, 0));
        Checks.dueThrow("packet(-1, 0)", INDEX, () -> toll.packet(-1, 0));
        Checks.dueThrow("send", IllegalStateException.class, () -> toll.send(0, 1));
        Checks.passTo(toll, 9);
        due("packets that have ended are packets still", toll.state(3), 40);
        Checks.dueThrow("send", IllegalStateException.class, () -> toll.send(0, 1));
    }

    private static void thirtyCoupons() {
        says("Coupons", "There are at most 30 coupons, with indexes from 0 in the order in which they were made.");
        PacketToll none = Checks.tollWith(Worlds.ONE_FLOW);
        Checks.dueThrow("coupon(0, 0) without coupons", INDEX, () -> none.coupon(0, 0));
        StringBuilder text = new StringBuilder(Worlds.ONE_FLOW);
        for (int value = 1; value <= 28; value++) {
            text.append("coupon0 ").append(value).append(" 99;");
        }
        PacketToll toll = Checks.tollWith(text.toString());
        due("the 29th", toll.grant(0, 29, 1), 28);
        due("the 30th", toll.grant(0, 30, 9), 29);
        due("coupons", toll.state(4), 30);
        for (int i = 0; i < 30; i++) {
            due("value of " + i, toll.coupon(i, 1), i + 1);
        }
        Checks.dueThrow("coupon(30, 0)", INDEX, () -> toll.coupon(30, 0));
        Checks.dueThrow("coupon(-1, 0)", INDEX, () -> toll.coupon(-1, 0));
        Checks.dueThrow("a 31st", IllegalStateException.class, () -> toll.grant(0, 1, 1));
        toll.pass(2);
        due("one has expired", toll.state(4), 29);
        due("so there is a place again", toll.grant(0, 31, 1), 29);
    }

    private static void bucketsAreFullAtFirst() {
        says("Gates, flows and packets", "At each gate each flow has a bucket of tokens of its own; at first it is full: "
                + "it has as many tokens as the depth.");
        PacketToll toll = Checks.tollWith("toll;gate0 1 1;gate0 2 1;gate0 3 1;gate0 999 1;gate0 5 1;gate0 6 1;"
                + "flow0;flow1;flow2;flow3;flow4;flow5;packet3 0 999;");
        int[] depths = {1, 2, 3, 999, 5, 6};
        dueTokens(toll, depths, 999);
        due("all tokens are enough", toll.pass(1), 1);
        dueTokens(toll, depths, 0);
    }

    /** At each gate as many as the depth, but for flow 3 at gate 3. */
    private static void dueTokens(PacketToll toll, int[] depths, int other) {
        for (int gate = 0; gate < 6; gate++) {
            for (int flow = 0; flow < 6; flow++) {
                int want = gate == 3 && flow == 3 ? other : depths[gate];
                due("tokens(" + gate + ", " + flow + ")", toll.tokens(gate, flow), want);
            }
        }
    }

    private static void queueHoldsItsRoom() {
        says("Gates, flows and packets", "It has a queue of packets there, too, of at most room packets.");
        for (int room : new int[] {1, 2, 19, 20}) {
            String text = "toll;gate0 1 " + room + ";flow0;flow0;packet1 0 9;" + "packet0 0 9;".repeat(room + 2);
            PacketToll toll = Checks.tollWith(text);
            due("no packet there", toll.queue(0, 0), 0);
            toll.pass(1);
            due("full", toll.queue(0, 0), room);
            due("the other flow's", toll.queue(0, 1), 1);
            due("dropped", toll.state(6), 2);
            due("the last one in the queue", toll.packet(room, 3), 1);
            due("the first one dropped", toll.packet(room + 1, 3), 4);
            toll.send(0, 9);
            toll.pass(1);
            due("still full", toll.queue(0, 0), room);
            due("dropped", toll.state(6), 3);
        }
    }

    private static void statesOfAPacket() {
        says("Gates, flows and packets", "Its state is 0 to come (it arrives at the first gate of its flow at its start), "
                + "1 waiting in a queue, 2 on its way to a gate, 3 delivered, 4 dropped.");
        PacketToll toll = Checks.tollWith("toll;gate 5 9 1;gate 5 9 1;flow 1 0;packet 0 1 9;packet 0 2 9;packet 0 2 9;");
        Checks.duePacket(toll, 0, 0, 1, 9, 0, -1, 0, -1);
        toll.pass(1);
        Checks.duePacket(toll, 0, 0, 1, 9, 0, -1, 0, -1);
        toll.pass(1);
        Checks.duePacket(toll, 0, 0, 1, 9, 2, 0, 0, -1);
        toll.pass(1);
        Checks.duePacket(toll, 0, 0, 1, 9, 3, -1, 0, 2);
        Checks.duePacket(toll, 1, 0, 2, 9, 1, 1, 0, -1);
        Checks.duePacket(toll, 2, 0, 2, 9, 4, -1, 0, 2);
    }

    private static void couponsFromOneToTheMost() {
        says("Coupons", "A coupon has a flow to which it belongs, a value (1 to 9999), an end (the time at which it expires)");
        PacketToll toll = Checks.tollWith("toll;gate 0 1 1;flow 0;flow 0;coupon 0 1 1;coupon 1 9999 9999;");
        Checks.dueCoupon(toll, 0, 0, 1, 1, 0);
        Checks.dueCoupon(toll, 1, 1, 9999, 9999, 0);
        toll.pass(1);
        due("at its end no tick with that time has passed", toll.state(4), 2);
        toll.pass(1);
        due("it expired at 1", toll.state(4), 1);
        Checks.passTo(toll, 9999);
        due("no tick with the time 9999 passes", toll.state(4), 1);
    }

    private static void couponsBehindARemovedOne() {
        says("Coupons", "If a coupon is removed, the indexes of those behind it become smaller by 1.");
        PacketToll toll = Checks.tollWith("toll;gate 0 1 1;flow 0;flow 0;coupon 1 1 1;coupon 1 2 9;coupon 1 3 1;"
                + "coupon 1 4 1;coupon 1 5 9;coupon 1 6 1;coupon 0 7 9;coupon 1 8 9;packet 0 2 8;");
        toll.forward(4, 0);
        toll.forward(4, 1);
        toll.pass(2);
        due("four of eight have expired", toll.state(4), 4);
        Checks.dueCoupon(toll, 0, 1, 2, 9, 0);
        Checks.dueCoupon(toll, 1, 1, 3, 9, 2);
        Checks.dueCoupon(toll, 2, 0, 7, 9, 0);
        Checks.dueCoupon(toll, 3, 1, 8, 9, 0);
        toll.pass(1);
        due("one is spent", toll.state(4), 3);
        Checks.dueCoupon(toll, 1, 1, 3, 9, 2);
        Checks.dueCoupon(toll, 2, 1, 8, 9, 0);
        PacketToll all = Checks.tollAt(2, Worlds.ONE_FLOW + "coupon0 1 1;".repeat(30));
        due("all of 30 have expired", all.state(4), 0);
        due("expired", all.state(7), 30);
    }

    private static void spendFirstToEnd() {
        says("Coupons", "from the coupons of the flow, the one that ends first is taken again and again (of several the "
                + "one with the smallest index), until the amount is spent");
        String text = "toll;gate 0 1 9;flow 0;flow 0;coupon 0 5 30;coupon 0 3 20;coupon 1 9 10;coupon 0 4 20;coupon 0 9 40;"
                + "packet 0 0 1;packet 0 0 ";
        // the values that are left of the coupons of flow 0 in their order, behind so much that was spent
        int[][] left = {{1, 5, 2, 4, 9}, {2, 5, 1, 4, 9}, {3, 5, 4, 9}, {4, 5, 3, 9}, {7, 5, 9}, {8, 4, 9}, {12, 9},
            {13, 8}, {20, 1}, {21}};
        for (int[] row : left) {
            PacketToll toll = Checks.tollWith(text + row[0] + ";");
            due("both pass", toll.pass(1), 2);
            due("coupons of flow 0 behind " + row[0], toll.flow(0, 3), row.length - 1);
            int next = 1;
            for (int i = 0; i < toll.state(4); i++) {
                if (toll.coupon(i, 0) == 0) {
                    due("value behind " + row[0], toll.coupon(i, 1), row[next]);
                    next++;
                }
            }
            due("the other flow's", toll.flow(1, 4), 9);
        }
    }

    private static void spendUntilNothingIsLeft() {
        says("Coupons", "its value becomes smaller by what is still missing, or it is removed if nothing of it is left.");
        for (int value = 5; value <= 6; value++) {
            PacketToll toll = Checks.tollAt(1, "toll;gate 0 1 9;flow 0;packet 0 0 6;coupon 0 " + value + " 9;");
            due("spent", toll.state(8), 5);
            due("coupons left of " + value, toll.state(4), value - 5);
            due("value left of " + value, toll.flow(0, 4), value - 5);
            due("none expired", toll.state(7), 0);
        }
        PacketToll all = Checks.tollAt(1, "toll;gate0 1 9;flow0;packet0 0 31;" + "coupon0 1 9;".repeat(30));
        due("30 coupons spent at once", all.state(4), 0);
        due("spent", all.state(8), 30);
    }

    private static void bucketsAreRefilledUpToTheDepth() {
        says("A tick", "Each bucket gets as many tokens as the rate of its gate, but has at most as many as the depth "
                + "then.");
        PacketToll toll = Checks.tollWith("toll;gate 0 9 1;gate 99 999 1;gate 99 1 1;gate 3 10 9;flow 0;flow 1;flow 2;flow 3;"
                + "packet 0 0 9;packet 1 0 999;packet 2 0 1;packet 3 0 4;packet 3 1 9;packet 3 2 3;");
        toll.pass(1);
        int[] first = {0, 0, 0, 6};
        for (int i = 0; i < 4; i++) {
            // a full bucket gets nothing before the passage, so none of it is left over
            due("tokens(" + i + ", " + i + ") at 1", toll.tokens(i, i), first[i]);
        }
        due("9 = 6 + 3 are enough", toll.pass(1), 1);
        due("3 = 0 + 3 are enough", toll.pass(1), 1);
        Checks.passTo(toll, 6);
        due("without a rate", toll.tokens(0, 0), 0);
        due("5 ticks of 99", toll.tokens(1, 1), 495);
        due("a depth of 1", toll.tokens(2, 2), 1);
        due("3 ticks of 3", toll.tokens(3, 3), 9);
        toll.pass(1);
        due("one more is the depth", toll.tokens(3, 3), 10);
        Checks.passTo(toll, 11);
        due("10 ticks of 99", toll.tokens(1, 1), 990);
        toll.pass(1);
        due("11 ticks of 99", toll.tokens(1, 1), 999);
        toll.pass(200);
        due("no more than the depth", toll.tokens(1, 1), 999);
        due("without a rate for ever", toll.tokens(0, 0), 0);
    }

    private static void couponsAreRemovedAtTheirEnd() {
        says("A tick", "The coupons whose end is this time are removed.");
        for (int start = 0; start <= 3; start++) {
            PacketToll toll = Checks.tollAt(4, "toll;gate 0 1 9;flow 0;packet 0 " + start + " 1;packet 0 " + start
                    + " 5;coupon 0 9 2;");
            boolean before = start < 2;
            due("packet that starts at " + start, toll.packet(1, 3), before ? 3 : 1);
            due("spent", toll.state(8), before ? 5 : 0);
            due("expired", toll.state(7), 1);
        }
        PacketToll last = Checks.tollAt(9999, Worlds.ONE_FLOW + "coupon 0 9 9999;packet 0 0 1;coupon 0 9 1;");
        due("no tick with the time 9999 has passed", last.state(4), 1);
        due("expired", last.state(7), 1);
        last.send(0, 9);
        last.send(0, 10);
        due("by 1 token and nothing of the coupon", last.endsAt(1), -1);
    }

    private static void arriveInOrderOfIndexes() {
        says("A tick", "The packets that arrive at this time arrive, all together in ascending order of their indexes");
        // packet 1 passes gate 0 before packet 0 at 3, but packet 0 arrives before packet 1 at 4, where one has room
        PacketToll toll = Checks.tollAt(4, "toll;gate 2 8 9;gate 0 8 1;flow 0 1;packet 0 2 1;packet 0 1 5;packet 0 0 8;");
        due("packet 0 on its way", toll.packet(0, 3), 2);
        due("packet 1 on its way", toll.packet(1, 3), 2);
        toll.pass(1);
        Checks.duePacket(toll, 0, 0, 2, 1, 1, 1, 0, -1);
        Checks.duePacket(toll, 1, 0, 1, 5, 4, -1, 0, 4);
        PacketToll start = Checks.tollAt(1, "toll;gate 0 1 2;flow 0;packet 0 0 5;packet 0 0 1;packet 0 0 1;");
        due("the first in the queue stops the second", start.queue(0, 0), 2);
        due("the third is dropped", start.packet(2, 3), 4);
    }

    private static void packetsToComeArriveAtTheirStart() {
        says("A tick", "those to come with this start at the first gate of their flows; those on their way that passed a "
                + "gate in the tick before at the next gate of the route.");
        for (int start : new int[] {0, 1, 200, 999}) {
            String text = "toll;gate 0 9 1;gate 0 9 1;flow 1 0;packet 0 " + start + " 9;";
            PacketToll toll = Checks.tollAt(start, text);
            due("before the tick", toll.packet(0, 3), 0);
            due("endsAt", toll.endsAt(0), start + 1);
            due("no passage at the next gate in the same tick", toll.pass(1), 0);
            Checks.duePacket(toll, 0, 0, start, 9, 2, 0, 0, -1);
            due("a tick later", toll.pass(1), 1);
            due("delivered at", toll.packet(0, 6), start + 1);
        }
    }

    private static void arriveWhereAsManyAsTheRoomAre() {
        says("A tick", "A packet that arrives joins the queue of its flow at the gate, behind the others, or, if there are "
                + "as many as the room already, it is dropped.");
        // packet 0 passes in the tick in which it arrives, but packet 1 arrives before that
        PacketToll toll = Checks.tollAt(1, "toll;gate 1 9 1;flow 0;flow 0;packet 0 0 1;packet 0 0 1;packet 1 0 1;packet 0 1 1;");
        due("the first one", toll.packet(0, 3), 3);
        due("the second one", toll.packet(1, 3), 4);
        due("when it was dropped", toll.packet(1, 6), 0);
        due("the other flow has a queue of its own", toll.packet(2, 3), 3);
        due("the next one finds room", toll.pass(1), 1);
        PacketToll behind = Checks.tollAt(2, "toll;gate 1 5 2;flow 0;packet 0 1 1;packet 0 0 5;packet 0 0 3;");
        due("packet 2 is first and waits for 3 tokens", behind.packet(2, 3), 1);
        due("packet 0 is behind it", behind.packet(0, 3), 1);
        due("both pass at 3 and 4", behind.pass(3), 2);
        due("packet 2 at", behind.packet(2, 6), 3);
        due("packet 0 at", behind.packet(0, 6), 4);
    }

    /** The refund of a packet that paid so much: one coupon of this value, or none if it is 0. */
    private static void dueRefund(int paid, String refund, int value) {
        PacketToll toll = Checks.tollAt(3, Worlds.dropped(paid) + refund);
        due("dropped at", toll.packet(1, 6), 2);
        due("spent", toll.packet(1, 5), paid);
        due("coupons for " + paid + " by " + refund, toll.state(4), value > 0 ? 1 : 0);
        due("value for " + paid + " by " + refund, toll.flow(0, 4), value);
    }

    private static void refundOfMoreThanNothing() {
        says("A tick", "if the sum that it spent times the percent, divided by 100, is greater than 0, a coupon of its flow "
                + "with this value (at most 9999) is made");
        dueRefund(1, "refund 99 5;", 0);
        dueRefund(1, "refund 100 5;", 1);
        dueRefund(2, "refund 49 5;", 0);
        dueRefund(2, "refund 50 5;", 1);
        dueRefund(99, "refund 1 5;", 0);
        dueRefund(100, "refund 1 5;", 1);
        dueRefund(199, "refund 1 5;", 1);
        dueRefund(200, "refund 1 5;", 2);
        dueRefund(890, "refund 0 5;", 0);
        dueRefund(890, "refund 100 5;", 890);
        PacketToll first = Checks.tollAt(1, "toll;gate 0 1 1;flow 0;packet 0 0 9;packet 0 0 9;refund 100 9;");
        due("dropped at its first gate", first.state(6), 1);
        due("without a refund", first.state(4), 0);
    }

    private static void refundOfTheSum() {
        says("A tick", "For a dropped packet that spent coupons at earlier gates there is a refund");
        String text = "toll;gate 0 900 9;gate 0 900 9;gate 0 1 1;flow 0 1 2;packet 0 0 900;packet 0 1 1;coupon 0 2 99;";
        PacketToll toll = Checks.tollAt(4, text);
        due("spent at two gates", toll.packet(1, 5), 2);
        due("dropped at the third", toll.packet(1, 6), 3);
        Checks.dueCoupon(toll, 0, 0, 1, 13, 0);
        due("the coupons are all", toll.state(4), 1);
        // at three gates, before the last place of the longest route
        PacketToll four = Checks.tollAt(5, "toll;gate0 999 9;gate0 999 9;gate0 999 9;gate0 1 1;flow0 1 2 3;packet0 0 999;"
                + "packet0 1 999;coupon0 2997 99;refund 33 9;");
        due("the most that can be spent before a drop", four.packet(1, 5), 2997);
        Checks.dueCoupon(four, 0, 0, 989, 13, 0);
    }

    private static void refundEnds() {
        says("A tick", "which ends at this time + the ticks of the refund");
        PacketToll toll = Checks.tollAt(3, Worlds.dropped(9) + "refund 100 1;");
        Checks.dueCoupon(toll, 0, 0, 9, 3, 0);
        toll.pass(1);
        due("it has expired in the next tick", toll.state(4), 0);
        due("expired", toll.state(7), 1);
        PacketToll last = Checks.tollAt(1001, Worlds.dropped(9) + "refund 100 999;");
        Checks.dueCoupon(last, 0, 0, 9, 1001, 0);
        last.pass(1);
        due("it has expired at 1001", last.state(4), 0);
    }

    private static void refundIsThereAtOnce() {
        says("A tick", "When a tick passes, the following is done in this order, with the time as it is before");
        // packet 2 arrives at gate 0 in the tick in which packet 1 is dropped, and pays with its refund
        PacketToll toll = Checks.tollAt(2, "toll;gate 0 900 9;gate 0 1 1;flow 0 1;packet 0 0 900;packet 0 1 30;packet 0 2 25;"
                + "coupon 0 30 99;refund 100 1;");
        due("no coupon before the tick", toll.state(4), 0);
        toll.pass(1);
        Checks.dueCoupon(toll, 0, 0, 5, 3, 0);
        Checks.duePacket(toll, 2, 0, 2, 25, 2, 1, 25, -1);
        toll.pass(1);
        due("the rest has expired before packet 2 brings a refund", toll.state(7), 1);
        Checks.dueCoupon(toll, 0, 0, 25, 4, 0);
    }

    private static void refundsInOrderOfIndexes() {
        says("Coupons", "with indexes from 0 in the order in which they were made.");
        PacketToll toll = Checks.tollAt(3, "toll;gate 0 900 9;gate 0 1 1;flow 0 1;flow 0 1;packet 1 1 20;packet 0 1 30;"
                + "packet 0 0 900;packet 1 0 900;coupon 0 30 99;coupon 1 20 99;refund 100 5;");
        due("two refunds", toll.state(4), 2);
        Checks.dueCoupon(toll, 0, 1, 20, 7, 0);
        Checks.dueCoupon(toll, 1, 0, 30, 7, 0);
    }

    private static void refundWithThirtyCoupons() {
        says("A tick", "but not if there are 30 coupons.");
        for (int others = 28; others <= 30; others++) {
            PacketToll toll = Checks.tollAt(2, Worlds.dropped(30));
            for (int i = 0; i < others; i++) {
                toll.grant(1, 1, 99);
            }
            toll.pass(1);
            due("dropped", toll.state(6), 1);
            due("coupons beside " + others, toll.state(4), Math.min(30, others + 1));
            due("the refund beside " + others, toll.flow(0, 4), others < 30 ? 15 : 0);
        }
        PacketToll expired = Checks.tollAt(2, Worlds.dropped(30) + "coupon 1 1 2;");
        for (int i = 0; i < 29; i++) {
            expired.grant(1, 1, 99);
        }
        due("30 before the tick", expired.state(4), 30);
        expired.pass(1);
        due("one of them expires before the packet is dropped", expired.flow(0, 4), 15);
        due("coupons", expired.state(4), 30);
    }

    private static void gatesInAscendingOrder() {
        says("A tick", "For each gate in ascending order, and for each flow in ascending order");
        // both packets need the coupon at 1: packet 0 at its second gate, packet 1 at its first one
        PacketToll down = Checks.tollAt(2, "toll;gate 0 1 9;gate 0 5 9;flow 1 0;packet 0 0 5;packet 0 1 4;coupon 0 4 99;");
        due("packet 0 pays at gate 0", down.packet(0, 3), 3);
        due("packet 1 waits at gate 1", down.packet(1, 3), 1);
        PacketToll up = Checks.tollAt(2, "toll;gate 0 5 9;gate 0 1 9;flow 0 1;packet 0 0 5;packet 0 1 4;coupon 0 4 99;");
        due("packet 1 pays at gate 0", up.packet(1, 3), 2);
        due("packet 0 waits at gate 1", up.packet(0, 3), 1);
    }

    /** Of two passages at time 0 and 38 later ones the first gives way to the next passage, then the second. */
    private static void dueFirstGone(String route0, String route1, int first) {
        int[] gates = {route0.charAt(0) - '0', route1.charAt(0) - '0'};
        int[] sizes = {5, 7};
        PacketToll toll = Checks.tollAt(3, "toll;" + "gate99 999 20;".repeat(4) + "flow" + route0 + ";flow" + route1
                + ";flow2 3;flow2;packet1 0 7;packet0 0 5;" + "packet2 1 1;".repeat(19));
        for (int gone = 0; gone <= 2; gone++) {
            for (int flow = 0; flow < 2; flow++) {
                boolean kept = gone == 0 || gone == 1 && flow != first;
                due("load of flow " + flow + " behind " + (40 + gone), toll.loadOver(gates[flow], flow, 1),
                        kept ? sizes[flow] : 0);
            }
            toll.send(3, 1);
            toll.pass(1);
        }
    }

    private static void flowsInAscendingOrder() {
        says("A tick", "For each gate in ascending order, and for each flow in ascending order");
        dueFirstGone("0", "0", 0);
        dueFirstGone("0", "1", 0);
        dueFirstGone("1", "0", 1);
    }

    private static void firstInTheQueueStopsTheOthers() {
        says("A tick", "as long as there is a first packet in the queue that can pass, it passes.");
        PacketToll toll = Checks.tollWith("toll;gate 0 9 20;flow 0;packet 0 0 2;packet 0 0 3;packet 0 0 4;packet 0 0 1;");
        due("three in one tick", toll.pass(1), 3);
        due("one is left", toll.queue(0, 0), 1);
        PacketToll stop = Checks.tollWith("toll;gate 0 9 20;flow 0;packet 0 0 2;packet 0 0 8;packet 0 0 1;");
        due("the second one stops the third", stop.pass(200), 1);
        due("two are left", stop.queue(0, 0), 2);
        PacketToll all = Checks.tollWith("toll;gate0 40 20;gate0 20 20;flow0;flow1;" + "packet0 0 1;packet1 0 1;".repeat(20));
        due("all of 40 in one tick", all.pass(1), 40);
    }

    private static void passByTokens() {
        says("A tick", "It can pass if its size is at most the tokens of the bucket");
        for (int size : new int[] {1, 8, 9, 10, 999}) {
            PacketToll toll = Checks.tollAt(1, "toll;gate 0 9 9;flow 0 thrift 9;packet 0 0 " + size + ";coupon 0 9999 99;");
            due("delivered with size " + size, toll.state(5), size <= 9 ? 1 : 0);
            due("tokens left", toll.tokens(0, 0), size <= 9 ? 9 - size : 9);
            due("nothing is spent", toll.state(8), 0);
        }
        PacketToll greatest = Checks.tollAt(1, "toll;gate 0 999 9;flow 0;packet 0 0 999;");
        due("the greatest packet", greatest.state(5), 1);
    }

    private static void passByThrift() {
        says("A tick", "if it is in this queue since as many ticks as the thrift or more");
        for (int thrift : new int[] {0, 1, 2, 98, 99}) {
            for (int start : new int[] {0, 7}) {
                PacketToll toll = Checks.tollAt(start + thrift, "toll;gate 0 4 9;flow 0 thrift " + thrift + ";packet 0 "
                        + start + " 5;coupon 0 1 999;");
                due("not before " + thrift + " ticks", toll.state(5), 0);
                due("behind " + thrift + " ticks", toll.pass(1), 1);
                due("spent", toll.state(8), 1);
            }
        }
        PacketToll late = Checks.tollAt(50, "toll;gate 0 4 9;flow 0 thrift 2;packet 0 0 5;");
        late.grant(0, 1, 1);
        due("or more", late.pass(1), 1);
        due("its price sees the whole wait", Checks.tollAt(9, "toll;gate 1 1 9;flow 0;packet 0 0 1;packet 0 0 1;price wait;")
                .flow(0, 2), 1);
    }

    private static void thriftCountsInEachQueue() {
        says("A tick", "wait the number of ticks since it joined this queue.");
        PacketToll toll = Checks.tollAt(7, "toll;gate 0 4 9;gate 0 3 9;flow 0 1 thrift 3;packet 0 0 5;coupon 0 9 99;"
                + "price wait+10;");
        due("at gate 0 it passed at 3", toll.flow(0, 2), 13);
        due("at gate 1 it waits again", toll.packet(0, 3), 1);
        due("at 7 it passes, 3 ticks behind 4", toll.pass(1), 1);
        due("the bill", toll.flow(0, 2), 26);
    }

    private static void passByTokensAndCoupons() {
        says("A tick", "its size is at most the sum of the tokens and of the values of all coupons of the flow.");
        for (int size = 15; size <= 17; size++) {
            PacketToll toll = Checks.tollAt(1, "toll;gate 0 9 9;flow 0;flow 0;coupon 0 3 9;coupon 1 99 9;coupon 0 4 5;packet 0 0 "
                    + size + ";");
            boolean passes = size <= 16;
            due("delivered with size " + size, toll.state(5), passes ? 1 : 0);
            due("spent", toll.state(8), passes ? size - 9 : 0);
            due("tokens", toll.tokens(0, 0), passes ? 0 : 9);
            due("the other flow's coupons", toll.flow(1, 4), 99);
        }
        PacketToll most = Checks.tollAt(1, "toll;gate0 1 9;flow0;packet0 0 999;" + "coupon0 9999 9;".repeat(30));
        due("299970 are enough", most.state(5), 1);
        due("the rest", most.flow(0, 4), 299970 - 998);
    }

    private static void takesAllTokens() {
        says("A tick", "When it passes, it takes tokens, and, if there are not enough, all of them, and what is missing is "
                + "spent of coupons.");
        int[][] rows = {{8, 1, 0}, {9, 0, 0}, {10, 0, 1}, {18, 0, 9}};
        for (int[] row : rows) {
            PacketToll toll = Checks.tollAt(1, "toll;gate 0 9 9;flow 0;packet 0 0 " + row[0] + ";coupon 0 9 9;");
            due("tokens behind " + row[0], toll.tokens(0, 0), row[1]);
            due("spent by " + row[0], toll.packet(0, 5), row[2]);
            due("spent in all", toll.state(8), row[2]);
            due("left of the coupon", toll.flow(0, 4), 9 - row[2]);
        }
    }

    private static void deliveredBehindTheLastGate() {
        says("A tick", "Behind the last gate of its route a packet is delivered; otherwise it is on its way to the next "
                + "gate.");
        PacketToll one = Checks.tollAt(1, "toll;gate 0 9 9;flow 0;packet 0 0 3;");
        Checks.duePacket(one, 0, 0, 0, 3, 3, -1, 0, 0);
        PacketToll four = Checks.tollWith("toll;" + "gate 0 9 9;".repeat(6) + "flow 5 0 3 1;packet 0 0 3;");
        int[] next = {0, 3, 1};
        for (int place = 0; place < 3; place++) {
            due("not yet", four.pass(1), 0);
            Checks.duePacket(four, 0, 0, 0, 3, 2, next[place], 0, -1);
        }
        due("behind the fourth", four.pass(1), 1);
        Checks.duePacket(four, 0, 0, 0, 3, 3, -1, 0, 3);
        due("the sizes that were delivered", four.flow(0, 5), 3);
    }

    private static void timeBecomesGreaterByOne() {
        says("A tick", "The time becomes greater by 1.");
        PacketToll toll = Checks.tollWith(Worlds.ONE_FLOW);
        for (int time = 1; time <= 5; time++) {
            toll.pass(1);
            due("time", toll.state(0), time);
        }
    }

    private static void billByThePrice() {
        says("A tick", "The bill of the flow becomes greater by the price.");
        for (int price : new int[] {0, 1, 9999}) {
            PacketToll toll = Checks.tollWith("toll;gate 9 9 9;gate 9 9 9;flow 0 1;flow 1;packet 0 0 4;packet 0 1 5;price "
                    + price + ";");
            int[] passages = {0, 1, 3, 4};
            for (int time = 0; time < 4; time++) {
                due("passages by " + time + " at " + price, toll.flow(0, 2), passages[time] * price);
                due("the other flow", toll.flow(1, 2), 0);
                toll.pass(1);
            }
        }
    }

    private static void numberOutsideBecomesTheNearerBound() {
        says("Conventions", "A number that is limited to a range becomes the nearer bound if it is outside of it.");
        Worlds.duePrice("0-1", 0);
        Worlds.duePrice("0-9999*9999", 0);
        Worlds.duePrice("9999+1", 9999);
        Worlds.duePrice("9999*9999", 9999);
        Worlds.duePrice("9999*9999-9999*100", 100);
        Worlds.duePrice("0-9999*9999-9999*9999+9999*100+200", 100);
        Worlds.duePrice("(0-9999*9999)+9999*100+150", 50);
    }

    private static void priceIsLimited() {
        says("A tick", "The price is the value of the price expression when the packet passes, limited to the range 0 to "
                + "9999.");
        Worlds.duePrice("0", 0);
        Worlds.duePrice("0-1", 0);
        Worlds.duePrice("0-9999*9999", 0);
        Worlds.duePrice("1", 1);
        Worlds.duePrice("9998", 9998);
        Worlds.duePrice("9999", 9999);
        Worlds.duePrice("9999+1", 9999);
        Worlds.duePrice("9999*9999", 9999);
        // the bill itself is not limited
        PacketToll toll = Checks.tollAt(1, "toll;gate0 40 20;gate0 40 20;flow0;flow1;price 9999;"
                + "packet0 0 1;".repeat(20) + "packet1 0 1;".repeat(20));
        due("20 prices", toll.flow(0, 2), 199980);
        due("20 prices", toll.flow(1, 2), 199980);
    }

    private static void priceSeesTheQueue() {
        says("A tick", "In the expression, size is the size of the packet, gate the index of the gate, spent what is spent "
                + "of coupons for it there");
        Worlds.duePrice("size", 7);
        Worlds.duePrice("gate", 1);
        Worlds.duePrice("spent", 3);
        Worlds.duePrice("wait", 2);
        String gates = "toll;gate 0 5 9;gate 0 9 9;gate 0 9 9;gate 0 9 9;gate 0 9 9;gate 0 3 9;";
        PacketToll toll = Checks.tollAt(2, gates + "flow 0 5;packet 0 0 9;coupon 0 99 99;price spent*100+gate;");
        due("4 at gate 0 and 6 at gate 5", toll.flow(0, 2), 400 + 605);
        due("the greatest size", Checks.tollAt(1, "toll;gate 0 1 1;flow 0;packet 0 0 999;coupon 0 999 9;price size*10+spent;")
                .flow(0, 2), 9999);
        due("all at once", Checks.tollAt(1, "toll;gate 0 1 1;flow 0;packet 0 0 1;price 5+spent+wait+gate;").flow(0, 2), 5);
    }

    private static void divisionTruncates() {
        says("Conventions", "Division truncates toward zero.");
        Worlds.duePrice("7/2", 3);
        Worlds.duePrice("(0-7)/2+10", 7);
        Worlds.duePrice("7/(0-2)+10", 7);
        Worlds.duePrice("(0-7)/(0-2)+10", 13);
        Worlds.duePrice("7/8", 0);
        Worlds.duePrice("(0-7)/8+10", 10);
        Worlds.duePrice("7/7", 1);
        Worlds.duePrice("(0-8)/8+10", 9);
    }

    private static void divisionByNothing() {
        says("A tick", "Division by 0 gives 0.");
        Worlds.duePrice("7/0+5", 5);
        Worlds.duePrice("0/0+5", 5);
        Worlds.duePrice("(0-7)/0+5", 5);
        Worlds.duePrice("7/(gate-1)+5", 5);
        Worlds.duePrice("7/0*9+5", 5);
        Worlds.duePrice("9/(7/0)+5", 5);
        PacketToll toll = Checks.tollAt(1, "toll;gate 0 9 9;flow 0;packet 0 0 7;price size/spent+size/wait+size/gate+4;");
        due("nothing spent, no wait, gate 0", toll.flow(0, 2), 4);
    }

    private static void operationsFromLeftToRight() {
        says("A tick", "The operations of one sum or term are made from the left to the right");
        Worlds.duePrice("100-10-20-30", 40);
        Worlds.duePrice("100-10+20", 110);
        Worlds.duePrice("100/10/5", 2);
        Worlds.duePrice("7/2*2", 6);
        Worlds.duePrice("7*3/2", 10);
        Worlds.duePrice("100/10*5", 50);
        Worlds.duePrice("1+2*3", 7);
        Worlds.duePrice("(1+2)*3", 9);
        Worlds.duePrice("20-2*3-4/2", 12);
        Worlds.duePrice("20-(2*3-4/2)", 16);
        Worlds.duePrice("2*(3+(4-(5-(6-1))))", 14);
    }

    private static void eachResultIsLimited() {
        says("A tick", "the result of each one is limited to the range -1000000 to 1000000.");
        Worlds.duePrice("1000*1000-1-9999*100", 99);
        Worlds.duePrice("1000*1000-9999*100", 100);
        Worlds.duePrice("1000*1000+1-9999*100", 100);
        Worlds.duePrice("1001*1000-9999*100", 100);
        Worlds.duePrice("(0-1000)*(0-1001)-9999*100", 100);
        // far beyond what an int holds
        Worlds.duePrice("9999*9999*9999-9999*100", 100);
        Worlds.duePrice("(9999*9999)*(9999*9999)-9999*100", 100);
        Worlds.duePrice("(0-1000)*1000+1+9999*100+150", 51);
        Worlds.duePrice("(0-1000)*1000+9999*100+150", 50);
        Worlds.duePrice("(0-1000)*1000-1+9999*100+150", 50);
        Worlds.duePrice("(0-1001)*1000+9999*100+150", 50);
        Worlds.duePrice("(0-9999*9999)*9999+9999*100+150", 50);
        Worlds.duePrice("(0-9999*9999)*(9999*9999)+9999*100+150", 50);
    }

    private static void priceWithoutStatement() {
        says("A tick", "Without a price statement the value is size.");
        PacketToll toll = Checks.tollAt(2, "toll;gate 0 5 9;gate 0 9 9;flow 0 1;packet 0 0 9;packet 0 0 1;coupon 0 5 99;");
        due("9 at each of two gates, 1 at gate 0", toll.flow(0, 2), 19);
        PacketToll load = Checks.tollWith("toll;gate 0 5 9;flow 0;price 3;");
        Checks.load(load, "toll;gate 0 5 9;flow 0;packet 0 0 4;");
        load.pass(1);
        due("behind a text with a price", load.flow(0, 2), 4);
    }

    private static void latestFortyPassages() {
        says("Curves", "The latest 40 passages (of all flows at all gates) are kept, each with its time, its gate, its flow, "
                + "the size, and what was spent of coupons.");
        PacketToll toll = Checks.tollAt(3, "toll;gate99 999 20;gate99 999 20;flow0 1;flow1;packet0 0 300;"
                + "packet0 1 1;".repeat(19));
        due("40 passages, gate 0", toll.loadOver(0, 0, 999), 319);
        due("40 passages, gate 1", toll.loadOver(1, 0, 999), 319);
        toll.send(1, 7);
        toll.pass(1);
        due("the 41st takes the place of the first", toll.loadOver(0, 0, 999), 19);
        due("the second one is kept", toll.loadOver(1, 0, 999), 319);
        due("the 41st", toll.loadOver(1, 1, 999), 7);
        for (int i = 0; i < 19; i++) {
            toll.send(1, 7);
        }
        toll.pass(1);
        due("60 passages: none of the first 20", toll.loadOver(0, 0, 999), 0);
        due("60 passages: the next 20", toll.loadOver(1, 0, 999), 319);
        due("60 passages: the last 20", toll.loadOver(1, 1, 999), 140);
        toll.undo();
        due("undone, they are back", toll.loadOver(0, 0, 999), 19);
    }

    private static void loadFromSomeTime() {
        says("Curves", "the greatest sum of size - spent of those kept passages of the flow there whose times are from some "
                + "time t to t + the number of ticks - 1.");
        PacketToll toll = Checks.tollAt(6, "toll;gate 99 99 9;flow 0;packet 0 0 4;packet 0 3 5;packet 0 5 7;");
        int[] want = {7, 7, 12, 12, 12, 16, 16};
        for (int ticks = 1; ticks <= 7; ticks++) {
            due("over " + ticks, toll.loadOver(0, 0, ticks), want[ticks - 1]);
        }
        PacketToll far = Checks.tollAt(1000, "toll;gate 99 999 9;flow 0;packet 0 0 4;packet 0 998 3;packet 0 999 2;");
        due("over 1", far.loadOver(0, 0, 1), 4);
        due("over 998", far.loadOver(0, 0, 998), 5);
        due("over 999", far.loadOver(0, 0, 999), 7);
        PacketToll paid = Checks.tollAt(1, "toll;gate 0 4 9;flow 0;packet 0 0 3;packet 0 0 6;packet 0 0 8;coupon 0 20 9;");
        due("all three passed", paid.state(5), 3);
        due("3, 6 - 5 and 8 - 8", paid.loadOver(0, 0, 1), 4);
        PacketToll only = Checks.tollAt(2, "toll;gate 0 1 9;flow 0;packet 0 0 1;packet 0 1 8;coupon 0 20 9;");
        due("1 and 8 - 8", only.loadOver(0, 0, 2), 1);
    }

    private static void passAnswersTheDelivered() {
        says("Promise 18", "Returns the number of packets that were delivered in them.");
        PacketToll toll = Checks.tollWith("toll;gate 0 20 2;gate 0 20 9;flow 0 1;flow 1;packet 0 0 5;packet 0 0 5;packet 0 0 5;"
                + "packet 1 1 9;packet 1 199 9;packet 1 200 2;");
        due("none behind the first gate, none that is dropped", toll.pass(1), 0);
        due("dropped", toll.state(6), 1);
        due("three behind the second gate", toll.pass(1), 3);
        due("one in the last of 198 ticks", toll.pass(198), 1);
        due("one in the next tick", toll.pass(1), 1);
        due("none in 200 ticks", toll.pass(200), 0);
        due("in all", toll.state(5), 5);
    }
}

import java.math.BigInteger;
import java.util.ArrayList;
import java.util.List;

/**
 * Each sentence of the document that names a boundary of a call which changes nothing, in a test of its own: promises 5
 * to 17 and 24. What these calls throw is in ThrowBoundariesTest.
 */
public final class AnswerBoundariesTest {
    public static void main(String[] args) {
        stateOfNothing();
        stateOfEverything();
        sumsOfAFlow();
        placesOfARoute();
        tokensOffTheRoute();
        queueFromNoneToItsRoom();
        packetThatIsNowhere();
        couponFromFirstToLast();
        loadWithoutPassages();
        curveFromOneTickOn();
        curveIsAboveEachLoad();
        endsAtWithinFiveHundredTicks();
        endsAtOfWhatWaits();
        endsAtOfWhatHasEnded();
        endsAtBeyondTheLastTime();
        billAfterNoneToFiveHundredTicks();
        billAfterBeyondTheLastTime();
        smallestHelp();
        helpThatIsEarlier();
        helpWhereItNeverEnds();
        helpIsSpentLast();
        helpIsSpentBehindOneWithItsEnd();
        helpToBeDroppedEarlier();
        helpWithThirtyCoupons();
        checksumOfNothing();
        checksumInItsOrder();
        checksumWrapsAround();
        Checks.end("AnswerBoundariesTest");
    }

    private static void says(String where, String words) {
        Checks.says(where, words);
    }

    private static void due(String what, long got, long want) {
        Checks.due(what, got, want);
    }

    private static void dueState(PacketToll toll, int... want) {
        for (int what = 0; what <= 9; what++) {
            due("state(" + what + ") at " + want[0], toll.state(what), want[what]);
        }
    }

    private static void stateOfNothing() {
        says("Promise 5", "0 the time, 1 gates, 2 flows, 3 packets, 4 coupons, 5 packets that were delivered, 6 packets that "
                + "were dropped, 7 coupons that expired, 8 what was spent of coupons in all, 9 the fee");
        dueState(new PacketToll(), 0, 0, 0, 0, 0, 0, 0, 0, 0, 1);
        dueState(Checks.tollWith("toll;"), 0, 0, 0, 0, 0, 0, 0, 0, 0, 1);
        dueState(Checks.tollWith("toll;gate 1 1 1;"), 0, 1, 0, 0, 0, 0, 0, 0, 0, 1);
        dueState(Checks.tollWith("toll;fee 0;"), 0, 0, 0, 0, 0, 0, 0, 0, 0, 0);
    }

    private static void stateOfEverything() {
        says("Promise 5", "Returns the number of these, or this number.");
        PacketToll toll = Checks.tollWith("toll;gate0 20 20;gate0 1 20;gate0 1 1;gate0 1 1;gate0 1 1;gate0 1 1;flow0;flow1;flow2;"
                + "flow3;flow4;flow5;fee99;" + "packet0 0 1;".repeat(22) + "packet1 0 1;".repeat(18) + "coupon0 1 1;coupon0 5 2;"
                + "coupon1 9 3;coupon1 8 9;");
        for (int i = 0; i < 26; i++) {
            toll.grant(5, 9, i == 0 ? 9999 : 4);
        }
        dueState(toll, 0, 6, 6, 40, 30, 0, 0, 0, 0, 99);
        // of 22 packets 20 find room and 20 tokens; of 18 one finds a token and 17 pay with two coupons
        due("delivered", toll.pass(1), 38);
        dueState(toll, 1, 6, 6, 40, 28, 38, 2, 0, 17, 99);
        toll.pass(9);
        dueState(toll, 10, 6, 6, 40, 1, 38, 2, 27, 17, 99);
    }

    private static void sumsOfAFlow() {
        says("Promise 7", "3 the number of its coupons, 4 the sum of the values of its coupons, 5 the sum of the sizes of its "
                + "packets that were delivered");
        PacketToll none = Checks.tollWith("toll;gate 1 1 1;flow 0;flow 0;coupon 1 5 5;");
        int[] want = {1, 0, 0, 0, 0, 0};
        for (int what = 0; what <= 5; what++) {
            due("flow(0, " + what + ") without packets and coupons", none.flow(0, what), want[what]);
        }
        PacketToll all = Checks.tollWith("toll;gate 99 999 20;flow 0;" + "coupon0 9999 9;".repeat(30));
        due("30 coupons", all.flow(0, 3), 30);
        due("their values", all.flow(0, 4), 299970);
        for (int i = 0; i < 40; i++) {
            all.send(0, 999);
            if (i % 20 == 19) {
                all.pass(1);
            }
        }
        due("40 packets of 999", all.flow(0, 5), 39960);
        PacketToll dropped = Checks.tollAt(1, "toll;gate 0 9 1;flow 0;packet 0 0 9;packet 0 0 8;packet 0 5 7;");
        due("only what was delivered", dropped.flow(0, 5), 9);
    }

    private static void placesOfARoute() {
        says("Promise 8", "0 to the number of gates of its route - 1");
        PacketToll toll = Checks.tollWith(Worlds.SIX_GATES + "flow 5;flow 0 5;flow 1 3 2;flow 4 5 0 1;");
        int[][] routes = {{5}, {0, 5}, {1, 3, 2}, {4, 5, 0, 1}};
        for (int flow = 0; flow < 4; flow++) {
            int places = routes[flow].length;
            due("places of " + flow, toll.flow(flow, 0), places);
            for (int place = 0; place < places; place++) {
                due("route(" + flow + ", " + place + ")", toll.route(flow, place), routes[flow][place]);
            }
            int beyond = flow;
            Checks.dueThrow("route(" + flow + ", " + places + ")", java.util.NoSuchElementException.class,
                    () -> toll.route(beyond, places));
        }
    }

    private static void tokensOffTheRoute() {
        says("Promise 9", "Returns the tokens of the flow's bucket at the gate (it has one also if the gate is not in its "
                + "route).");
        PacketToll toll = Checks.tollAt(1, "toll;gate 0 9 9;gate 0 8 9;flow 0;flow 1;packet 0 0 9;packet 1 0 1;");
        due("tokens(0, 0)", toll.tokens(0, 0), 0);
        due("tokens(0, 1), off the route", toll.tokens(0, 1), 9);
        due("tokens(1, 0), off the route", toll.tokens(1, 0), 8);
        due("tokens(1, 1)", toll.tokens(1, 1), 7);
    }

    private static void queueFromNoneToItsRoom() {
        says("Promise 10", "Returns the number of packets in the queue of the flow at the gate.");
        PacketToll toll = Checks.tollWith("toll;gate 1 1 20;gate 1 1 1;flow 0;flow 1;" + "packet0 0 1;".repeat(21));
        due("none before they arrive", toll.queue(0, 0), 0);
        toll.pass(1);
        for (int left = 19; left >= 0; left--) {
            due("left", toll.queue(0, 0), left);
            due("off the route", toll.queue(1, 0), 0);
            due("of the other flow", toll.queue(0, 1), 0);
            toll.pass(1);
        }
        due("none behind the last one", toll.queue(0, 0), 0);
    }

    private static void packetThatIsNowhere() {
        says("Promise 11", "4 the gate at which it waits, or to which it is on its way (-1 otherwise), 5 the sum that it spent "
                + "of coupons, 6 the time at which it was delivered or dropped (-1 otherwise)");
        PacketToll toll = Checks.tollWith("toll;gate 0 5 1;gate 0 4 1;flow 1 0;packet 0 1 5;packet 0 1 5;coupon 0 1 9;");
        Checks.duePacket(toll, 0, 0, 1, 5, 0, -1, 0, -1);
        toll.pass(2);
        Checks.duePacket(toll, 0, 0, 1, 5, 2, 0, 1, -1);
        Checks.duePacket(toll, 1, 0, 1, 5, 4, -1, 0, 1);
        toll.pass(1);
        Checks.duePacket(toll, 0, 0, 1, 5, 3, -1, 1, 2);
        PacketToll first = Checks.tollAt(1, "toll;gate 0 5 1;flow 0;packet 0 0 5;packet 0 0 5;");
        due("delivered at 0", first.packet(0, 6), 0);
        due("dropped at 0", first.packet(1, 6), 0);
        PacketToll wait = Checks.tollAt(1, "toll;gate 0 4 1;flow 0;packet 0 0 5;");
        Checks.duePacket(wait, 0, 0, 0, 5, 1, 0, 0, -1);
    }

    private static void couponFromFirstToLast() {
        says("Promise 12", "0 its flow, 1 its value, 2 its end, 3 how often it was forwarded");
        PacketToll toll = Checks.tollWith("toll;gate1 1 1;flow0;flow0;flow0;fee0;coupon2 1 1;" + "coupon0 2 2;".repeat(28)
                + "coupon1 9999 9999;");
        Checks.dueCoupon(toll, 0, 2, 1, 1, 0);
        Checks.dueCoupon(toll, 29, 1, 9999, 9999, 0);
        toll.forward(29, 0);
        Checks.dueCoupon(toll, 29, 0, 9999, 9999, 1);
        toll.forward(29, 1);
        Checks.dueCoupon(toll, 29, 1, 9999, 9999, 2);
    }

    private static void loadWithoutPassages() {
        says("Promise 13", "`ticks`: 1 to 999");
        says("Promise 13", "Returns the load of the flow at the gate over this number of ticks; 0 without kept passages of it "
                + "there.");
        PacketToll toll = Checks.tollWith("toll;gate 9 99 9;gate 9 99 9;flow 0;flow 1;packet 0 3 7;packet 1 3 8;");
        toll.pass(3);
        due("no passage yet", toll.loadOver(0, 0, 999), 0);
        toll.pass(1);
        due("over 1", toll.loadOver(0, 0, 1), 7);
        due("over 999", toll.loadOver(0, 0, 999), 7);
        due("at another gate", toll.loadOver(1, 0, 999), 0);
        due("of another flow", toll.loadOver(0, 1, 999), 0);
        due("the other passage", toll.loadOver(1, 1, 1), 8);
        PacketToll next = Checks.tollAt(1, "toll;gate 9 99 9;flow 0;packet 0 0 7;");
        Checks.load(next, "toll;gate 9 99 9;flow 0;packet 0 0 7;");
        due("behind a load", next.loadOver(0, 0, 999), 0);
    }

    private static void curveFromOneTickOn() {
        says("Promise 14", "`ticks`: 1 to 999");
        says("Promise 14", "Returns the depth of the gate + its rate * ticks");
        PacketToll toll = Checks.tollWith("toll;gate 0 1 1;gate 99 999 20;gate 0 999 1;gate 99 1 1;gate 5 7 1;");
        int[][] rows = {{1, 1, 1, 1}, {1098, 1197, 99801, 99900}, {999, 999, 999, 999}, {100, 199, 98803, 98902},
            {12, 17, 4997, 5002}};
        int[] ticks = {1, 2, 998, 999};
        for (int gate = 0; gate < 5; gate++) {
            for (int i = 0; i < 4; i++) {
                due("curve(" + gate + ", " + ticks[i] + ")", toll.curve(gate, ticks[i]), rows[gate][i]);
            }
        }
    }

    private static void curveIsAboveEachLoad() {
        says("Promise 14", "what no load of a flow over this number of ticks is greater than.");
        PacketToll toll = Checks.tollAt(30, "toll;gate3 9 20;flow0;coupon0 20 99;" + "packet0 0 9;packet0 1 3;".repeat(9)
                + "packet0 2 6;packet0 9 5;");
        for (int ticks = 1; ticks <= 40; ticks++) {
            long load = toll.loadOver(0, 0, ticks);
            Checks.holds("load " + load + " over " + ticks, load <= toll.curve(0, ticks));
        }
        due("over 1 tick all tokens of the depth", toll.loadOver(0, 0, 1), 9);
    }

    private static void endsAtWithinFiveHundredTicks() {
        says("Promise 15", "Returns the time at which it is delivered or dropped, or was so; -1 if this does not happen within "
                + "500 ticks.");
        PacketToll toll = Checks.tollWith("toll;gate 1 9 1;gate 0 9 1;flow 0;flow 0 1;packet 0 0 9;packet 0 499 9;packet 0 500 1;"
                + "packet 1 498 9;packet 1 499 9;packet 1 600 1;");
        due("in the first tick", toll.endsAt(0), 0);
        due("in the last of 500", toll.endsAt(1), 499);
        due("in the next one", toll.endsAt(2), -1);
        due("at its second gate in the last of 500", toll.endsAt(3), 499);
        due("at its second gate, too late", toll.endsAt(4), -1);
        toll.pass(1);
        due("a tick later", toll.endsAt(2), 500);
        // its tokens are there at 499 and not at 500
        PacketToll tokens = Checks.tollWith("toll;gate 1 600 9;flow 0;flow 0;packet 0 0 600;packet 0 0 499;packet 1 0 600;"
                + "packet 1 0 500;");
        due("499 tokens", tokens.endsAt(1), 499);
        due("500 tokens", tokens.endsAt(3), -1);
        PacketToll drop = Checks.tollWith("toll;gate 0 1 1;flow 0;packet 0 0 9;packet 0 499 1;packet 0 500 1;");
        due("it waits for ever", drop.endsAt(0), -1);
        due("dropped in the last of 500", drop.endsAt(1), 499);
        due("dropped too late", drop.endsAt(2), -1);
        PacketToll thrift = Checks.tollAt(1, "toll;gate 0 1 9;flow 0 thrift 99;packet 0 0 1;packet 0 401 9;packet 0 402 9;"
                + "coupon 0 8 501;coupon 0 9 9999;");
        due("its thrift is over in the last of 500", thrift.endsAt(1), 500);
        due("its thrift is over too late", thrift.endsAt(2), -1);
    }

    private static void endsAtOfWhatWaits() {
        says("Promise 15", "Predicts a packet, if nothing but ticks pass");
        PacketToll thrift = Checks.tollAt(4, "toll;gate 0 4 9;flow 0 thrift 5;packet 0 2 5;coupon 0 9 99;");
        due("5 ticks behind 2", thrift.endsAt(0), 7);
        PacketToll queue = Checks.tollAt(1, "toll;gate 1 9 9;flow 0;packet 0 0 9;packet 0 0 2;packet 0 0 3;packet 0 0 4;"
                + "packet 0 5 1;");
        int[] want = {0, 2, 5, 9, 10};
        for (int packet = 4; packet >= 0; packet--) {
            due("endsAt(" + packet + ")", queue.endsAt(packet), want[packet]);
        }
        due("the bill behind all of them", queue.billAfter(0, 10), 19);
        for (int packet = 0; packet < 5; packet++) {
            Checks.passTo(queue, want[packet]);
            due("not before", queue.packet(packet, 6), packet == 0 ? 0 : -1);
            queue.pass(1);
            due("as predicted", queue.packet(packet, 6), want[packet]);
        }
    }

    private static void endsAtOfWhatHasEnded() {
        says("Promise 15", "Returns the time at which it is delivered or dropped, or was so");
        PacketToll toll = Checks.tollAt(9999, "toll;gate 1 9 1;flow 0;packet 0 0 9;packet 0 0 9;packet 0 700 9;");
        due("was delivered", toll.endsAt(0), 0);
        due("was dropped", toll.endsAt(1), 0);
        due("was delivered", toll.endsAt(2), 700);
    }

    private static void endsAtBeyondTheLastTime() {
        says("Promise 15", "Predicts a packet, if nothing but ticks pass (the time may exceed 9999 for this).");
        PacketToll toll = Checks.tollAt(9999, "toll;gate 1 999 9;flow 0;packet 0 900 999;");
        toll.send(0, 999);
        toll.send(0, 499);
        toll.send(0, 1);
        due("9999 itself", toll.endsAt(1), 9999);
        due("499 ticks later", toll.endsAt(2), 9999 + 499);
        due("500 ticks later", toll.endsAt(3), -1);
        due("the time stays", toll.state(0), 9999);
        toll.grant(0, 1, 1);
        due("a coupon of one tick", toll.endsAt(2), 9999 + 499);
        toll.grant(0, 499, 1);
        due("a greater one of one tick", toll.endsAt(2), 9999);
    }

    private static void billAfterNoneToFiveHundredTicks() {
        says("Promise 16", "`ticks`: 0 to 500");
        says("Promise 16", "Returns its bill after so many ticks.");
        PacketToll toll = Checks.tollAt(1, "toll;gate 9 9 9;gate 9 9 9;flow 0 1;flow 1;packet 0 0 2;packet 0 500 3;packet 1 500 4;"
                + "price size*10;");
        due("behind none", toll.billAfter(0, 0), 20);
        due("behind one", toll.billAfter(0, 1), 40);
        due("behind 499", toll.billAfter(0, 499), 40);
        due("behind 500", toll.billAfter(0, 500), 70);
        due("the other flow, behind 499", toll.billAfter(1, 499), 0);
        due("the other flow, behind 500", toll.billAfter(1, 500), 40);
        due("the bill stays", toll.flow(0, 2), 20);
        due("a flow without packets", Checks.tollWith(Worlds.ONE_FLOW).billAfter(0, 500), 0);
    }

    private static void billAfterBeyondTheLastTime() {
        says("Promise 16", "Predicts a flow, if nothing but ticks pass (the time may exceed 9999 for this).");
        PacketToll toll = Checks.tollAt(9999, "toll;gate 1 999 9;flow 0;packet 0 900 999;");
        toll.send(0, 999);
        toll.send(0, 499);
        due("behind none", toll.billAfter(0, 0), 999);
        due("behind one", toll.billAfter(0, 1), 1998);
        due("behind 499", toll.billAfter(0, 499), 1998);
        due("behind 500", toll.billAfter(0, 500), 2497);
        due("the time stays", toll.state(0), 9999);
    }

    private static void smallestHelp() {
        says("Promise 17", "the smallest value (1 to 999) of one more coupon of the packet's flow");
        PacketToll toll = Checks.tollWith("toll;gate 0 1 9;flow 0;flow 0;flow 0;packet 0 0 2;packet 1 0 1;packet 1 0 999;"
                + "packet 2 0 1;packet 2 0 1;packet 2 0 999;coupon 2 1 300;packet 1 0 1;");
        due("1", toll.help(0), 1);
        due("999", toll.help(2), 999);
        due("1000, of which 1 is there", toll.help(5), 999);
        due("1000", toll.help(6), -1);
        toll.grant(1, 1, 9);
        due("1000, of which 1 is there now", toll.help(6), 999);
        toll.grant(1, 999, 9);
        due("nothing is missing", toll.help(6), -1);
    }

    private static void helpThatIsEarlier() {
        says("Promise 17", "for which endsAt(packet) would be smaller than it is without it (and not -1)");
        PacketToll toll = Checks.tollWith("toll;gate 1 10 9;flow 0;packet 0 0 10;packet 0 0 10;packet 0 0 10;");
        due("it passes at once", toll.help(0), -1);
        due("without: at 10", toll.endsAt(1), 10);
        due("with 1: at 9", toll.help(1), 1);
        due("the one behind it passes at 19 then", toll.help(2), 1);
        PacketToll fast = Checks.tollWith("toll;gate 5 10 9;flow 0 thrift 1;packet 0 0 10;packet 0 0 10;packet 0 0 10;");
        due("without: at 2", fast.endsAt(1), 2);
        due("with 5: at 1", fast.help(1), 5);
        due("with 4 at 1", earlier(fast, 4), 2);
        due("with 5 at 1", earlier(fast, 5), 1);
        due("9999 ticks later it is there still", fast.coupon(0, 2), 9999);
    }

    private static int earlier(PacketToll toll, int value) {
        if (toll.state(4) > 0) {
            toll.undo();
        }
        toll.grant(0, value, 9999);
        return toll.endsAt(1);
    }

    private static void helpWhereItNeverEnds() {
        says("Promise 17", "or would not be -1 while it is -1 without it.");
        PacketToll toll = Checks.tollWith("toll;gate 0 10 9;flow 0;packet 0 499 20;packet 0 500 20;packet 0 0 3;");
        due("in the last of 500 ticks", toll.help(0), 10 + 3);
        due("not within 500 ticks", toll.help(1), -1);
        due("it ends anyway", toll.help(2), -1);
        // 500 tokens are there too late, 499 are not
        PacketToll tokens = Checks.tollWith("toll;gate 1 600 9;flow 0;packet 0 0 600;packet 0 0 500;packet 0 0 2;");
        due("without", tokens.endsAt(1), -1);
        due("with 1", tokens.help(1), 1);
        due("the one behind it: with 3 at 499", tokens.help(2), 3);
        PacketToll ended = Checks.tollAt(1, "toll;gate 0 10 1;flow 0;packet 0 0 10;packet 0 0 20;");
        due("it was delivered", ended.help(0), -1);
        due("it was dropped", ended.help(1), -1);
    }

    private static void helpIsSpentLast() {
        says("Promise 17", "granted now with an end that is 9999 ticks later");
        // the coupon that ends at 3 is spent at 0, so that the other one is still there at 4
        PacketToll toll = Checks.tollWith("toll;gate 0 1 9;flow 0;packet 0 0 6;packet 0 4 5;coupon 0 5 3;");
        due("without", toll.endsAt(1), -1);
        due("with", toll.help(1), 5);
        PacketToll late = Checks.tollAt(9999, "toll;gate 0 1 9;flow 0;");
        late.send(0, 6);
        late.send(0, 7);
        late.grant(0, 5, 9998);
        due("nothing is missing", late.help(0), -1);
        due("beyond 9999", late.help(1), 7);
    }

    private static void helpIsSpentBehindOneWithItsEnd() {
        says("Coupons", "(of several the one with the smallest index)");
        // packet 1 spends the coupon that was granted, so that its refund finds a place beside the one that helps
        PacketToll toll = Checks.tollWith("toll;gate0 900 9;gate0 1 1;flow0 1;flow0;packet0 0 900;packet0 1 30;packet0 3 70;"
                + "refund100 10;" + "coupon1 1 99;".repeat(28));
        due("granted", toll.grant(0, 30, 9999), 28);
        due("30 of a refund are not enough", toll.endsAt(2), -1);
        due("40 of 70", toll.help(2), 40);
        toll.grant(0, 40, 9999);
        due("dropped at gate 1 with them", toll.endsAt(2), 4);
    }

    private static void helpToBeDroppedEarlier() {
        says("Promise 17", "for which endsAt(packet) would be smaller than it is without it (and not -1)");
        // packet 0 fills the room of gate 1; the sooner packet 1 passes gate 0, the sooner it is dropped there
        PacketToll toll = Checks.tollWith("toll;gate 1 9 9;gate 0 1 1;flow 0 1;packet 0 0 9;packet 0 0 9;");
        due("dropped at", toll.endsAt(1), 10);
        due("with 1 dropped at 9", toll.help(1), 1);
    }

    private static void helpWithThirtyCoupons() {
        says("Promise 17", "Returns this value; -1 if there is none, or if there are 30 coupons.");
        PacketToll toll = Checks.tollWith("toll;gate0 1 9;flow0;flow0;packet0 0 9;" + "coupon1 1 9;".repeat(28));
        due("with 28", toll.help(0), 8);
        toll.grant(1, 1, 9);
        due("with 29", toll.help(0), 8);
        toll.grant(1, 1, 9);
        due("with 30", toll.help(0), -1);
        toll.pass(10);
        due("with none, as all have expired", toll.help(0), 8);
    }

    private static void checksumOfNothing() {
        says("Promise 24", "It starts at 0");
        due("without anything only the fee counts", new PacketToll().checksum(), 1);
        due("without a fee", Checks.tollWith("toll;fee 0;").checksum(), 0);
        PacketToll toll = new PacketToll();
        toll.pass(1);
        long nine = 1;
        for (int i = 0; i < 9; i++) {
            nine *= 31;
        }
        due("the time is the first number", toll.checksum(), nine + 1);
    }

    /** All numbers that the checksum is made of, in their order, read from objects with this setup at this time. */
    private static List<Integer> numbers(int time, String text) {
        PacketToll a = Checks.tollAt(time, text);
        List<Integer> all = new ArrayList<>();
        for (int what = 0; what <= 9; what++) {
            all.add(a.state(what));
        }
        int slots = all.get(1) * all.get(2);
        int flows = all.get(2);
        int packets = all.get(3);
        int coupons = all.get(4);
        for (int i = 0; i < 6 * flows; i++) {
            all.add(a.flow(i / 6, i % 6));
        }
        for (int i = 0; i < 7 * packets; i++) {
            all.add(a.packet(i / 7, i % 7));
        }
        // another object for the rest, since nothing is promised of one behind 512 calls
        PacketToll b = Checks.tollAt(time, text);
        for (int i = 0; i < 4 * coupons; i++) {
            all.add(b.coupon(i / 4, i % 4));
        }
        for (int i = 0; i < slots; i++) {
            all.add(b.tokens(i / flows, i % flows));
            all.add(b.queue(i / flows, i % flows));
        }
        return all;
    }

    private static BigInteger unwrapped(List<Integer> numbers) {
        BigInteger sum = BigInteger.ZERO;
        for (int n : numbers) {
            sum = sum.multiply(BigInteger.valueOf(31)).add(BigInteger.valueOf(n));
        }
        return sum;
    }

    private static void checksumInItsOrder() {
        says("Promise 24", "state(0) to state(9); for each flow what flow(int, int) tells of it for 0 to 5; for each packet what "
                + "packet(int, int) tells for 0 to 6; for each coupon what coupon(int, int) tells for 0 to 3; then, for each "
                + "gate and each flow, tokens and queue.");
        String[] texts = {"toll;", "toll;gate 3 4 5;", "toll;gate 3 4 5;flow 0;", "toll;gate 3 4 5;flow 0;packet 0 0 9;",
            "toll;gate 3 4 5;flow 0;coupon 0 3 9;", "toll;gate 1 2 1;gate 2 9 1;flow 1 0;flow 0;packet 0 0 3;packet 1 0 9;"};
        for (String text : texts) {
            for (int time = 0; time <= 2; time++) {
                due("checksum of " + text + " at " + time, Checks.tollAt(time, text).checksum(),
                        unwrapped(numbers(time, text)).longValue());
            }
        }
    }

    private static void checksumWrapsAround() {
        says("Promise 24", "each number n in the following order replaces it by 31 * checksum + n, wrapping around on overflow of "
                + "a long");
        String text = "toll;" + "gate1 9 9;".repeat(6) + "flow0;flow1;flow2;flow3;flow4;flow5;"
                + "packet0 0 1;packet3 5 9;".repeat(14) + "coupon2 9 9;".repeat(20);
        for (int time : new int[] {0, 3}) {
            BigInteger whole = unwrapped(numbers(time, text));
            Checks.holds("it is beyond a long", whole.bitLength() > 64);
            due("checksum at " + time, Checks.tollAt(time, text).checksum(), whole.longValue());
        }
    }
}

import java.util.List;
import java.util.function.ToLongFunction;

/**
 * Each sentence of the document that names a boundary of a change or of undo, in a test of its own: promises 18 to 23 and
 * the term changes. What these calls throw is in ThrowBoundariesTest.
 */
public final class ChangeBoundariesTest {
    private static final String USED = "toll;gate 3 10 2;gate 4 7 1;flow 0 1 thrift 2;flow 1;flow 0;packet 0 0 8;packet 0 1 9;"
            + "packet 1 2 20;packet 0 9 3;coupon 0 5 30;coupon 1 40 20;fee 2;refund 40 9;";

    public static void main(String[] args) {
        passOfOneToTwoHundredTicks();
        forwardByTheFee();
        forwardToItsOwnFlow();
        forwardAThirdTime();
        forwardOfNoMoreThanTheFee();
        refusedForwardLeavesTheAnswers();
        grantFromOneToTheMost();
        grantedCouponEnds();
        grantUpToThirty();
        sendFromOneToTheMost();
        sentPacketArrives();
        sendUpToForty();
        setThriftFromNoneToTheMost();
        setThriftCountsForWaitingPackets();
        changesThatLeaveAllData();
        callsThatAreNoChanges();
        eachChangeIsUndone();
        eightChanges();
        ninthChangeMakesTheFirstFinal();
        undoneChangesDoNotCount();
        finalStaysFinal();
        nothingToUndo();
        newThingsWhereUndoneOnesWere();
        queueBehindUndo();
        passagesBehindUndo();
        undoLeavesBufferAndOffset();
        undoOfTheFirstLoad();
        Checks.end("ChangeBoundariesTest");
    }

    private static void says(String where, String words) {
        Checks.says(where, words);
    }

    private static void due(String what, long got, long want) {
        Checks.due(what, got, want);
    }

    private static void passOfOneToTwoHundredTicks() {
        says("Promise 18", "1 to 200");
        PacketToll toll = Checks.tollWith("toll;gate 1 9 9;flow 0;packet 0 0 1;packet 0 1 1;packet 0 200 1;packet 0 201 1;");
        due("pass(1)", toll.pass(1), 1);
        due("time", toll.state(0), 1);
        due("pass(200)", toll.pass(200), 2);
        due("time", toll.state(0), 201);
    }

    private static void forwardByTheFee() {
        says("Promise 19", "Forwards a coupon to another flow: its value becomes smaller by the fee.");
        String text = "toll;gate 0 1 1;flow 0;flow 0;coupon 0 9 5;coupon 0 9999 7;coupon 1 9 6;";
        for (int fee : new int[] {0, 1, 99}) {
            PacketToll toll = Checks.tollWith(text + "fee " + fee + ";");
            due("forward with the fee " + fee, toll.forward(1, 1), 9999 - fee);
            Checks.dueCoupon(toll, 1, 1, 9999 - fee, 7, 1);
            due("it keeps its place", toll.state(4), 3);
            due("the fee is not spent", toll.state(8), 0);
            due("nor billed", toll.flow(0, 2) + toll.flow(1, 2), 0);
        }
        due("without a fee statement", Checks.tollWith(text).forward(1, 1), 9998);
    }

    private static void forwardToItsOwnFlow() {
        says("Promise 19", "This is refused if it belongs to this flow already");
        PacketToll toll = Checks.tollWith("toll;gate 0 1 1;flow 0;flow 0;coupon 0 9 5;");
        due("to its own flow", toll.forward(0, 0), -1);
        Checks.dueCoupon(toll, 0, 0, 9, 5, 0);
        due("to the other one", toll.forward(0, 1), 8);
        due("to its own flow then", toll.forward(0, 1), -1);
        Checks.dueCoupon(toll, 0, 1, 8, 5, 1);
        due("back", toll.forward(0, 0), 7);
    }

    private static void forwardAThirdTime() {
        says("Promise 19", "if it was forwarded 2 times");
        PacketToll toll = Checks.tollWith("toll;gate 0 1 1;flow 0;flow 0;flow 0;coupon 0 99 5;coupon 0 99 5;");
        due("once", toll.forward(0, 1), 98);
        due("twice", toll.forward(0, 2), 97);
        due("a third time", toll.forward(0, 0), -1);
        due("to another flow", toll.forward(0, 1), -1);
        Checks.dueCoupon(toll, 0, 2, 97, 5, 2);
        due("another coupon", toll.forward(1, 2), 98);
        due("refusals do not count as forwarded", toll.forward(1, 2), -1);
        due("twice", toll.forward(1, 0), 97);
    }

    private static void forwardOfNoMoreThanTheFee() {
        says("Promise 19", "or if its value is not greater than the fee.");
        int[][] rows = {{0, 1, 1}, {0, 2, 2}, {1, 1, -1}, {1, 2, 1}, {99, 98, -1}, {99, 99, -1}, {99, 100, 1}, {99, 9999, 9900}};
        for (int[] row : rows) {
            PacketToll toll = Checks.tollWith("toll;gate 0 1 1;flow 0;flow 0;fee " + row[0] + ";coupon 0 " + row[1] + " 5;");
            due("forward of " + row[1] + " with the fee " + row[0], toll.forward(0, 1), row[2]);
            boolean refused = row[2] < 0;
            Checks.dueCoupon(toll, 0, refused ? 0 : 1, refused ? row[1] : row[2], 5, refused ? 0 : 1);
        }
    }

    private static void refusedForwardLeavesTheAnswers() {
        says("Promise 19", "Returns its value then; -1 if this is refused (nothing is done then).");
        String text = USED + "coupon 0 2 50;coupon 2 90 50;";
        ToLongFunction<PacketToll> own = t -> t.forward(0, 0);
        ToLongFunction<PacketToll> poor = t -> t.forward(2, 1);
        ToLongFunction<PacketToll> third = t -> t.forward(3, 1);
        for (ToLongFunction<PacketToll> call : List.of(own, poor, third)) {
            PacketToll tried = Checks.tollAt(1, text);
            tried.forward(3, 0);
            tried.forward(3, 2);
            List<String> before = Answers.of(tried);
            due("refused", call.applyAsLong(tried), -1);
            Answers.dueSame("behind the refused call", Answers.of(tried), before);
            due("it is a change", tried.undo(), 4);
            Answers.dueSame("behind its undo", Answers.of(tried), before);
        }
    }

    private static void grantFromOneToTheMost() {
        says("Promise 20", "`value`: 1 to 9999");
        says("Promise 20", "1 to 9999: it ends at the time + this number");
        PacketToll toll = Checks.tollWith(Worlds.ONE_FLOW);
        due("the smallest", toll.grant(0, 1, 1), 0);
        Checks.dueCoupon(toll, 0, 0, 1, 1, 0);
        due("the greatest", toll.grant(0, 9999, 9999), 1);
        Checks.dueCoupon(toll, 1, 0, 9999, 9999, 0);
        PacketToll late = Checks.tollAt(9999, Worlds.ONE_FLOW);
        due("at the last time", late.grant(0, 9999, 9999), 0);
        Checks.dueCoupon(late, 0, 0, 9999, 19998, 0);
        due("at the last time", late.grant(0, 1, 1), 1);
        Checks.dueCoupon(late, 1, 0, 1, 10000, 0);
    }

    private static void grantedCouponEnds() {
        says("Promise 20", "it ends at the time + this number");
        PacketToll toll = Checks.tollAt(5, "toll;gate 0 1 9;flow 0;packet 0 0 1;");
        toll.grant(0, 4, 1);
        toll.send(0, 3);
        due("it can be spent in the next tick", toll.pass(1), 1);
        due("the rest", toll.coupon(0, 1), 1);
        toll.send(0, 1);
        due("not in the one behind it", toll.pass(1), 0);
        due("it has expired", toll.state(7), 1);
        PacketToll long1 = Checks.tollAt(1, Worlds.ONE_FLOW);
        long1.grant(0, 1, 9998);
        Checks.passTo(long1, 9999);
        due("its end is 9999", long1.state(4), 1);
    }

    private static void grantUpToThirty() {
        says("Promise 20", "Grants a coupon, behind the others.");
        PacketToll toll = Checks.tollWith(Worlds.ONE_FLOW + "coupon 0 50 60;");
        for (int i = 1; i < 30; i++) {
            due("its index", toll.grant(0, i, 60 + i), i);
            Checks.dueCoupon(toll, i, 0, i, 60 + i, 0);
        }
        due("coupons", toll.state(4), 30);
        Checks.dueThrow("one more", IllegalStateException.class, () -> toll.grant(0, 1, 1));
    }

    private static void sendFromOneToTheMost() {
        says("Promise 21", "`size`: 1 to 999");
        says("Promise 21", "Sends a packet, behind the others; its start is the time (it arrives in the next tick that passes).");
        PacketToll toll = Checks.tollWith("toll;gate 0 999 9;flow 0;flow 0;packet 0 5 7;");
        due("the smallest", toll.send(1, 1), 1);
        Checks.duePacket(toll, 1, 1, 0, 1, 0, -1, 0, -1);
        due("the greatest", toll.send(0, 999), 2);
        Checks.duePacket(toll, 2, 0, 0, 999, 0, -1, 0, -1);
        due("both pass", toll.pass(1), 2);
        PacketToll late = Checks.tollAt(9999, "toll;gate 0 999 9;flow 0;");
        due("at the last time", late.send(0, 999), 0);
        Checks.duePacket(late, 0, 0, 9999, 999, 0, -1, 0, -1);
    }

    private static void sentPacketArrives() {
        says("Promise 21", "its start is the time (it arrives in the next tick that passes).");
        PacketToll toll = Checks.tollAt(1500, "toll;gate 0 9 1;flow 0;packet 0 999 1;");
        toll.send(0, 9);
        toll.send(0, 1);
        due("not before a tick passes", toll.packet(1, 3), 0);
        toll.pass(1);
        Checks.duePacket(toll, 1, 0, 1500, 9, 1, 0, 0, -1);
        Checks.duePacket(toll, 2, 0, 1500, 1, 4, -1, 0, 1500);
    }

    private static void sendUpToForty() {
        says("Promise 21", "Returns its index.");
        PacketToll toll = Checks.tollWith("toll;gate 0 1 9;flow 0;packet 0 0 1;");
        for (int i = 1; i < 40; i++) {
            due("its index", toll.send(0, i), i);
            due("its size", toll.packet(i, 2), i);
        }
        due("packets", toll.state(3), 40);
        Checks.dueThrow("one more", IllegalStateException.class, () -> toll.send(0, 1));
    }

    private static void setThriftFromNoneToTheMost() {
        says("Promise 22", "`thrift`: 0 to 99");
        says("Promise 22", "Returns the previous one.");
        PacketToll toll = Checks.tollWith("toll;gate 0 1 9;flow 0;flow 0 thrift 98;");
        due("of no statement", toll.setThrift(0, 99), 0);
        due("the greatest", toll.flow(0, 1), 99);
        due("again", toll.setThrift(0, 99), 99);
        due("the smallest", toll.setThrift(0, 0), 99);
        due("it is", toll.flow(0, 1), 0);
        due("of another flow", toll.setThrift(1, 1), 98);
    }

    private static void setThriftCountsForWaitingPackets() {
        says("Promise 22", "Sets the thrift of a flow.");
        PacketToll toll = Checks.tollAt(5, "toll;gate 0 1 9;flow 0 thrift 99;packet 0 0 9;coupon 0 9 99;");
        toll.setThrift(0, 6);
        due("it waits since 5 ticks", toll.pass(1), 0);
        toll.setThrift(0, 7);
        due("6 are not 7", toll.pass(1), 0);
        due("7 are", toll.pass(1), 1);
    }

    private static void changesThatLeaveAllData() {
        says("Changes", "each such call that does not throw an exception is a change, also if all data stay as they were.");
        PacketToll toll = Checks.tollWith(USED);
        long before = toll.checksum();
        due("the same text", Checks.load(toll, USED), 4);
        due("the same thrift", toll.setThrift(0, 2), 2);
        due("a refused forward", toll.forward(0, 0), -1);
        due("the data stay", toll.checksum(), before);
        for (int left = 3; left >= 1; left--) {
            due("undo", toll.undo(), left);
            due("the data stay", toll.checksum(), before);
        }
        due("undo of the first load", toll.undo(), 0);
        PacketToll empty = new PacketToll();
        due("pass without anything", empty.pass(1), 0);
        due("a setup without anything", Checks.load(empty, "toll;"), 0);
        due("undo", empty.undo(), 1);
        due("undo", empty.undo(), 0);
    }

    private static void callsThatAreNoChanges() {
        says("Changes", "The changing methods are load (when it succeeds), pass, forward, grant, send and setThrift");
        PacketToll toll = Checks.tollAt(2, USED);
        Answers.of(toll);
        toll.errorOffset();
        due("load of an error", Checks.load(toll, "toll"), PacketToll.SYNTAX_ERROR);
        due("append", Checks.append(toll, "toll;", 0), 20);
        Checks.dueThrow("pass(0)", IllegalArgumentException.class, () -> toll.pass(0));
        due("the latest change is the pass", toll.undo(), 1);
        due("the time", toll.state(0), 0);
        due("undo is no change itself", toll.undo(), 0);
        due("and none before the load", toll.undo(), -1);
    }

    private static void eachChangeIsUndone() {
        says("Promise 23", "Undoes the latest change that is not final and has not been undone.");
        List<ToLongFunction<PacketToll>> changes = List.of(t -> t.pass(3), t -> t.forward(0, 1), t -> t.grant(2, 9, 9),
                t -> t.send(0, 9), t -> t.setThrift(0, 0), t -> Checks.load(t, "toll;gate 1 1 1;flow 0;price 3;refund 1 1;"),
                t -> t.pass(200));
        for (ToLongFunction<PacketToll> change : changes) {
            PacketToll toll = Checks.tollAt(1, USED);
            List<String> before = Answers.of(toll);
            change.applyAsLong(toll);
            Checks.holds("the change shows", !Answers.of(toll).equals(before));
            due("undo", toll.undo(), 2);
            Answers.dueSame("behind undo", Answers.of(toll), before);
            // the future is the same one, too: price, refund and queues are back
            PacketToll other = Checks.tollAt(1, USED);
            Checks.passTo(toll, 14);
            Checks.passTo(other, 14);
            Answers.dueSame("13 ticks behind undo", Answers.of(toll), Answers.of(other));
        }
    }

    /** Each change shows in the thrift of flow 0: change n makes it n. */
    private static void change(PacketToll toll, int from, int to) {
        for (int n = from; n <= to; n++) {
            toll.setThrift(0, n);
        }
    }

    private static void dueUndo(PacketToll toll, int left, int thrift) {
        due("undo", toll.undo(), left);
        due("thrift behind undo", toll.flow(0, 1), thrift);
    }

    private static void eightChanges() {
        says("Changes", "The latest 8 changes can be undone, the latest one first");
        PacketToll toll = Checks.tollWith("toll;gate 1 1 1;flow 0;");
        change(toll, 1, 7);
        for (int left = 7; left >= 1; left--) {
            dueUndo(toll, left, left - 1);
        }
        due("the load is the first of 8", toll.undo(), 0);
        due("no gates", toll.state(1), 0);
        due("nothing more", toll.undo(), -1);
        PacketToll most = Checks.tollWith("toll;gate 1 1 1;flow 0;");
        change(most, 1, 50);
        for (int left = 7; left >= 0; left--) {
            dueUndo(most, left, 42 + left);
        }
        dueUndo(most, -1, 42);
    }

    private static void ninthChangeMakesTheFirstFinal() {
        says("Changes", "a change is final as soon as 8 later ones, none of them undone, have been made.");
        PacketToll toll = Checks.tollWith("toll;gate 1 1 1;flow 0;");
        change(toll, 1, 8);
        for (int left = 7; left >= 0; left--) {
            dueUndo(toll, left, left);
        }
        dueUndo(toll, -1, 0);
        due("the load is final", toll.state(1), 1);
    }

    private static void undoneChangesDoNotCount() {
        says("Changes", "8 later ones, none of them undone");
        PacketToll toll = Checks.tollWith("toll;gate 1 1 1;flow 0;");
        change(toll, 1, 7);
        dueUndo(toll, 7, 6);
        change(toll, 20, 20);
        // seven later ones are not undone, so the load is not final
        due("undo of 20", toll.undo(), 7);
        due("thrift", toll.flow(0, 1), 6);
        for (int left = 6; left >= 1; left--) {
            dueUndo(toll, left, left - 1);
        }
        due("undo of the load", toll.undo(), 0);
        PacketToll many = Checks.tollWith("toll;gate 1 1 1;flow 0;");
        for (int i = 1; i <= 30; i++) {
            change(many, i, i);
            dueUndo(many, 1, 0);
        }
        due("the load is not final behind 30 undone changes", many.undo(), 0);
        due("no gates", many.state(1), 0);
    }

    private static void finalStaysFinal() {
        says("Changes", "a change is final as soon as 8 later ones, none of them undone, have been made.");
        PacketToll toll = Checks.tollWith("toll;gate 1 1 1;flow 0;");
        change(toll, 1, 9);
        dueUndo(toll, 7, 8);
        dueUndo(toll, 6, 7);
        change(toll, 30, 30);
        // change 1 was made final by change 9 and stays so, though 9 was undone
        dueUndo(toll, 6, 7);
        for (int left = 5; left >= 0; left--) {
            dueUndo(toll, left, left + 1);
        }
        dueUndo(toll, -1, 1);
        change(toll, 40, 47);
        for (int left = 7; left >= 1; left--) {
            dueUndo(toll, left, 39 + left);
        }
        dueUndo(toll, 0, 1);
        dueUndo(toll, -1, 1);
    }

    private static void nothingToUndo() {
        says("Promise 23", "Returns the number of changes that can still be undone; -1 if there was none to undo, and nothing "
                + "changes then.");
        PacketToll fresh = new PacketToll();
        due("a new object", fresh.undo(), -1);
        due("again", fresh.undo(), -1);
        due("nothing changes", fresh.checksum(), 1);
        PacketToll toll = Checks.tollWith(USED);
        for (int i = 0; i < 8; i++) {
            toll.pass(1);
        }
        PacketToll other = Checks.tollWith(USED);
        for (int left = 7; left >= 0; left--) {
            due("undo", toll.undo(), left);
        }
        due("none is left", toll.undo(), -1);
        due("none is left", toll.undo(), -1);
        Answers.dueSame("behind it", Answers.of(toll), Answers.of(other));
        toll.pass(3);
        due("a later change can be undone", toll.undo(), 0);
        Answers.dueSame("behind that", Answers.of(toll), Answers.of(other));
    }

    private static void newThingsWhereUndoneOnesWere() {
        says("Coupons", "the number of times that it was forwarded (0 at first).");
        PacketToll toll = Checks.tollWith("toll;gate 0 4 9;gate 0 9 9;flow 0 1;flow 0;fee 0;coupon 0 9 1;");
        toll.forward(0, 1);
        toll.forward(0, 0);
        toll.pass(2);
        due("that one has expired", toll.state(4), 0);
        due("the next one", toll.grant(0, 9, 9), 0);
        Checks.dueCoupon(toll, 0, 0, 9, 11, 0);
        toll.forward(0, 1);
        toll.undo();
        toll.undo();
        due("another one behind undo", toll.grant(1, 8, 8), 0);
        Checks.dueCoupon(toll, 0, 1, 8, 10, 0);
        says("Promise 21", "Sends a packet, behind the others");
        toll.grant(0, 1, 99);
        toll.send(0, 5);
        toll.pass(3);
        Checks.duePacket(toll, 0, 0, 2, 5, 3, -1, 1, 3);
        toll.undo();
        toll.undo();
        due("another one behind undo", toll.send(1, 3), 0);
        Checks.duePacket(toll, 0, 1, 2, 3, 0, -1, 0, -1);
        toll.undo();
        due("a third one", toll.send(0, 4), 0);
        toll.pass(1);
        Checks.duePacket(toll, 0, 0, 2, 4, 2, 1, 0, -1);
    }

    private static void queueBehindUndo() {
        says("A tick", "A packet that arrives joins the queue of its flow at the gate, behind the others");
        PacketToll toll = Checks.tollAt(1, "toll;gate 1 9 9;flow 0;packet 0 0 9;packet 0 0 3;packet 0 0 3;packet 0 1 3;");
        toll.send(0, 2);
        toll.pass(1);
        due("four wait", toll.queue(0, 0), 4);
        toll.undo();
        toll.undo();
        due("two wait", toll.queue(0, 0), 2);
        toll.send(0, 1);
        toll.pass(1);
        due("four wait again", toll.queue(0, 0), 4);
        int[] want = {0, 3, 6, 9, 10};
        for (int packet = 0; packet < 5; packet++) {
            due("endsAt(" + packet + ")", toll.endsAt(packet), want[packet]);
        }
        toll.pass(9);
        for (int packet = 0; packet < 5; packet++) {
            due("it ended at", toll.packet(packet, 6), want[packet]);
        }
    }

    /** Behind more than 40 passages, some of them paid with coupons. */
    private static PacketToll manyPassages() {
        PacketToll toll = Checks.tollAt(2, "toll;gate0 60 20;gate9 90 20;flow0 1;flow1;coupon0 50 99;"
                + "packet0 0 5;packet0 0 3;".repeat(9) + "packet0 1 5;".repeat(4) + "packet1 1 2;".repeat(4));
        toll.pass(1);
        return toll;
    }

    private static void passagesBehindUndo() {
        says("Curves", "The latest 40 passages (of all flows at all gates) are kept");
        PacketToll tried = manyPassages();
        for (int i = 0; i < 3; i++) {
            tried.send(1, 9);
            tried.pass(2);
        }
        for (int i = 0; i < 6; i++) {
            tried.undo();
        }
        PacketToll other = manyPassages();
        dueSameLoads(tried, other);
        for (int i = 0; i < 8; i++) {
            tried.send(1, i + 1);
            other.send(1, i + 1);
            tried.pass(1);
            other.pass(1);
            dueSameLoads(tried, other);
        }
    }

    private static void dueSameLoads(PacketToll tried, PacketToll other) {
        for (int gate = 0; gate < 2; gate++) {
            for (int flow = 0; flow < 2; flow++) {
                for (int ticks = 1; ticks <= 3; ticks++) {
                    due("loadOver(" + gate + ", " + flow + ", " + ticks + ") at " + tried.state(0),
                            tried.loadOver(gate, flow, ticks), other.loadOver(gate, flow, ticks));
                }
            }
        }
    }

    private static void undoLeavesBufferAndOffset() {
        says("Promise 23", "The input buffer and the error offset are not affected.");
        PacketToll toll = Checks.tollAt(2, USED);
        Checks.load(toll, "toll;fee 3;!");
        Checks.put(toll, "toll;fee 7;");
        due("undo", toll.undo(), 1);
        due("the error offset", toll.errorOffset(), 11);
        due("undo", toll.undo(), 0);
        due("undo", toll.undo(), -1);
        due("the error offset", toll.errorOffset(), 11);
        due("the buffer", Checks.append(toll, "fee 8;", 0), 40);
        due("its text", toll.load(20), 0);
        due("the fee", toll.state(9), 7);
        due("the error offset behind a right text", toll.errorOffset(), -1);
        due("undo", toll.undo(), 0);
        due("the error offset stays", toll.errorOffset(), -1);
        due("the buffer stays empty", Checks.append(toll, "toll;", 0), 20);
    }

    private static void undoOfTheFirstLoad() {
        says("Changes", "Before the first successful load there are no gates, flows, packets and coupons");
        PacketToll toll = new PacketToll();
        toll.pass(7);
        Checks.load(toll, USED);
        toll.pass(3);
        due("undo", toll.undo(), 2);
        due("undo of the load", toll.undo(), 1);
        for (int what = 0; what <= 9; what++) {
            due("state(" + what + ")", toll.state(what), what == 0 ? 7 : what == 9 ? 1 : 0);
        }
        Checks.dueThrow("gate(0, 0)", IndexOutOfBoundsException.class, () -> toll.gate(0, 0));
        Checks.dueThrow("coupon(0, 0)", IndexOutOfBoundsException.class, () -> toll.coupon(0, 0));
        Checks.load(toll, USED);
        due("loaded again", toll.state(3), 4);
        Answers.dueSame("as a new object answers", Answers.of(toll), Answers.of(Checks.tollWith(USED)));
    }
}

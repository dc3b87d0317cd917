import java.util.NoSuchElementException;

/** Promise by promise: ordinary inputs, the edges that the document names, and wrong inputs. */
public final class PromisesTest {
    private static final Class<IndexOutOfBoundsException> INDEX = IndexOutOfBoundsException.class;
    private static final Class<IllegalArgumentException> ARGUMENT = IllegalArgumentException.class;
    private static final Class<IllegalStateException> STATE = IllegalStateException.class;
    private static final Class<NoSuchElementException> NO_ELEMENT = NoSuchElementException.class;

    /** Two gates, two flows; at time 0 nothing has moved. */
    private static final String TWO_GATES = "toll;gate 3 10 2;gate 4 7 1;flow 0 1 thrift 2;flow 1;"
            + "packet 0 0 8;packet 0 1 9;packet 1 2 20;coupon 0 5 30;coupon 1 40 20;coupon 0 6 25;fee 2;refund 40 9;";

    public static void main(String[] args) {
        promise1NewObject();
        promise2Append();
        promise3Load();
        promise3Grammar();
        promise3Ranges();
        promise3Once();
        promise3Counts();
        promise3Depth();
        promise3SmallestOffset();
        promise4ErrorOffset();
        promise5State();
        promise6Gate();
        promise7Flow();
        promise8Route();
        promise9Tokens();
        promise10Queue();
        promise11Packet();
        promise12Coupon();
        promise13LoadOver();
        promise14Curve();
        promise15EndsAt();
        promise16BillAfter();
        promise17Help();
        promise18Pass();
        promise18Thrift();
        promise18Refund();
        promise18Spend();
        promise18Price();
        promise18Limits();
        promise19Forward();
        promise20Grant();
        promise21Send();
        promise22SetThrift();
        promise23Undo();
        promise24Checksum();
        Checks.end("PromisesTest");
    }

    private static void due(String what, long got, long want) {
        Checks.due(what, got, want);
    }

    private static void refused(PacketToll toll, String what, Class<? extends RuntimeException> want, Checks.Call call) {
        long before = toll.checksum();
        int offset = toll.errorOffset();
        Checks.dueThrow(what, want, call);
        due(what + " keeps the data, checksum", toll.checksum(), before);
        due(what + " keeps the error offset", toll.errorOffset(), offset);
    }

    /** The answer of load to this text and the error offset behind it. */
    private static void dueLoad(String text, int answer, int offset) {
        PacketToll toll = Checks.tollWith(TWO_GATES);
        toll.pass(1);
        long before = toll.checksum();
        due("load of " + text, Checks.load(toll, text), answer);
        due("errorOffset after " + text, toll.errorOffset(), offset);
        if (answer < 0) {
            due("checksum after the error in " + text, toll.checksum(), before);
            due("undo after the error in " + text, toll.undo(), 1);
        } else {
            due("time after " + text, toll.state(0), 0);
            due("undo after " + text, toll.undo(), 2);
        }
    }

    private static void promise1NewObject() {
        PacketToll toll = new PacketToll();
        for (int what = 0; what <= 8; what++) {
            due("new: state(" + what + ")", toll.state(what), 0);
        }
        due("new: fee", toll.state(9), 1);
        due("new: checksum", toll.checksum(), 1);
        due("new: errorOffset", toll.errorOffset(), -1);
        due("new: undo", toll.undo(), -1);
        refused(toll, "new: load(1)", ARGUMENT, () -> toll.load(1));
        refused(toll, "new: gate(0, 9)", INDEX, () -> toll.gate(0, 9));
        refused(toll, "new: flow(0, 0)", INDEX, () -> toll.flow(0, 0));
        refused(toll, "new: packet(0, 0)", INDEX, () -> toll.packet(0, 0));
        refused(toll, "new: coupon(0, 0)", INDEX, () -> toll.coupon(0, 0));
        refused(toll, "new: help(0)", INDEX, () -> toll.help(0));
        due("new: pass(200)", toll.pass(200), 0);
        due("new: time", toll.state(0), 200);
        PacketToll other = new PacketToll();
        due("another: time", other.state(0), 0);
    }

    private static void promise2Append() {
        PacketToll toll = new PacketToll();
        for (int i = 1; i <= 35; i++) {
            due("append " + i, toll.append(0, -1, 1 << 31, 7, i), 20 * i);
        }
        due("append 36", toll.append(0, 0, 0, 0, 0), -1);
        due("append 37", toll.append(0, 0, 0, 0, 0), -1);
        due("load(700)", toll.load(700), PacketToll.SYNTAX_ERROR);
        due("append after load", toll.append(0, 0, 0, 0, 0), 20);
        PacketToll order = new PacketToll();
        // "toll", ";fee", " 37;", "refu", "nd 1"
        order.append(0x746f6c6c, 0x3b666565, 0x2033373b, 0x72656675, 0x6e642031);
        due("load(12)", order.load(12), 0);
        due("fee from the bytes", order.state(9), 37);
        PacketToll high = new PacketToll();
        high.append(0x746f6c6c, 0x3bff2020, 0x20202020, 0x20202020, 0x20202020);
        due("load of a high byte", high.load(20), PacketToll.SYNTAX_ERROR);
        due("its offset", high.errorOffset(), 5);
        PacketToll full = new PacketToll();
        Checks.put(full, "toll;fee 3;" + Checks.times(689, " "));
        due("append to a full buffer", full.append(0, 0, 0, 0, 0), -1);
        due("the full buffer stays", full.load(700), 0);
        due("its fee", full.state(9), 3);
    }

    private static void promise3Load() {
        PacketToll toll = new PacketToll();
        Checks.put(toll, "toll;fee 5;fee 6;   ");
        refused(toll, "load(-1)", ARGUMENT, () -> toll.load(-1));
        refused(toll, "load(21)", ARGUMENT, () -> toll.load(21));
        due("load of a part", toll.load(11), 0);
        due("fee", toll.state(9), 5);
        refused(toll, "load of the emptied buffer", ARGUMENT, () -> toll.load(1));
        due("load(0)", toll.load(0), PacketToll.SYNTAX_ERROR);
        due("fee after the error", toll.state(9), 5);
        Checks.put(toll, "toll;fee 7;");
        due("load of an error", toll.load(3), PacketToll.SYNTAX_ERROR);
        due("the buffer is empty after an error", toll.append(0, 0, 0, 0, 0), 20);
        PacketToll again = Checks.tollWith(TWO_GATES);
        again.pass(3);
        due("load again", Checks.load(again, "toll;gate 1 2 3;"), 0);
        due("time", again.state(0), 0);
        due("flows", again.state(2), 0);
        due("coupons", again.state(4), 0);
        due("delivered", again.state(5), 0);
        due("spent", again.state(8), 0);
        due("fee", again.state(9), 1);
        due("depth", again.gate(0, 1), 2);
    }

    private static void promise3Grammar() {
        dueLoad("toll;", 0, -1);
        dueLoad("  toll  ;  ", 0, -1);
        dueLoad("toll;gate1 2 3;flow0thrift5;packet0 1 2;", 1, -1);
        dueLoad("toll;gate 000000000000000000001 0002 03 ; flow 0 thrift 00 ; ", 0, -1);
        dueLoad("toll;packet", PacketToll.SYNTAX_ERROR, 11);
        dueLoad("toll;packet  ", PacketToll.SYNTAX_ERROR, 13);
        dueLoad("   ", PacketToll.SYNTAX_ERROR, 3);
        dueLoad("tol;", PacketToll.SYNTAX_ERROR, 0);
        dueLoad(" tollgate 1 1 1;", PacketToll.SYNTAX_ERROR, 1);
        dueLoad("toll", PacketToll.SYNTAX_ERROR, 4);
        dueLoad("toll gate 1 1 1;", PacketToll.SYNTAX_ERROR, 5);
        dueLoad("toll;;", PacketToll.SYNTAX_ERROR, 5);
        dueLoad("toll;7;", PacketToll.SYNTAX_ERROR, 5);
        dueLoad("toll;Gate 1 1 1;", PacketToll.SYNTAX_ERROR, 5);
        dueLoad("toll;late 1 1 1;", PacketToll.SYNTAX_ERROR, 5);
        dueLoad("toll;gates 1 1 1;", PacketToll.SYNTAX_ERROR, 5);
        dueLoad("poll;", PacketToll.SYNTAX_ERROR, 0);
        dueLoad("toll;gate 1 1;", PacketToll.SYNTAX_ERROR, 13);
        dueLoad("toll;gate 1 1 1 1;", PacketToll.SYNTAX_ERROR, 16);
        dueLoad("toll;gate 1,1 1;", PacketToll.SYNTAX_ERROR, 11);
        dueLoad("toll;gate 1\n1 1;", PacketToll.SYNTAX_ERROR, 11);
        dueLoad("toll;gate 1 1 1", PacketToll.SYNTAX_ERROR, 15);
        dueLoad("toll;gate -1 1 1;", PacketToll.SYNTAX_ERROR, 10);
        dueLoad("toll;gate 1 1 1;flow;", PacketToll.SYNTAX_ERROR, 20);
        dueLoad("toll;gate 1 1 1;flow thrift 1;", PacketToll.SYNTAX_ERROR, 21);
        dueLoad("toll;gate 1 1 1;flow 0 thrift;", PacketToll.SYNTAX_ERROR, 29);
        dueLoad("toll;gate 1 1 1;flow 0 thrift 1 2;", PacketToll.SYNTAX_ERROR, 32);
        dueLoad("toll;gate 1 1 1;flow 0 thrift 1 thrift 1;", PacketToll.SYNTAX_ERROR, 32);
        dueLoad("toll;price;", PacketToll.SYNTAX_ERROR, 10);
        dueLoad("toll;price fee;", PacketToll.SYNTAX_ERROR, 11);
        dueLoad("toll;price sizes;", PacketToll.SYNTAX_ERROR, 11);
        dueLoad("toll;price size size;", PacketToll.SYNTAX_ERROR, 16);
        dueLoad("toll;price 1+;", PacketToll.SYNTAX_ERROR, 13);
        dueLoad("toll;price 1*+2;", PacketToll.SYNTAX_ERROR, 13);
        dueLoad("toll;price -1;", PacketToll.SYNTAX_ERROR, 11);
        dueLoad("toll;price (1;", PacketToll.SYNTAX_ERROR, 13);
        dueLoad("toll;price (1+2", PacketToll.SYNTAX_ERROR, 15);
        dueLoad("toll;price ();", PacketToll.SYNTAX_ERROR, 12);
        dueLoad("toll;price 1);", PacketToll.SYNTAX_ERROR, 12);
        dueLoad("toll;price 2(1);", PacketToll.SYNTAX_ERROR, 12);
        dueLoad("toll;price size+gate*spent-wait/(7);", 0, -1);
    }

    /** The number between before and after is right from least to most only. */
    private static void dueRange(String before, int least, int most, String after, int packets) {
        dueLoad(before + least + after, packets, -1);
        dueLoad(before + most + after, packets, -1);
        dueLoad(before + "0000" + most + after, packets, -1);
        if (least > 0) {
            dueLoad(before + (least - 1) + after, PacketToll.OUT_OF_RANGE, before.length());
        }
        dueLoad(before + (most + 1) + after, PacketToll.OUT_OF_RANGE, before.length());
        dueLoad(before + "  " + (most + 1) + after, PacketToll.OUT_OF_RANGE, before.length() + 2);
        dueLoad(before + "4294967297" + after, PacketToll.OUT_OF_RANGE, before.length());
        dueLoad(before + "18446744073709551617" + after, PacketToll.OUT_OF_RANGE, before.length());
    }

    private static void promise3Ranges() {
        dueRange("toll;gate ", 0, 99, " 1 1;", 0);
        dueRange("toll;gate 1 ", 1, 999, " 1;", 0);
        dueRange("toll;gate 1 1 ", 1, 20, ";", 0);
        String gates = "toll;gate 1 1 1;gate 1 1 1;";
        dueRange(gates + "flow ", 0, 1, ";", 0);
        dueRange(gates + "flow 0 thrift ", 0, 99, ";", 0);
        String flows = gates + "flow 0;flow 1 0;";
        dueRange(flows + "packet ", 0, 1, " 5 5;", 1);
        dueRange(flows + "packet 0 ", 0, 999, " 5;", 1);
        dueRange(flows + "packet 0 5 ", 1, 999, ";", 1);
        dueRange(flows + "coupon ", 0, 1, " 5 5;", 0);
        dueRange(flows + "coupon 0 ", 1, 9999, " 5;", 0);
        dueRange(flows + "coupon 0 5 ", 1, 9999, ";", 0);
        dueRange("toll;fee ", 0, 99, ";", 0);
        dueRange("toll;refund ", 0, 100, " 5;", 0);
        dueRange("toll;refund 5 ", 1, 999, ";", 0);
        dueRange("toll;price ", 0, 9999, ";", 0);
        dueLoad("toll;flow 0;gate 1 1 1;", PacketToll.OUT_OF_RANGE, 10);
        dueLoad("toll;gate 1 1 1;packet 0 0 1;flow 0;", PacketToll.OUT_OF_RANGE, 23);
        dueLoad("toll;gate 1 1 1;coupon 0 1 1;flow 0;", PacketToll.OUT_OF_RANGE, 23);
    }

    private static void promise3Once() {
        dueLoad("toll;fee 1;refund 1 1;price 1;", 0, -1);
        dueLoad("toll;fee 1;refund 1 1;price 1; fee 1;", PacketToll.SYNTAX_ERROR, 31);
        dueLoad("toll;refund 1 1;fee 1;refund 1 1;", PacketToll.SYNTAX_ERROR, 22);
        dueLoad("toll;price 1;fee 1;price 1;", PacketToll.SYNTAX_ERROR, 19);
        PacketToll toll = Checks.tollWith("toll;fee 9;");
        due("a fee in the next text", Checks.load(toll, "toll;fee 8;"), 0);
        due("is the fee", toll.state(9), 8);
    }

    private static void promise3Counts() {
        String gate = "gate 1 1 1;";
        dueLoad("toll;" + Checks.times(6, gate), 0, -1);
        dueLoad("toll;" + Checks.times(6, gate) + " gate", PacketToll.TOO_MANY, 72);
        String flow = "gate 1 1 1;" + Checks.times(6, "flow 0;");
        dueLoad("toll;" + flow, 0, -1);
        dueLoad("toll;" + flow + "flow 9;", PacketToll.TOO_MANY, 58);
        String packets = "toll;gate1 1 1;flow0;" + Checks.times(40, "packet0 0 1;");
        dueLoad(packets, 40, -1);
        dueLoad(packets + "packet;", PacketToll.TOO_MANY, packets.length());
        String coupons = "toll;gate1 1 1;flow0;" + Checks.times(30, "coupon0 1 1;");
        dueLoad(coupons, 0, -1);
        dueLoad(coupons + " coupon 9", PacketToll.TOO_MANY, coupons.length() + 1);
        String route = "toll;" + Checks.times(6, gate) + "flow 3 2 1 0";
        dueLoad(route + ";", 0, -1);
        dueLoad(route + " 5;", PacketToll.TOO_MANY, route.length() + 1);
        dueLoad(route + " 2;", PacketToll.REPEATED, route.length() + 1);
        dueLoad(route + " 6;", PacketToll.OUT_OF_RANGE, route.length() + 1);
        dueLoad(route + " thrift 5;", 0, -1);
        dueLoad("toll;" + Checks.times(6, gate) + "flow 4 2 4;", PacketToll.REPEATED, 80);
        dueLoad("toll;" + Checks.times(6, gate) + "flow 4 2 02;", PacketToll.REPEATED, 80);
    }

    private static void promise3Depth() {
        dueLoad("toll;price ((((1))))+((((2))));", 0, -1);
        dueLoad("toll;price ((((1+(2)))));", PacketToll.TOO_DEEP, 17);
        dueLoad("toll;price (((((", PacketToll.TOO_DEEP, 15);
        dueLoad("toll;price ((((1(", PacketToll.SYNTAX_ERROR, 16);
        String deep = "toll;price " + Checks.times(600, "(");
        dueLoad(deep, PacketToll.TOO_DEEP, 15);
        String longest = "toll;price size" + Checks.times(341, "+1") + ";";
        dueLoad(longest, 0, -1);
    }

    private static void promise3SmallestOffset() {
        dueLoad("toll;gate 100 1 1;;", PacketToll.OUT_OF_RANGE, 10);
        dueLoad("toll;gate 1 1 1;flow 0 0 7 x", PacketToll.REPEATED, 23);
        dueLoad("toll;fee x;fee 100;", PacketToll.SYNTAX_ERROR, 9);
        dueLoad("toll;price 10000+(((((1;", PacketToll.OUT_OF_RANGE, 11);
        dueLoad("toll;price 1 fee 1;price", PacketToll.SYNTAX_ERROR, 13);
    }

    private static void promise4ErrorOffset() {
        PacketToll toll = new PacketToll();
        due("errorOffset", toll.errorOffset(), -1);
        Checks.put(toll, "toll;x");
        toll.load(6);
        due("errorOffset", toll.errorOffset(), 5);
        refused(toll, "load(1)", ARGUMENT, () -> toll.load(1));
        toll.pass(1);
        toll.undo();
        due("errorOffset stays", toll.errorOffset(), 5);
        Checks.load(toll, "toll;");
        due("errorOffset", toll.errorOffset(), -1);
        toll.load(0);
        due("errorOffset", toll.errorOffset(), 0);
    }

    private static void promise5State() {
        PacketToll toll = Checks.tollWith("toll;gate 0 5 1;gate 1 1 1;flow 0;flow 1;flow 0 1;packet 0 0 5;packet 0 1 7;"
                + "packet 0 1 1;packet 1 9 1;coupon 0 9 3;coupon 1 9 1;coupon 1 5 1;fee 12;");
        int[] first = {0, 2, 3, 4, 3, 0, 0, 0, 0, 12};
        for (int what = 0; what <= 9; what++) {
            due("state(" + what + ")", toll.state(what), first[what]);
        }
        toll.pass(2);
        // packet 1 spends 7; packet 2 finds room for one only and is dropped; two coupons end at 1
        int[] then = {2, 2, 3, 4, 1, 2, 1, 2, 7, 12};
        for (int what = 0; what <= 9; what++) {
            due("state(" + what + ") after 2 ticks", toll.state(what), then[what]);
        }
        refused(toll, "state(-1)", ARGUMENT, () -> toll.state(-1));
        refused(toll, "state(10)", ARGUMENT, () -> toll.state(10));
    }

    private static void promise6Gate() {
        PacketToll toll = Checks.tollWith("toll;gate 1 2 3;gate 99 999 20;");
        int[] want = {1, 2, 3, 99, 999, 20};
        for (int i = 0; i < 6; i++) {
            due("gate(" + i / 3 + ", " + i % 3 + ")", toll.gate(i / 3, i % 3), want[i]);
        }
        refused(toll, "gate(2, 0)", INDEX, () -> toll.gate(2, 0));
        refused(toll, "gate(-1, 5)", INDEX, () -> toll.gate(-1, 5));
        refused(toll, "gate(0, -1)", ARGUMENT, () -> toll.gate(0, -1));
        refused(toll, "gate(0, 3)", ARGUMENT, () -> toll.gate(0, 3));
    }

    private static void promise7Flow() {
        PacketToll toll = Checks.tollWith(TWO_GATES);
        int[] want = {2, 2, 0, 2, 11, 0, 1, 0, 0, 1, 40, 0};
        for (int i = 0; i < 12; i++) {
            due("flow(" + i / 6 + ", " + i % 6 + ")", toll.flow(i / 6, i % 6), want[i]);
        }
        toll.pass(3);
        // time 0: packet 0 passes gate 0 by 8 tokens; 2: packet 2 (20) passes gate 1 by 7 and 13 of coupons
        due("bill of flow 1", toll.flow(1, 2), 20);
        due("coupons of flow 1", toll.flow(1, 4), 27);
        due("delivered of flow 1", toll.flow(1, 5), 20);
        due("bill of flow 0", toll.flow(0, 2), 8);
        due("delivered of flow 0", toll.flow(0, 5), 0);
        refused(toll, "flow(2, 0)", INDEX, () -> toll.flow(2, 0));
        refused(toll, "flow(-1, 9)", INDEX, () -> toll.flow(-1, 9));
        refused(toll, "flow(0, -1)", ARGUMENT, () -> toll.flow(0, -1));
        refused(toll, "flow(0, 6)", ARGUMENT, () -> toll.flow(0, 6));
    }

    private static void promise8Route() {
        PacketToll toll = Checks.tollWith("toll;" + Checks.times(6, "gate 1 1 1;") + "flow 5 0 3 2;flow 4;");
        int[] want = {5, 0, 3, 2};
        for (int place = 0; place < 4; place++) {
            due("route(0, " + place + ")", toll.route(0, place), want[place]);
        }
        due("route(1, 0)", toll.route(1, 0), 4);
        refused(toll, "route(0, 4)", NO_ELEMENT, () -> toll.route(0, 4));
        refused(toll, "route(1, 1)", NO_ELEMENT, () -> toll.route(1, 1));
        refused(toll, "route(1, -1)", NO_ELEMENT, () -> toll.route(1, -1));
        refused(toll, "route(1, 2147483647)", NO_ELEMENT, () -> toll.route(1, Integer.MAX_VALUE));
        refused(toll, "route(2, 9)", INDEX, () -> toll.route(2, 9));
        refused(toll, "route(-1, 0)", INDEX, () -> toll.route(-1, 0));
    }

    private static void promise9Tokens() {
        PacketToll toll = Checks.tollWith("toll;gate 3 10 2;gate 4 7 1;flow 0;flow 0;packet 0 0 8;packet 0 1 5;");
        due("full at first", toll.tokens(0, 0), 10);
        due("also off the route", toll.tokens(1, 1), 7);
        toll.pass(1);
        due("no more than the depth before the passage", toll.tokens(0, 0), 2);
        due("another flow's bucket", toll.tokens(0, 1), 10);
        toll.pass(1);
        due("refilled before the passage", toll.tokens(0, 0), 0);
        toll.pass(2);
        due("refilled", toll.tokens(0, 0), 6);
        toll.pass(9);
        due("full", toll.tokens(0, 0), 10);
        refused(toll, "tokens(2, 0)", INDEX, () -> toll.tokens(2, 0));
        refused(toll, "tokens(0, 2)", INDEX, () -> toll.tokens(0, 2));
        refused(toll, "tokens(-1, 0)", INDEX, () -> toll.tokens(-1, 0));
        refused(toll, "tokens(0, -1)", INDEX, () -> toll.tokens(0, -1));
    }

    private static void promise10Queue() {
        PacketToll toll = Checks.tollWith("toll;gate 1 5 3;gate 0 1 2;flow 0 1;flow 1;" + Checks.times(5, "packet 0 0 5;")
                + "packet 1 2 9;");
        due("queue at first", toll.queue(0, 0), 0);
        toll.pass(1);
        due("three join, one passes", toll.queue(0, 0), 2);
        due("two do not find room", toll.state(6), 2);
        toll.pass(2);
        due("one at the second gate", toll.queue(1, 0), 1);
        due("another flow's queue there", toll.queue(1, 1), 1);
        due("another flow's queue off its route", toll.queue(0, 1), 0);
        refused(toll, "queue(2, 0)", INDEX, () -> toll.queue(2, 0));
        refused(toll, "queue(0, 2)", INDEX, () -> toll.queue(0, 2));
        refused(toll, "queue(-1, 0)", INDEX, () -> toll.queue(-1, 0));
        refused(toll, "queue(0, -1)", INDEX, () -> toll.queue(0, -1));
    }

    private static void promise11Packet() {
        PacketToll toll = Checks.tollWith("toll;gate 0 9 1;gate 0 9 2;flow 0;flow 1 0 thrift 2;packet 1 1 12;"
                + "packet 0 0 10;packet 0 4 3;coupon 1 7 99;");
        Checks.duePacket(toll, 0, 1, 1, 12, 0, -1, 0, -1);
        toll.pass(2);
        Checks.duePacket(toll, 0, 1, 1, 12, 1, 1, 0, -1);
        toll.pass(2);
        Checks.duePacket(toll, 0, 1, 1, 12, 2, 0, 3, -1);
        Checks.duePacket(toll, 1, 0, 0, 10, 1, 0, 0, -1);
        toll.pass(3);
        // at gate 0 it joined at 4 and pays 3 at 6
        Checks.duePacket(toll, 0, 1, 1, 12, 3, -1, 6, 6);
        Checks.duePacket(toll, 2, 0, 4, 3, 4, -1, 0, 4);
        refused(toll, "packet(3, 0)", INDEX, () -> toll.packet(3, 0));
        refused(toll, "packet(-1, 7)", INDEX, () -> toll.packet(-1, 7));
        refused(toll, "packet(0, 7)", ARGUMENT, () -> toll.packet(0, 7));
        refused(toll, "packet(0, -1)", ARGUMENT, () -> toll.packet(0, -1));
    }

    private static void promise12Coupon() {
        PacketToll toll = Checks.tollWith("toll;gate 1 1 1;flow 0;flow 0;coupon 1 9999 9999;coupon 0 1 1;coupon 0 8 2;");
        Checks.dueCoupon(toll, 0, 1, 9999, 9999, 0);
        Checks.dueCoupon(toll, 1, 0, 1, 1, 0);
        Checks.dueCoupon(toll, 2, 0, 8, 2, 0);
        toll.pass(1);
        due("coupons at 1", toll.state(4), 3);
        toll.pass(1);
        due("coupons at 2", toll.state(4), 2);
        Checks.dueCoupon(toll, 1, 0, 8, 2, 0);
        toll.forward(0, 0);
        Checks.dueCoupon(toll, 0, 0, 9998, 9999, 1);
        refused(toll, "coupon(2, 0)", INDEX, () -> toll.coupon(2, 0));
        refused(toll, "coupon(-1, 4)", INDEX, () -> toll.coupon(-1, 4));
        refused(toll, "coupon(0, 4)", ARGUMENT, () -> toll.coupon(0, 4));
        refused(toll, "coupon(0, -1)", ARGUMENT, () -> toll.coupon(0, -1));
    }

    private static void promise13LoadOver() {
        PacketToll toll = Checks.tollWith("toll;gate 2 10 9;gate 0 999 9;flow 0 1;flow 1;packet 0 0 4;packet 0 0 6;"
                + "packet 0 3 5;packet 0 4 7;coupon 0 99 99;packet 1 1 8;");
        due("no passage", toll.loadOver(0, 0, 999), 0);
        toll.pass(5);
        // at gate 0: 4 and 6 at time 0; 5 at 3 by tokens; 7 at 4 with 4 of coupons
        due("over 1", toll.loadOver(0, 0, 1), 10);
        due("over 3", toll.loadOver(0, 0, 3), 10);
        due("over 4", toll.loadOver(0, 0, 4), 15);
        due("over 5", toll.loadOver(0, 0, 5), 18);
        due("over 999", toll.loadOver(0, 0, 999), 18);
        due("the next gate over 1", toll.loadOver(1, 0, 1), 10);
        due("the next gate over 999", toll.loadOver(1, 0, 999), 15);
        due("another flow", toll.loadOver(1, 1, 1), 8);
        due("another flow elsewhere", toll.loadOver(0, 1, 999), 0);
        refused(toll, "loadOver(0, 0, 0)", ARGUMENT, () -> toll.loadOver(0, 0, 0));
        refused(toll, "loadOver(0, 0, 1000)", ARGUMENT, () -> toll.loadOver(0, 0, 1000));
        refused(toll, "loadOver(2, 0, 0)", INDEX, () -> toll.loadOver(2, 0, 0));
        refused(toll, "loadOver(0, 2, 0)", INDEX, () -> toll.loadOver(0, 2, 0));
        refused(toll, "loadOver(-1, 0, 1)", INDEX, () -> toll.loadOver(-1, 0, 1));
        refused(toll, "loadOver(0, -1, 1)", INDEX, () -> toll.loadOver(0, -1, 1));
        latestPassages();
    }

    /** 20 packets over two gates make 40 passages; the next ones push out those of the first packet. */
    private static void latestPassages() {
        PacketToll toll = Checks.tollWith("toll;gate0 999 20;gate0 999 20;flow0 1;flow1;packet0 0 300;"
                + Checks.times(19, "packet0 1 1;"));
        toll.pass(3);
        due("40 passages", toll.loadOver(0, 0, 9), 319);
        due("40 passages, second gate", toll.loadOver(1, 0, 9), 319);
        toll.send(1, 7);
        toll.pass(1);
        due("the first one is gone", toll.loadOver(0, 0, 9), 19);
        due("the second one is kept", toll.loadOver(1, 0, 9), 319);
        for (int i = 0; i < 19; i++) {
            toll.send(1, 7);
        }
        toll.pass(1);
        // of the 40 there are 20 of flow 1; at time 1 packet 0 passed gate 1 after the others had passed gate 0
        due("all of flow 1", toll.loadOver(1, 1, 9), 140);
        due("none at gate 0", toll.loadOver(0, 0, 9), 0);
        due("those at gate 1", toll.loadOver(1, 0, 9), 319);
    }

    private static void promise14Curve() {
        PacketToll toll = Checks.tollWith("toll;gate 3 10 2;gate 99 999 1;gate 0 5 1;");
        due("curve(0, 1)", toll.curve(0, 1), 13);
        due("curve(0, 7)", toll.curve(0, 7), 31);
        due("curve(1, 999)", toll.curve(1, 999), 99900);
        due("curve(2, 999)", toll.curve(2, 999), 5);
        refused(toll, "curve(0, 0)", ARGUMENT, () -> toll.curve(0, 0));
        refused(toll, "curve(0, 1000)", ARGUMENT, () -> toll.curve(0, 1000));
        refused(toll, "curve(3, 0)", INDEX, () -> toll.curve(3, 0));
        refused(toll, "curve(-1, 1)", INDEX, () -> toll.curve(-1, 1));
    }

    private static void promise15EndsAt() {
        PacketToll toll = Checks.tollWith("toll;gate 1 9 1;gate 0 9 1;flow 0;flow 0 1;packet 0 499 9;packet 0 500 9;"
                + "packet 1 3 9;packet 1 5 9;packet 1 6 1;");
        long before = toll.checksum();
        due("at the last tick of 500", toll.endsAt(0), 499);
        due("not within 500 ticks", toll.endsAt(1), -1);
        due("over two gates", toll.endsAt(2), 4);
        due("stuck", toll.endsAt(3), -1);
        due("dropped", toll.endsAt(4), 6);
        due("a prediction changes nothing", toll.checksum(), before);
        toll.pass(10);
        due("now within", toll.endsAt(1), 508);
        due("it was so", toll.endsAt(2), 4);
        due("it was dropped", toll.endsAt(4), 6);
        refused(toll, "endsAt(5)", INDEX, () -> toll.endsAt(5));
        refused(toll, "endsAt(-1)", INDEX, () -> toll.endsAt(-1));
        due("undo counts no prediction", toll.undo(), 1);
        PacketToll late = Checks.tollWith("toll;gate 1 9 1;flow 0;packet 0 0 9;");
        late.pass(200);
        for (int i = 0; i < 48; i++) {
            late.pass(200);
        }
        late.pass(199);
        late.send(0, 9);
        late.send(0, 9);
        due("beyond 9999", late.endsAt(1), 9999);
        due("dropped beyond 9999", late.endsAt(2), 9999);
        late.undo();
        late.undo();
        late.setThrift(0, 0);
        late.send(0, 10);
        late.grant(0, 1, 9999);
        due("paid at 9999", late.endsAt(1), 9999);
    }

    private static void promise16BillAfter() {
        PacketToll toll = Checks.tollWith("toll;gate 2 10 5;flow 0;flow 0;packet 0 0 10;packet 0 1 10;packet 1 499 3;"
                + "price size*3;");
        toll.pass(1);
        long before = toll.checksum();
        due("billAfter(0, 0)", toll.billAfter(0, 0), 30);
        due("billAfter(0, 4)", toll.billAfter(0, 4), 30);
        due("billAfter(0, 5)", toll.billAfter(0, 5), 60);
        due("billAfter(1, 498)", toll.billAfter(1, 498), 0);
        due("billAfter(1, 499)", toll.billAfter(1, 499), 9);
        due("billAfter(1, 500)", toll.billAfter(1, 500), 9);
        due("a prediction changes nothing", toll.checksum(), before);
        refused(toll, "billAfter(0, -1)", ARGUMENT, () -> toll.billAfter(0, -1));
        refused(toll, "billAfter(0, 501)", ARGUMENT, () -> toll.billAfter(0, 501));
        refused(toll, "billAfter(2, -1)", INDEX, () -> toll.billAfter(2, -1));
        refused(toll, "billAfter(-1, 0)", INDEX, () -> toll.billAfter(-1, 0));
        PacketToll late = Checks.tollWith("toll;gate 1 9 1;flow 0;");
        for (int i = 0; i < 49; i++) {
            late.pass(200);
        }
        late.pass(199);
        late.send(0, 9);
        due("beyond 9999", late.billAfter(0, 500), 9);
    }

    private static void promise17Help() {
        PacketToll toll = Checks.tollWith("toll;gate 1 10 9;gate 0 10 1;flow 0;flow 1;packet 0 0 10;packet 0 0 6;"
                + "packet 1 0 999;packet 1 1 5;packet 0 600 5;coupon 1 7 200;");
        long before = toll.checksum();
        due("it passes at once anyway", toll.help(0), -1);
        // without help it passes at 6; with 1 at 5, as 5 tokens have come by then
        due("a tick earlier", toll.help(1), 1);
        due("the rest of a great packet", toll.help(2), 999 - 10 - 7);
        due("dropped at 1, its first moment", toll.help(3), -1);
        due("too far away", toll.help(4), -1);
        due("help changes nothing", toll.checksum(), before);
        toll.pass(1);
        due("it was delivered", toll.help(0), -1);
        refused(toll, "help(5)", INDEX, () -> toll.help(5));
        refused(toll, "help(-1)", INDEX, () -> toll.help(-1));
        for (int i = 0; i < 28; i++) {
            toll.grant(0, 1, 1);
        }
        due("29 coupons", toll.state(4), 29);
        due("help with 29 coupons", toll.help(2), 999 - 10 - 7);
        toll.grant(0, 1, 1);
        due("help with 30 coupons", toll.help(2), -1);
        PacketToll far = Checks.tollWith("toll;gate 0 1 9;flow 0;flow 0;packet 0 0 999;packet 0 0 3;packet 1 0 999;");
        due("998 is enough", far.help(0), 998);
        due("both must pass: 998 + 3 is too much", far.help(1), -1);
        far.grant(0, 2, 9);
        due("now 999", far.help(1), 999);
        due("another flow's coupons are no help", far.help(2), 998);
        thriftAndHelp();
    }

    private static void thriftAndHelp() {
        PacketToll toll = Checks.tollWith("toll;gate 1 9 9;flow 0 thrift 3;packet 0 0 9;packet 0 0 8;");
        // 8 tokens are there at 8; from 3 on a coupon may help, when 3 are there
        due("without", toll.endsAt(1), 8);
        due("the smallest", toll.help(1), 1);
        toll.grant(0, 4, 99);
        due("with 4", toll.endsAt(1), 4);
        due("one more: at 3", toll.help(1), 1);
        toll.grant(0, 1, 99);
        due("with 5", toll.endsAt(1), 3);
        due("the thrift lets it go no earlier", toll.help(1), -1);
        PacketToll fast = Checks.tollWith("toll;gate 5 20 9;flow 0 thrift 3;packet 0 0 20;packet 0 0 20;");
        due("at 4 the bucket is full", fast.endsAt(1), 4);
        due("at 3, when the thrift is over, 5 are missing", fast.help(1), 5);
    }

    private static void promise18Pass() {
        PacketToll toll = Checks.tollWith("toll;gate 0 20 9;gate 0 20 9;flow 0 1;flow 1;packet 0 0 5;packet 0 0 5;"
                + "packet 1 1 9;packet 0 1 30;");
        due("the first gate", toll.pass(1), 0);
        due("the second gate", toll.pass(1), 3);
        due("nothing more", toll.pass(200), 0);
        due("time", toll.state(0), 202);
        due("the second gate's tokens for flow 0", toll.tokens(1, 0), 10);
        refused(toll, "pass(0)", ARGUMENT, () -> toll.pass(0));
        refused(toll, "pass(-5)", ARGUMENT, () -> toll.pass(-5));
        refused(toll, "pass(201)", ARGUMENT, () -> toll.pass(201));
        refused(toll, "pass(2147483647)", ARGUMENT, () -> toll.pass(Integer.MAX_VALUE));
        for (int i = 0; i < 48; i++) {
            toll.pass(200);
        }
        due("time", toll.state(0), 9802);
        refused(toll, "pass(198) at 9802", ARGUMENT, () -> toll.pass(198));
        toll.pass(197);
        due("time", toll.state(0), 9999);
        refused(toll, "pass(1) at 9999", ARGUMENT, () -> toll.pass(1));
        due("a thrown call is no change", toll.undo(), 7);
        due("time", toll.state(0), 9802);
    }

    private static void promise18Thrift() {
        PacketToll toll = Checks.tollWith("toll;gate 0 4 9;flow 0 thrift 2;packet 0 0 4;packet 0 1 5;packet 0 3 1;"
                + "coupon 0 6 3;coupon 0 9 50;");
        toll.pass(3);
        due("it still waits", toll.packet(1, 3), 1);
        toll.pass(1);
        // at 3 the first coupon is gone before anything passes
        due("it passed", toll.packet(1, 6), 3);
        due("and paid", toll.packet(1, 5), 5);
        due("with the coupon that was left", toll.flow(0, 4), 4);
        due("the next one waits for itself", toll.packet(2, 3), 1);
        toll.pass(2);
        due("and passes", toll.packet(2, 6), 5);
        due("one is left of 9", toll.coupon(0, 1), 3);
        PacketToll zero = Checks.tollWith("toll;gate 0 4 9;flow 0;packet 0 0 4;packet 0 0 5;coupon 0 5 1;");
        due("without thrift both at once", zero.pass(1), 2);
        due("all spent: removed", zero.state(4), 0);
        due("spent, not expired", zero.state(7), 0);
    }

    private static void promise18Refund() {
        String text = "toll;gate 0 1 9;gate 0 9 1;flow 0 1 thrift 1;flow 0 1;packet 1 0 8;packet 1 0 8;packet 1 0 2;"
                + "coupon 1 22 99;";
        PacketToll toll = Checks.tollWith(text + "refund 50 6;");
        toll.pass(1);
        due("all passed the first gate and paid", toll.state(8), 17);
        toll.pass(1);
        // one of the three finds room at gate 1; of 8 and 2 half comes back: 4 and 1
        due("two are dropped", toll.state(6), 2);
        due("coupons: 5 of the first, then two refunds", toll.state(4), 3);
        Checks.dueCoupon(toll, 0, 1, 5, 99, 0);
        Checks.dueCoupon(toll, 1, 1, 4, 7, 0);
        Checks.dueCoupon(toll, 2, 1, 1, 7, 0);
        toll.pass(5);
        due("at 7 they are there", toll.state(4), 3);
        toll.pass(1);
        due("then not", toll.state(4), 1);
        due("expired", toll.state(7), 2);
        PacketToll usual = Checks.tollWith(text);
        usual.pass(2);
        Checks.dueCoupon(usual, 1, 1, 4, 11, 0);
        PacketToll none = Checks.tollWith(text + "refund 49 6;");
        none.pass(2);
        due("49 percent of 8 is 3, of 2 is 0", none.state(4), 2);
        Checks.dueCoupon(none, 1, 1, 3, 7, 0);
        PacketToll full = Checks.tollWith(text);
        for (int i = 0; i < 28; i++) {
            full.grant(0, 1, 99);
        }
        full.pass(2);
        due("only the first finds room among 30 coupons", full.state(4), 30);
        Checks.dueCoupon(full, 29, 1, 4, 11, 0);
    }

    private static void promise18Spend() {
        PacketToll toll = Checks.tollWith("toll;gate 0 1 9;flow 0;flow 0;packet 0 0 1;packet 0 0 7;coupon 0 5 30;"
                + "coupon 0 3 20;coupon 1 9 10;coupon 0 2 20;coupon 0 9 40;");
        toll.pass(1);
        // 3 and 2 that end at 20, in their order, then 2 of the 5
        due("two are removed", toll.state(4), 3);
        Checks.dueCoupon(toll, 0, 0, 3, 30, 0);
        Checks.dueCoupon(toll, 1, 1, 9, 10, 0);
        Checks.dueCoupon(toll, 2, 0, 9, 40, 0);
        PacketToll tie = Checks.tollWith("toll;gate 0 1 9;flow 0;packet 0 0 5;coupon 0 5 20;coupon 0 6 20;");
        tie.pass(1);
        Checks.dueCoupon(tie, 0, 0, 1, 20, 0);
        Checks.dueCoupon(tie, 1, 0, 6, 20, 0);
    }

    private static void promise18Price() {
        Worlds.duePrice("size", 7);
        Worlds.duePrice("gate", 1);
        Worlds.duePrice("spent", 3);
        Worlds.duePrice("wait", 2);
        Worlds.duePrice("size*10+wait", 72);
        Worlds.duePrice("100-size-spent", 90);
        Worlds.duePrice("100-(size-spent)", 96);
        Worlds.duePrice("90/size/wait", 6);
        Worlds.duePrice("90/(size/wait)", 30);
        Worlds.duePrice("2+3*4", 14);
        Worlds.duePrice("9-2*3-1", 2);
        Worlds.duePrice("7/(gate-1)", 0);
        Worlds.duePrice("5+7/0*3", 5);
        Worlds.duePrice("0-7", 0);
        Worlds.duePrice("9999+1", 9999);
        Worlds.duePrice("10+(0-7)/2", 7);
        Worlds.duePrice("9999*9999/1000", 1000);
        Worlds.duePrice("9999*9999-9999*9999+5", 5);
        Worlds.duePrice("9999*100+9999-(9999*100-9999)", 9999);
        Worlds.duePrice("(0-9999)*9999*9999/(0-1000)", 1000);
        Worlds.duePrice("9999*9999+9999*9999-9999*99", 9999);
        Worlds.duePrice("(9999*9999+9999-9999*100)/100", 1);
        Worlds.duePrice("((((size))))*((2))", 14);
        Worlds.duePrice("1+2*(1+2*(1+2*(1+2*(1+2*wait))))", 95);
        Worlds.duePrice("9999*9999-9999*100-99", 1);
        Worlds.duePrice("(0-9999)*9999+9999*100+101", 1);
        Worlds.duePrice("9999*100+9999-9999*100-99", 1);
        Worlds.duePrice("0-0-(0-9999*9999-9999*9999)/200", 5000);
        PacketToll plain = Checks.tollWith("toll;gate 0 9 1;flow 0;packet 0 0 7;");
        plain.pass(1);
        due("bill without a price", plain.flow(0, 2), 7);
    }

    private static void promise18Limits() {
        PacketToll toll = Checks.tollWith("toll;gate 0 1 3;gate 0 9 1;flow 0 1;flow 1 0;packet 0 0 5;packet 1 0 9;"
                + "packet 0 0 1;packet 0 0 1;packet 0 0 1;");
        toll.pass(1);
        due("room for three", toll.queue(0, 0), 3);
        due("the fourth is dropped", toll.packet(4, 6), 0);
        due("its bucket is full but the first is too great", toll.tokens(0, 0), 1);
        toll.pass(1);
        due("the other flow has a queue of its own", toll.packet(1, 4), 0);
        PacketToll order = Checks.tollWith("toll;gate 0 9 1;gate 1 5 1;flow 0 1;packet 0 1 5;packet 0 0 4;packet 0 2 5;");
        order.pass(2);
        // packet 1 arrives at gate 1 at 1 and passes; packet 0 passes gate 0 at 1
        due("packet 1", order.packet(1, 6), 1);
        due("packet 0 on its way", order.packet(0, 3), 2);
        order.pass(1);
        due("it waits there", order.packet(0, 4), 1);
        order.pass(3);
        due("the bucket got 4 in 4 ticks: 1 + 4", order.packet(0, 6), 5);
    }

    private static void promise19Forward() {
        PacketToll toll = Checks.tollWith("toll;gate 1 1 1;flow 0;flow 0;flow 0;coupon 0 10 9;coupon 0 2 9;coupon 1 3 9;"
                + "fee 2;");
        due("to its own flow", toll.forward(0, 0), -1);
        Checks.dueCoupon(toll, 0, 0, 10, 9, 0);
        due("forward", toll.forward(0, 1), 8);
        Checks.dueCoupon(toll, 0, 1, 8, 9, 1);
        due("not greater than the fee", toll.forward(1, 1), -1);
        due("greater than the fee", toll.forward(2, 0), 1);
        due("back", toll.forward(0, 0), 6);
        Checks.dueCoupon(toll, 0, 0, 6, 9, 2);
        due("a third time", toll.forward(0, 2), -1);
        Checks.dueCoupon(toll, 0, 0, 6, 9, 2);
        due("refusals are changes", toll.undo(), 6);
        due("the one before", toll.undo(), 5);
        Checks.dueCoupon(toll, 0, 1, 8, 9, 1);
        refused(toll, "forward(3, 0)", INDEX, () -> toll.forward(3, 0));
        refused(toll, "forward(-1, 0)", INDEX, () -> toll.forward(-1, 0));
        refused(toll, "forward(0, 3)", INDEX, () -> toll.forward(0, 3));
        refused(toll, "forward(0, -1)", INDEX, () -> toll.forward(0, -1));
        PacketToll free = Checks.tollWith("toll;gate 1 1 1;flow 0;flow 0;coupon 0 1 9;fee 0;");
        due("without a fee", free.forward(0, 1), 1);
        PacketToll usual = Checks.tollWith("toll;gate 1 1 1;flow 0;flow 0;coupon 0 5 9;");
        due("the usual fee", usual.forward(0, 1), 4);
    }

    private static void promise20Grant() {
        PacketToll toll = Checks.tollWith("toll;gate 1 1 1;flow 0;flow 0;coupon 0 10 99;");
        toll.pass(7);
        due("grant", toll.grant(1, 9999, 9999), 1);
        Checks.dueCoupon(toll, 1, 1, 9999, 10006, 0);
        due("grant", toll.grant(0, 1, 1), 2);
        Checks.dueCoupon(toll, 2, 0, 1, 8, 0);
        toll.pass(1);
        due("it is there at 8", toll.state(4), 3);
        toll.pass(1);
        due("it ended at 8", toll.state(4), 2);
        refused(toll, "grant(2, 0, 0)", INDEX, () -> toll.grant(2, 0, 0));
        refused(toll, "grant(-1, 1, 1)", INDEX, () -> toll.grant(-1, 1, 1));
        refused(toll, "grant(0, 0, 1)", ARGUMENT, () -> toll.grant(0, 0, 1));
        refused(toll, "grant(0, 10000, 1)", ARGUMENT, () -> toll.grant(0, 10000, 1));
        refused(toll, "grant(0, 1, 0)", ARGUMENT, () -> toll.grant(0, 1, 0));
        refused(toll, "grant(0, 1, 10000)", ARGUMENT, () -> toll.grant(0, 1, 10000));
        for (int i = 2; i < 30; i++) {
            due("grant", toll.grant(1, 1, 50), i);
        }
        refused(toll, "grant with 30 coupons", STATE, () -> toll.grant(0, 1, 1));
        refused(toll, "grant(0, 0, 1) with 30 coupons", ARGUMENT, () -> toll.grant(0, 0, 1));
        refused(toll, "grant(5, 0, 1) with 30 coupons", INDEX, () -> toll.grant(5, 0, 1));
        due("thrown calls are no changes", toll.undo(), 7);
        due("undone", toll.state(4), 29);
    }

    private static void promise21Send() {
        PacketToll toll = Checks.tollWith("toll;gate 1 9 20;flow 0;flow 0;packet 0 0 5;");
        toll.pass(3);
        due("send", toll.send(1, 9), 1);
        Checks.duePacket(toll, 1, 1, 3, 9, 0, -1, 0, -1);
        due("it passes at 3", toll.pass(1), 1);
        Checks.duePacket(toll, 1, 1, 3, 9, 3, -1, 0, 3);
        refused(toll, "send(2, 0)", INDEX, () -> toll.send(2, 0));
        refused(toll, "send(-1, 1)", INDEX, () -> toll.send(-1, 1));
        refused(toll, "send(0, 0)", ARGUMENT, () -> toll.send(0, 0));
        refused(toll, "send(0, 1000)", ARGUMENT, () -> toll.send(0, 1000));
        for (int i = 2; i < 40; i++) {
            due("send", toll.send(0, 999), i);
        }
        refused(toll, "send with 40 packets", STATE, () -> toll.send(0, 1));
        refused(toll, "send(0, 0) with 40 packets", ARGUMENT, () -> toll.send(0, 0));
        refused(toll, "send(2, 0) with 40 packets", INDEX, () -> toll.send(2, 0));
        toll.pass(1);
        due("20 have room", toll.queue(0, 0), 20);
        due("18 have not", toll.state(6), 18);
    }

    private static void promise22SetThrift() {
        PacketToll toll = Checks.tollWith("toll;gate 0 1 9;flow 0 thrift 9;flow 0;packet 0 0 5;coupon 0 9 99;");
        toll.pass(2);
        due("it waits", toll.state(5), 0);
        due("setThrift", toll.setThrift(0, 1), 9);
        due("thrift", toll.flow(0, 1), 1);
        due("the other flow's", toll.flow(1, 1), 0);
        due("it goes", toll.pass(1), 1);
        due("setThrift", toll.setThrift(0, 99), 1);
        due("setThrift", toll.setThrift(0, 99), 99);
        due("setThrift", toll.setThrift(0, 0), 99);
        refused(toll, "setThrift(2, 100)", INDEX, () -> toll.setThrift(2, 100));
        refused(toll, "setThrift(-1, 0)", INDEX, () -> toll.setThrift(-1, 0));
        refused(toll, "setThrift(0, 100)", ARGUMENT, () -> toll.setThrift(0, 100));
        refused(toll, "setThrift(0, -1)", ARGUMENT, () -> toll.setThrift(0, -1));
    }

    private static void promise23Undo() {
        PacketToll toll = Checks.tollWith(TWO_GATES);
        long[] sums = new long[12];
        for (int i = 0; i < 12; i++) {
            sums[i] = toll.checksum();
            step(toll, i);
        }
        Checks.put(toll, "toll;fee 77;");
        for (int left = 7; left >= 0; left--) {
            due("undo", toll.undo(), left);
            due("the data before", toll.checksum(), sums[left + 4]);
        }
        due("undo of a final change", toll.undo(), -1);
        due("nothing changes", toll.checksum(), sums[4]);
        due("nor does the buffer", toll.load(12), 0);
        due("fee", toll.state(9), 77);
        due("undo of a load", toll.undo(), 0);
        due("the data before", toll.checksum(), sums[4]);
        due("undo", toll.undo(), -1);
        PacketToll turns = Checks.tollWith("toll;gate 1 1 1;flow 0;");
        for (int i = 0; i < 7; i++) {
            turns.pass(1);
        }
        turns.undo();
        turns.pass(5);
        due("the load can still be undone, after 7", turns.undo(), 7);
        for (int left = 6; left >= 0; left--) {
            due("undo", turns.undo(), left);
        }
        due("no gates any more", turns.state(1), 0);
        PacketToll price = Checks.tollWith("toll;gate 9 9 9;flow 0;price 5;");
        Checks.load(price, "toll;price 6;");
        price.undo();
        price.send(0, 1);
        price.pass(1);
        due("the price before the load", price.flow(0, 2), 5);
        PacketToll past = Checks.tollWith("toll;gate 9 9 9;flow 0;packet 0 0 4;packet 0 1 3;");
        past.pass(1);
        past.pass(1);
        past.undo();
        due("passages are undone too", past.loadOver(0, 0, 9), 4);
        Checks.load(past, "toll;gate 0 8 8;gate 0 8 8;flow 1;flow 1;coupon 1 9 9;packet 1 6 9;");
        past.pass(9);
        due("passages after the next load", past.loadOver(1, 1, 1), 8);
        due("none where they were before", past.loadOver(0, 0, 9), 0);
        past.undo();
        past.undo();
        due("the passages before the load", past.loadOver(0, 0, 9), 4);
    }

    private static void step(PacketToll toll, int i) {
        switch (i % 6) {
            case 0: toll.pass(2); break;
            case 1: toll.send(i % 2, 4); break;
            case 2: toll.grant(0, 3, 5); break;
            case 3: toll.forward(0, 1); break;
            case 4: toll.setThrift(1, i); break;
            default: Checks.load(toll, TWO_GATES + "packet 0 " + i + " 3;"); break;
        }
    }

    private static void promise24Checksum() {
        PacketToll toll = Checks.tollWith(TWO_GATES);
        toll.pass(6);
        toll.send(1, 5);
        toll.forward(0, 1);
        due("checksum", toll.checksum(), sumOf(toll));
        due("checksum again", toll.checksum(), sumOf(toll));
        due("a checksum written out", Checks.tollWith("toll;gate 1 2 3;flow 0;packet 0 4 5;coupon 0 6 7;").checksum(),
                written(0, 1, 1, 1, 1, 0, 0, 0, 0, 1, 1, 0, 0, 1, 6, 0, 0, 4, 5, 0, -1, 0, -1, 0, 6, 7, 0, 2, 0));
    }

    private static long written(int... numbers) {
        long sum = 0;
        for (int n : numbers) {
            sum = 31 * sum + n;
        }
        return sum;
    }

    private static long sumOf(PacketToll toll) {
        long sum = 0;
        for (int i = 0; i < 10; i++) {
            sum = 31 * sum + toll.state(i);
        }
        for (int i = 0; i < 6 * toll.state(2); i++) {
            sum = 31 * sum + toll.flow(i / 6, i % 6);
        }
        for (int i = 0; i < 7 * toll.state(3); i++) {
            sum = 31 * sum + toll.packet(i / 7, i % 7);
        }
        for (int i = 0; i < 4 * toll.state(4); i++) {
            sum = 31 * sum + toll.coupon(i / 4, i % 4);
        }
        for (int i = 0; i < toll.state(1) * toll.state(2); i++) {
            sum = 31 * sum + toll.tokens(i / toll.state(2), i % toll.state(2));
            sum = 31 * sum + toll.queue(i / toll.state(2), i % toll.state(2));
        }
        return sum;
    }
}

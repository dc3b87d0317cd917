/**
 * Each sentence of the document that names a boundary of the input buffer or of the setup text, in a test of its own:
 * promises 1 to 4 and the terms for setup text.
 */
public final class TextBoundariesTest {
    private static final int SYNTAX = PacketToll.SYNTAX_ERROR;
    private static final int RANGE = PacketToll.OUT_OF_RANGE;
    private static final int REPEATED = PacketToll.REPEATED;
    private static final int MANY = PacketToll.TOO_MANY;
    private static final int DEEP = PacketToll.TOO_DEEP;
    private static final Class<IllegalArgumentException> ARGUMENT = IllegalArgumentException.class;

    private static final String GATE = Worlds.GATE;
    private static final String SIX_GATES = Worlds.SIX_GATES;
    private static final String ONE_FLOW = Worlds.ONE_FLOW;

    public static void main(String[] args) {
        newObjectHasNoGatesAndNoText();
        nothingBeforeTheFirstLoad();
        appendTwentyBytesInTheirOrder();
        appendToTheFullBuffer();
        loadReadsTheFirstBytes();
        loadReplacesAllData();
        loadEmptiesTheBuffer();
        loadWithAnErrorLeavesTheData();
        loadOfNothing();
        loadAnswersTheNumberOfPackets();
        loadWithAWrongLength();
        errorOffsetOfTheLatestLoad();
        textOfSevenHundredBytes();
        onlyTollIsASetup();
        numbersOfAnyLength();
        wordsOfAToZ();
        longestRuns();
        spacesAroundTokens();
        noSpaceBetweenWordAndNumber();
        noOtherByteSeparates();
        gateNumbers();
        routeNumbers();
        routeLength();
        packetNumbers();
        couponNumbers();
        feeNumber();
        refundNumbers();
        refundWithoutStatement();
        thriftNumber();
        thriftWithoutWord();
        factorNumber();
        nestedParentheses();
        statementsThatOccurOnce();
        secondStatementOfAKind();
        errorCodes();
        endOfTheTextTooEarly();
        wrongTokens();
        numberOutsideItsRange();
        repeatedGate();
        tooManyStatements();
        fifthGateOfARoute();
        fifthOpenParenthesis();
        smallestOffsetCounts();
        sameOffsetFirstInTheListCounts();
        Checks.end("TextBoundariesTest");
    }

    private static void says(String where, String words) {
        Checks.says(where, words);
    }

    private static void due(String what, long got, long want) {
        Checks.due(what, got, want);
    }

    /** The answer of load to this text and the offset behind it; offset -1 for a text without an error. */
    private static PacketToll dueLoad(String text, int answer, int offset) {
        PacketToll toll = new PacketToll();
        due("load of " + text, Checks.load(toll, text), answer);
        due("errorOffset behind " + text, toll.errorOffset(), offset);
        return toll;
    }

    private static PacketToll dueRight(String text) {
        return dueLoad(text, 0, -1);
    }

    private static void dueSyntaxError(String text, int offset) {
        dueLoad(text, SYNTAX, offset);
    }

    /** The number between both parts is right from least to most, and out of range one beyond on each side. */
    private static void dueRange(String before, int least, int most, String after, int packets) {
        dueLoad(before + least + after, packets, -1);
        dueLoad(before + most + after, packets, -1);
        if (least > 0) {
            dueLoad(before + (least - 1) + after, RANGE, before.length());
        }
        dueLoad(before + (most + 1) + after, RANGE, before.length());
        dueLoad(before + " 00" + (most + 1) + after, RANGE, before.length() + 1);
        dueLoad(before + "4294967297" + after, RANGE, before.length());
        dueLoad(before + "18446744073709551617" + after, RANGE, before.length());
    }

    private static void newObjectHasNoGatesAndNoText() {
        says("Promise 1", "Creates an object without gates, with an empty input buffer.");
        PacketToll toll = new PacketToll();
        due("gates", toll.state(1), 0);
        Checks.dueThrow("load(1)", ARGUMENT, () -> toll.load(1));
        due("append", Checks.append(toll, "toll;", 0), 20);
        due("load", toll.load(20), 0);
    }

    private static void nothingBeforeTheFirstLoad() {
        says("Changes", "Before the first successful load there are no gates, flows, packets and coupons; the other "
                + "numbers are as without statements.");
        PacketToll toll = new PacketToll();
        due("a load that fails", Checks.load(toll, SIX_GATES + "flow 0;coupon 0 9 9;fee 7;fee"), SYNTAX);
        due("changes to undo", toll.undo(), -1);
        for (int what = 0; what <= 8; what++) {
            due("state(" + what + ")", toll.state(what), 0);
        }
        due("the fee", toll.state(9), 1);
        due("checksum", toll.checksum(), 1);
        due("pass", toll.pass(200), 0);
        due("the time", toll.state(0), 200);
        Class<IndexOutOfBoundsException> index = IndexOutOfBoundsException.class;
        Checks.dueThrow("gate(0, 0)", index, () -> toll.gate(0, 0));
        Checks.dueThrow("flow(0, 0)", index, () -> toll.flow(0, 0));
        Checks.dueThrow("route(0, 0)", index, () -> toll.route(0, 0));
        Checks.dueThrow("tokens(0, 0)", index, () -> toll.tokens(0, 0));
        Checks.dueThrow("queue(0, 0)", index, () -> toll.queue(0, 0));
        Checks.dueThrow("packet(0, 0)", index, () -> toll.packet(0, 0));
        Checks.dueThrow("coupon(0, 0)", index, () -> toll.coupon(0, 0));
        Checks.dueThrow("loadOver(0, 0, 1)", index, () -> toll.loadOver(0, 0, 1));
        Checks.dueThrow("curve(0, 1)", index, () -> toll.curve(0, 1));
        Checks.dueThrow("endsAt(0)", index, () -> toll.endsAt(0));
        Checks.dueThrow("billAfter(0, 0)", index, () -> toll.billAfter(0, 0));
        Checks.dueThrow("help(0)", index, () -> toll.help(0));
        Checks.dueThrow("forward(0, 0)", index, () -> toll.forward(0, 0));
        Checks.dueThrow("grant(0, 1, 1)", index, () -> toll.grant(0, 1, 1));
        Checks.dueThrow("send(0, 1)", index, () -> toll.send(0, 1));
        Checks.dueThrow("setThrift(0, 0)", index, () -> toll.setThrift(0, 0));
        due("undo of the pass", toll.undo(), 0);
        due("the time", toll.state(0), 0);
    }

    private static void appendTwentyBytesInTheirOrder() {
        says("Promise 2", "Appends 20 bytes to the input buffer: the 4 bytes of each argument, the most significant "
                + "byte first.");
        String text = "toll;               ";
        for (int wrong = 0; wrong < 20; wrong++) {
            for (char sign : new char[] {0, 127, 128, 255}) {
                StringBuilder spoiled = new StringBuilder(text);
                spoiled.setCharAt(wrong, sign);
                // a word that is cut short is wrong from its first letter on
                dueSyntaxError(spoiled.toString(), wrong < 4 ? 0 : wrong);
            }
        }
        PacketToll toll = new PacketToll();
        due("append", toll.append(0x746f6c6c, 0x3b666565, 0x30303030, 0x30303030, 0x3030373b), 20);
        due("load", toll.load(20), 0);
        due("the fee", toll.state(9), 7);
    }

    private static void appendToTheFullBuffer() {
        says("Promise 2", "Returns the new length of the buffer; -1 if it would exceed 700 bytes, and the buffer is "
                + "unchanged then.");
        String text = "toll;fee 3;" + " ".repeat(676) + "fee";
        PacketToll toll = new PacketToll();
        for (int i = 0; i < 34; i++) {
            due("append " + i, Checks.append(toll, text, 20 * i), 20 * i + 20);
        }
        due("append to 680 bytes", Checks.append(toll, text, 680), 700);
        due("append to 700 bytes", Checks.append(toll, "x", 0), -1);
        due("append again", toll.append(-1, -1, -1, -1, -1), -1);
        Checks.dueThrow("load(701)", ARGUMENT, () -> toll.load(701));
        due("load(700)", toll.load(700), SYNTAX);
        due("the bytes are what they were: a second fee at", toll.errorOffset(), 687);
        due("append behind that", Checks.append(toll, "x", 0), 20);
    }

    private static void loadReadsTheFirstBytes() {
        says("Promise 3", "Reads the first bytes of the input buffer as a setup text");
        String text = "toll;fee 12;fee 3;  ";
        int[] answers = {SYNTAX, SYNTAX, 0, SYNTAX, SYNTAX, SYNTAX, SYNTAX, 0, SYNTAX};
        int[] lengths = {0, 4, 5, 6, 10, 11, 8, 12, 18};
        int[] offsets = {0, 4, -1, 5, 10, 11, 8, -1, 12};
        for (int i = 0; i < answers.length; i++) {
            PacketToll toll = new PacketToll();
            Checks.put(toll, text);
            due("load(" + lengths[i] + ")", toll.load(lengths[i]), answers[i]);
            due("errorOffset", toll.errorOffset(), offsets[i]);
        }
    }

    private static void loadReplacesAllData() {
        says("Promise 3", "replaces all data by it; the time is 0.");
        String next = "toll;gate 0 9 1;gate 0 1 1;flow 0 1;packet 0 0 9;packet 0 1 8;coupon 0 8 9;";
        dueReplaced(next, 4);
        dueReplaced(next + "fee 3;refund 25 3;price 3-wait+size;", 2);
    }

    /** Behind much else this text makes an object what it makes a new one; its one refund has this value. */
    private static void dueReplaced(String next, int refund) {
        PacketToll tried = Checks.tollAt(9, "toll;gate 9 9 9;gate 3 4 5;flow 0 1 thrift 7;flow 1;packet 0 0 5;packet 0 1 20;"
                + "packet 1 0 9;packet 1 3 999;coupon 1 30 2;coupon 0 40 99;fee 9;refund 7 8;price 5*size;");
        due("there were passages", tried.loadOver(0, 0, 9), 14);
        due("load", Checks.load(tried, next), 2);
        due("the time", tried.state(0), 0);
        PacketToll other = Checks.tollWith(next);
        Answers.dueSame("as a new object answers", Answers.of(tried), Answers.of(other));
        Checks.passTo(tried, 4);
        Checks.passTo(other, 4);
        due("the refund", tried.coupon(0, 1), refund);
        Answers.dueSame("as a new object answers at 4", Answers.of(tried), Answers.of(other));
    }

    private static void loadEmptiesTheBuffer() {
        says("Promise 3", "The input buffer is empty afterwards, also if the text has an error.");
        for (int length : new int[] {0, 3, 5, 12, 40}) {
            PacketToll toll = new PacketToll();
            Checks.put(toll, "toll;fee 12;fee 3;                 x");
            due("load(" + length + ")", toll.load(length), length == 5 || length == 12 ? 0 : SYNTAX);
            Checks.dueThrow("load(1) behind it", ARGUMENT, () -> toll.load(1));
            due("append behind it", Checks.append(toll, "toll;fee 5;", 0), 20);
            due("load of that", toll.load(20), 0);
            due("the fee", toll.state(9), 5);
        }
    }

    private static void loadWithAnErrorLeavesTheData() {
        says("Promise 3", "An error leaves all other data unchanged.");
        String past = "toll;gate 2 9 9;gate 3 4 5;flow 0 1 thrift 7;flow 1;packet 0 0 5;packet 0 1 20;packet 1 9 2;"
                + "coupon 1 30 20;coupon 0 40 99;fee 9;refund 7 8;price 5*size;";
        String next = "toll;gate 5 5 5;flow 0 thrift 3;packet 0 0 3;coupon 0 2 3;fee 2;refund 1 1;price 3;";
        String[] errors = {"x", "gate 1 1 0;", "flow 0 0;", "gate 1 1 1;gate 1 1 1;gate 1 1 1;gate 1 1 1;gate 1 1 1;gate",
            "packet 0 0 3"};
        int[] codes = {SYNTAX, RANGE, REPEATED, MANY, SYNTAX};
        for (int i = 0; i < errors.length; i++) {
            dueLeft(past, next + errors[i], codes[i]);
        }
        dueLeft(past, next.replace("price 3;", "price (((((1;"), DEEP);
        dueLeft(past, "", SYNTAX);
    }

    private static void dueLeft(String past, String wrong, int code) {
        PacketToll tried = Checks.tollAt(3, past);
        tried.grant(1, 5, 5);
        PacketToll other = Checks.tollAt(3, past);
        other.grant(1, 5, 5);
        due("load of " + wrong, Checks.load(tried, wrong), code);
        Checks.load(other, "");
        other.append(0, 0, 0, 0, 0);
        other.load(0);
        Answers.dueSame("behind the error in " + wrong, Answers.of(tried), Answers.of(other));
        for (int left = 2; left >= -1; left--) {
            due("undo behind the error in " + wrong, tried.undo(), left);
            other.undo();
            Answers.dueSame("behind the error in " + wrong, Answers.of(tried), Answers.of(other));
        }
    }

    private static void loadOfNothing() {
        says("Promise 3", "An empty text has a SYNTAX_ERROR.");
        PacketToll toll = new PacketToll();
        due("load(0) of an empty buffer", toll.load(0), SYNTAX);
        due("errorOffset", toll.errorOffset(), 0);
        Checks.put(toll, "toll;");
        due("load(0) of a buffer with a text", toll.load(0), SYNTAX);
        due("errorOffset", toll.errorOffset(), 0);
        due("append behind it", Checks.append(toll, "toll;", 0), 20);
        dueSyntaxError(" ", 1);
        dueSyntaxError(" ".repeat(700), 700);
    }

    private static void loadAnswersTheNumberOfPackets() {
        says("Promise 3", "Returns the number of packets; or the error code of the first error.");
        dueLoad("toll;", 0, -1);
        dueLoad(ONE_FLOW, 0, -1);
        dueLoad(ONE_FLOW + "packet 0 0 1;", 1, -1);
        dueLoad(ONE_FLOW + "packet0 0 1;".repeat(40), 40, -1);
        dueLoad(ONE_FLOW + "packet0 0 1;".repeat(41), MANY, ONE_FLOW.length() + 40 * 12);
    }

    private static void loadWithAWrongLength() {
        says("Promise 3", "Throws `IllegalArgumentException` if length is negative or greater than the length of the "
                + "buffer; the buffer is unchanged then");
        PacketToll empty = new PacketToll();
        for (int length : new int[] {-1, 1, 700, Integer.MIN_VALUE, Integer.MAX_VALUE}) {
            Checks.dueThrow("load(" + length + ") of an empty buffer", ARGUMENT, () -> empty.load(length));
        }
        due("append behind that", Checks.append(empty, "toll;fee 4;", 0), 20);
        for (int length : new int[] {-1, 21, 700, Integer.MIN_VALUE, Integer.MAX_VALUE}) {
            Checks.dueThrow("load(" + length + ") of 20 bytes", ARGUMENT, () -> empty.load(length));
        }
        due("append behind that", Checks.append(empty, "                fee5", 0), 40);
        due("load(40)", empty.load(40), SYNTAX);
        due("both pieces were there: a second fee at", empty.errorOffset(), 36);
        PacketToll full = new PacketToll();
        Checks.put(full, "toll;fee 6;" + " ".repeat(689));
        Checks.dueThrow("load(701) of 700 bytes", ARGUMENT, () -> full.load(701));
        due("load(700)", full.load(700), 0);
        due("the fee", full.state(9), 6);
    }

    private static void errorOffsetOfTheLatestLoad() {
        says("Promise 4", "Returns the offset of the error found by the latest call of load that did not throw; -1 if it "
                + "found none or if there was no such call.");
        PacketToll toll = new PacketToll();
        due("no call yet", toll.errorOffset(), -1);
        Checks.dueThrow("load(1)", ARGUMENT, () -> toll.load(1));
        due("no call that did not throw", toll.errorOffset(), -1);
        Checks.load(toll, "toll;x");
        due("an error", toll.errorOffset(), 5);
        Checks.put(toll, "toll;");
        Checks.dueThrow("load(21)", ARGUMENT, () -> toll.load(21));
        due("a call that threw behind the error", toll.errorOffset(), 5);
        due("load", toll.load(5), 0);
        due("none found", toll.errorOffset(), -1);
        Checks.dueThrow("load(-1)", ARGUMENT, () -> toll.load(-1));
        due("a call that threw behind a right text", toll.errorOffset(), -1);
        Checks.load(toll, "toll;" + " ".repeat(694) + "x");
        due("an error in the last byte", toll.errorOffset(), 699);
        toll.undo();
        due("undo does not touch it", toll.errorOffset(), 699);
        toll.load(0);
        due("an error at 0", toll.errorOffset(), 0);
    }

    private static void textOfSevenHundredBytes() {
        says("Setup text", "The setup text is read from an input buffer of at most 700 bytes.");
        PacketToll toll = dueRight("toll;" + " ".repeat(689) + "fee 5;");
        due("the fee", toll.state(9), 5);
        dueSyntaxError("toll;" + " ".repeat(690) + "fee 5", 700);
        dueRight("toll;price size" + "+1".repeat(342) + ";");
        dueSyntaxError("toll;price size" + "+1".repeat(342) + "+", 700);
        dueRight("toll;price (1)" + "*(1)".repeat(171) + " ;");
    }

    private static void onlyTollIsASetup() {
        says("Setup text", "setup = \"toll\" \";\" { statement \";\" }");
        PacketToll toll = dueRight("toll;");
        for (int what = 0; what <= 8; what++) {
            due("state(" + what + ")", toll.state(what), 0);
        }
        due("the fee", toll.state(9), 1);
        dueSyntaxError("toll", 4);
        dueSyntaxError(";", 0);
        dueSyntaxError("gate 1 1 1;", 0);
        dueSyntaxError("toll;;", 5);
        dueSyntaxError("toll;toll;", 5);
        dueSyntaxError("tollfee 1;", 0);
        dueSyntaxError("toll fee 1;", 5);
    }

    private static void numbersOfAnyLength() {
        says("Setup text", "A number is a run of decimal digits, of any length (leading zeros do not matter)");
        due("689 zeros before 7", dueRight("toll;fee " + "0".repeat(689) + "7;").state(9), 7);
        due("690 zeros", dueRight("toll;fee " + "0".repeat(690) + ";").state(9), 0);
        dueLoad("toll;fee " + "9".repeat(690) + ";", RANGE, 9);
        dueLoad("toll;fee 1" + "0".repeat(689) + ";", RANGE, 9);
        dueLoad("toll;fee 100000000;", RANGE, 9);
        dueLoad("toll;fee 2147483648;", RANGE, 9);
        dueLoad("toll;fee 4294967295;", RANGE, 9);
        dueLoad("toll;fee 4294967296;", RANGE, 9);
        dueLoad("toll;fee 9223372036854775808;", RANGE, 9);
        dueLoad("toll;fee 18446744073709551616;", RANGE, 9);
        dueLoad(ONE_FLOW + "packet 0 0 000;", RANGE, ONE_FLOW.length() + 11);
    }

    private static void wordsOfAToZ() {
        says("Setup text", "a word is a run of the letters a to z.");
        dueSyntaxError("Toll;", 0);
        dueSyntaxError("tolL;", 0);
        dueSyntaxError("toll;FEE 1;", 5);
        dueSyntaxError("toll;fe_e 1;", 5);
        // the bytes before a and behind z are in no word, so the word ends before them
        dueSyntaxError("toll;fee`1;", 8);
        dueSyntaxError("toll;fee{1;", 8);
        dueSyntaxError("toll;price wait;price{", 16);
    }

    private static void longestRuns() {
        says("Setup text", "Each run is as long as possible.");
        dueSyntaxError("tolls;", 0);
        dueSyntaxError("tol l;", 0);
        dueSyntaxError("toll;fees 1;", 5);
        dueSyntaxError("toll;pricesize;", 5);
        dueSyntaxError("toll;price sizegate;", 11);
        dueSyntaxError(ONE_FLOW + "flow 0 thriftthrift 1;", ONE_FLOW.length() + 7);
        due("12 is no 1 and 2", dueRight("toll;gate 12 34 5;").gate(0, 1), 34);
        dueSyntaxError("toll;gate 12;", 12);
    }

    private static void spacesAroundTokens() {
        says("Setup text", "Spaces (byte 32) may precede any token and may follow the last one");
        String text = "  toll ; gate  1 2 3 ;flow 0  thrift  4 ; packet 0 5  6 ; coupon 0 7 8; fee 9 ; refund 10 11;"
                + " price ( size + 2 ) * ( 3 - gate ) / spent  - wait ;    ";
        dueLoad(text, 1, -1);
        dueLoad(text.replace(" ", "   "), 1, -1);
        dueLoad(" ".repeat(695) + "toll;", 0, -1);
        dueLoad("toll;" + " ".repeat(695), 0, -1);
        // but not inside a token
        dueSyntaxError("to ll;", 0);
        dueSyntaxError("toll;fee 1 2;", 11);
    }

    private static void noSpaceBetweenWordAndNumber() {
        says("Setup text", "a word and a number side by side need none between them.");
        String text = "toll;gate1 2 3;flow0thrift4;packet0 5 6;coupon0 7 8;fee9;refund10 11;price2*size;";
        PacketToll toll = dueLoad(text, 1, -1);
        due("rate", toll.gate(0, 0), 1);
        due("thrift", toll.flow(0, 1), 4);
        due("start", toll.packet(0, 1), 5);
        due("value", toll.coupon(0, 1), 7);
        due("fee", toll.state(9), 9);
        dueSyntaxError("toll;price 2size;", 12);
    }

    private static void noOtherByteSeparates() {
        says("Setup text", "No other byte separates tokens.");
        for (char sign = 0; sign < 256; sign++) {
            String text = "toll;fee" + sign + "7;";
            if (sign == ' ' || sign >= '0' && sign <= '9') {
                due("fee for byte " + (int) sign, dueRight(text).state(9), sign == ' ' ? 7 : (sign - '0') * 10 + 7);
            } else {
                // a letter makes the word another one, any other byte stands where a number is due
                dueSyntaxError(text, sign >= 'a' && sign <= 'z' ? 5 : 8);
            }
            dueLoad("toll;" + sign, sign == ' ' ? 0 : SYNTAX, sign == ' ' ? -1 : 5);
        }
    }

    private static void gateNumbers() {
        says("Setup text", "The numbers of gate are its rate, its depth and its room");
        dueSyntaxError("toll;gate 1 2;", 13);
        dueSyntaxError("toll;gate 1 2 3 4;", 16);
        says("Gates, flows and packets", "A gate has a rate (0 to 99), a depth (1 to 999) and room (1 to 20).");
        dueRange("toll;gate ", 0, 99, " 5 5;", 0);
        dueRange("toll;gate 5 ", 1, 999, " 5;", 0);
        dueRange("toll;gate 5 5 ", 1, 20, ";", 0);
        PacketToll toll = dueRight("toll;gate 0 1 1;gate 99 999 20;");
        int[] want = {0, 1, 1, 99, 999, 20};
        for (int i = 0; i < 6; i++) {
            due("gate(" + i / 3 + ", " + i % 3 + ")", toll.gate(i / 3, i % 3), want[i]);
        }
    }

    private static void routeNumbers() {
        says("Setup text", "those of flow the gates of its route, which were told before");
        dueLoad("toll;flow 0;", RANGE, 10);
        dueLoad("toll;flow 0;gate 1 1 1;", RANGE, 10);
        dueRange("toll;gate 1 1 1;flow ", 0, 0, ";", 0);
        dueRange("toll;gate 1 1 1;gate 1 1 1;flow ", 0, 1, ";", 0);
        dueRange(SIX_GATES + "flow ", 0, 5, ";", 0);
        dueRight(SIX_GATES + "flow 3 0 5;");
        dueLoad(SIX_GATES + "flow 3 0 6;", RANGE, SIX_GATES.length() + 9);
        dueLoad("toll;gate 1 1 1;flow 0;gate 1 1 1;flow 1 0;", 0, -1);
        dueLoad("toll;gate 1 1 1;flow 0 1;gate 1 1 1;", RANGE, 23);
    }

    private static void routeLength() {
        says("Gates, flows and packets", "A flow has a route (1 to 4 different gates, in an order)");
        dueSyntaxError(SIX_GATES + "flow;", SIX_GATES.length() + 4);
        dueSyntaxError(SIX_GATES + "flow thrift 1;", SIX_GATES.length() + 5);
        PacketToll toll = dueRight(SIX_GATES + "flow 5;flow 5 0 4 1;");
        due("places of the shortest route", toll.flow(0, 0), 1);
        due("places of the longest route", toll.flow(1, 0), 4);
        int[] want = {5, 0, 4, 1};
        for (int place = 0; place < 4; place++) {
            due("route(1, " + place + ")", toll.route(1, place), want[place]);
        }
        dueLoad(SIX_GATES + "flow 5 0 4 1 2;", MANY, SIX_GATES.length() + 13);
    }

    private static void packetNumbers() {
        says("Setup text", "those of packet a flow that was told before, the start and the size");
        dueLoad("toll;gate 1 1 1;packet 0 0 1;flow 0;", RANGE, 23);
        dueLoad("toll;packet 0 0 1;", RANGE, 12);
        dueRange("toll;gate1 1 1;" + "flow0;".repeat(6) + "packet ", 0, 5, " 5 5;", 1);
        dueRange(ONE_FLOW + "packet ", 0, 0, " 5 5;", 1);
        says("Gates, flows and packets", "A packet has a flow, a start (0 to 999) and a size (1 to 999).");
        dueRange(ONE_FLOW + "packet 0 ", 0, 999, " 5;", 1);
        dueRange(ONE_FLOW + "packet 0 5 ", 1, 999, ";", 1);
        PacketToll toll = dueLoad(ONE_FLOW + "packet 0 0 1;packet 0 999 999;", 2, -1);
        Checks.duePacket(toll, 0, 0, 0, 1);
        Checks.duePacket(toll, 1, 0, 999, 999);
    }

    private static void couponNumbers() {
        says("Setup text", "those of coupon a flow that was told before, the value and the end (1 to 9999).");
        dueLoad("toll;gate 1 1 1;coupon 0 1 1;flow 0;", RANGE, 23);
        dueRange("toll;gate1 1 1;" + "flow0;".repeat(6) + "coupon ", 0, 5, " 5 5;", 0);
        dueRange(ONE_FLOW + "coupon 0 ", 1, 9999, " 5;", 0);
        dueRange(ONE_FLOW + "coupon 0 5 ", 1, 9999, ";", 0);
        PacketToll toll = dueRight(ONE_FLOW + "coupon 0 1 1;coupon 0 9999 9999;");
        Checks.dueCoupon(toll, 0, 0, 1, 1, 0);
        Checks.dueCoupon(toll, 1, 0, 9999, 9999, 0);
    }

    private static void feeNumber() {
        says("Setup text", "fee is 0 to 99 (1 without it)");
        dueRange("toll;fee ", 0, 99, ";", 0);
        due("the smallest", dueRight("toll;fee 0;").state(9), 0);
        due("the greatest", dueRight("toll;fee 99;").state(9), 99);
        due("without it", dueRight("toll;").state(9), 1);
        PacketToll toll = dueRight("toll;fee 9;");
        Checks.load(toll, "toll;");
        due("without it behind a text with it", toll.state(9), 1);
    }

    private static void refundNumbers() {
        says("Setup text", "the numbers of refund are its percent (0 to 100) and its ticks (1 to 999)");
        dueRange("toll;refund ", 0, 100, " 5;", 0);
        dueRange("toll;refund 5 ", 1, 999, ";", 0);
        dueSyntaxError("toll;refund 5;", 13);
    }

    private static void refundWithoutStatement() {
        says("Setup text", "without it they are 50 and 10.");
        Checks.dueCoupon(Checks.tollAt(3, Worlds.dropped(9)), 0, 0, 4, 12, 0);
        Checks.dueCoupon(Checks.tollAt(3, Worlds.dropped(200)), 0, 0, 100, 12, 0);
        due("nothing of 1", Checks.tollAt(3, Worlds.dropped(1)).state(4), 0);
        Checks.dueCoupon(Checks.tollAt(3, Worlds.dropped(9) + "refund 100 999;"), 0, 0, 9, 1001, 0);
    }

    private static void thriftNumber() {
        says("Gates, flows and packets", "a thrift (0 to 99 ticks) and a bill (0 at first)");
        dueRange("toll;gate 1 1 1;flow 0 thrift ", 0, 99, ";", 0);
        PacketToll toll = dueRight("toll;gate 1 1 1;flow 0 thrift 0;flow 0 thrift 99;");
        due("the smallest", toll.flow(0, 1), 0);
        due("the greatest", toll.flow(1, 1), 99);
        due("the bill", toll.flow(0, 2), 0);
        due("the other bill", toll.flow(1, 2), 0);
        dueSyntaxError("toll;gate 1 1 1;flow 0 thrift;", 29);
    }

    private static void thriftWithoutWord() {
        says("Setup text", "thrift is 0 without it.");
        PacketToll toll = dueRight("toll;gate 1 1 1;flow 0 thrift 9;flow 0;");
        due("the thrift", toll.flow(1, 1), 0);
    }

    private static void factorNumber() {
        says("Setup text", "A number as a factor is 0 to 9999.");
        dueRange("toll;price ", 0, 9999, ";", 0);
        dueRange("toll;price size-(gate*", 0, 9999, ");", 0);
    }

    private static void nestedParentheses() {
        says("Setup text", "Parentheses nest at most 4 deep.");
        dueRight("toll;price ((((1))));");
        dueRight("toll;price ((((1))))*((((2))))-(((3)));");
        dueRight("toll;price (1+(2+(3+(4))+(5+(6)))+(7));");
        // a sum and a term are open in each of the five
        Worlds.duePrice("1+1*(1+1*(1+1*(1+1*(1+1*size))))", 12);
        Worlds.duePrice("90-2*(8-1*(7-1*(6-1*(5-1*size))))", 72);
        dueLoad("toll;price (((((1)))));", DEEP, 15);
        dueLoad("toll;price ((((1))+((2+(3)))));", DEEP, 23);
    }

    private static void statementsThatOccurOnce() {
        says("Setup text", "The statements fee, refund and price may each occur once.");
        dueRight("toll;price 1;refund 1 1;fee 1;");
        dueSyntaxError("toll;fee 1;refund 1 1;price 1;  fee 1;", 32);
        dueSyntaxError("toll;fee 1;refund 1 1;price 1;  refund 1 1;", 32);
        dueSyntaxError("toll;fee 1;refund 1 1;price 1;  price 1;", 32);
        PacketToll toll = dueRight("toll;fee 1;refund 1 1;price 1;");
        due("each once more in the next text", Checks.load(toll, "toll;fee 2;refund 2 2;price 2;"), 0);
        Checks.load(toll, "toll;fee 2;refund 2 2;price 2;!");
        due("and behind a text with an error", Checks.load(toll, "toll;fee 2;refund 2 2;price 2;"), 0);
    }

    private static void secondStatementOfAKind() {
        says("SYNTAX_ERROR", "a second statement of a kind that may occur once, at its first letter.");
        for (String one : new String[] {"fee 1;", "refund 1 1;", "price 1;"}) {
            String first = "toll;" + one;
            String word = one.replaceAll("[^a-z].*", "");
            dueSyntaxError(first + one, first.length());
            dueSyntaxError(first + "   " + one, first.length() + 3);
            dueSyntaxError(first + GATE + one, first.length() + GATE.length());
            dueSyntaxError(first + word, first.length());
            dueSyntaxError(first + word + " 100000;", first.length());
            dueSyntaxError(first + word + " (((((", first.length());
        }
    }

    private static void errorCodes() {
        says("SYNTAX_ERROR = -2", "Error code of load: the text does not follow the grammar.");
        dueLoad("toll;fee;", -2, 8);
        says("OUT_OF_RANGE = -3", "Error code of load: a number is not allowed.");
        dueLoad("toll;fee 100;", -3, 9);
        says("REPEATED = -4", "Error code of load: a gate is told twice for a route.");
        dueLoad(SIX_GATES + "flow 1 1;", -4, SIX_GATES.length() + 7);
        says("TOO_MANY = -5", "Error code of load: too many gates, flows, packets or coupons.");
        dueLoad(SIX_GATES + GATE, -5, SIX_GATES.length());
        says("TOO_DEEP = -6", "Error code of load: parentheses are nested too deeply.");
        dueLoad("toll;price (((((1)))));", -6, 15);
    }

    private static boolean isLetter(char sign) {
        return sign >= 'a' && sign <= 'z';
    }

    private static void endOfTheTextTooEarly() {
        says("SYNTAX_ERROR", "the end of the text, at its length, if the text ends too early");
        String text = "toll;gate 11 12 13;flow 0 thrift 14;packet 0 15 16;coupon 0 17 18;fee 19;refund 20 21;"
                + "price ((size+2)*gate-spent)/wait;";
        for (int length = 0; length <= text.length(); length++) {
            int word = length;
            while (word > 0 && isLetter(text.charAt(word - 1))) {
                word--;
            }
            boolean cut = word < length && length < text.length() && isLetter(text.charAt(length));
            String part = text.substring(0, length);
            if (part.endsWith(";")) {
                dueLoad(part, part.contains("16;") ? 1 : 0, -1);
            } else {
                // a word that is cut is another word, and wrong from its first letter on
                dueSyntaxError(part, cut ? word : length);
                dueSyntaxError(part + "   ", cut ? word : length + 3);
            }
        }
    }

    private static void wrongTokens() {
        says("SYNTAX_ERROR", "a token or byte that the grammar does not allow here, at its first byte");
        dueSyntaxError("toll;  gate 1 1;", 15);
        dueSyntaxError("toll;gate 1 1  ;", 15);
        dueSyntaxError("toll;gate 1 1 1 12;", 16);
        dueSyntaxError("toll;gate 1 1 one;", 14);
        dueSyntaxError("toll;gate 1-1 1;", 11);
        dueSyntaxError("toll;12;", 5);
        dueSyntaxError("soll;", 0);
        dueSyntaxError("toll;late 1 1 1;", 5);
        dueSyntaxError("toll;gave 1 1 1;", 5);
        dueSyntaxError("toll;price sized;", 11);
        dueSyntaxError("toll;price bait;", 11);
        dueSyntaxError("toll;thrift 1;", 5);
        dueSyntaxError("toll;size;", 5);
        dueSyntaxError("toll;price;", 10);
        dueSyntaxError("toll;price +1;", 11);
        dueSyntaxError("toll;price 1-;", 13);
        dueSyntaxError("toll;price 1--1;", 13);
        dueSyntaxError("toll;price ();", 12);
        dueSyntaxError("toll;price (1;", 13);
        dueSyntaxError("toll;price 1);", 12);
        dueSyntaxError("toll;price (1))", 14);
        dueSyntaxError("toll;price 1(2);", 12);
        dueSyntaxError("toll;price 1%2;", 12);
        dueSyntaxError("toll;price thrift;", 11);
        dueSyntaxError("toll;price 1 gate 1 1 1;", 13);
        dueSyntaxError(ONE_FLOW + "flow 0,0;", ONE_FLOW.length() + 6);
        dueSyntaxError(ONE_FLOW + "flow 0 wait 1;", ONE_FLOW.length() + 7);
    }

    private static void numberOutsideItsRange() {
        says("OUT_OF_RANGE", "a number outside its range, at its first digit.");
        dueLoad("toll;gate   0100   1 1;", RANGE, 12);
        dueLoad("toll;gate 1   0 1;", RANGE, 14);
        dueLoad("toll;gate 1 1 21", RANGE, 14);
        dueLoad("toll;fee100", RANGE, 8);
        dueLoad("toll;refund 101", RANGE, 12);
        dueLoad("toll;price (1+0010000", RANGE, 14);
    }

    private static void repeatedGate() {
        says("REPEATED", "a gate that is in the route of the flow already, at its first digit.");
        int at = SIX_GATES.length();
        dueLoad(SIX_GATES + "flow 3 3;", REPEATED, at + 7);
        dueLoad(SIX_GATES + "flow 0 00;", REPEATED, at + 7);
        dueLoad(SIX_GATES + "flow 5 4 3   5 x", REPEATED, at + 13);
        dueLoad(SIX_GATES + "flow 5 4 3 3", REPEATED, at + 11);
        // another flow may have it too
        dueLoad(SIX_GATES + "flow 5 4 3 2;flow 5 4 3 2;", 0, -1);
    }

    private static void tooManyStatements() {
        says("TOO_MANY", "a 7th gate, a 7th flow, a 41st packet or a 31st coupon, at the first letter of its statement");
        dueMany("toll;", GATE, 6, 0);
        dueMany("toll;" + GATE, "flow 0;", 6, 0);
        dueMany(ONE_FLOW, "packet0 0 1;", 40, 40);
        dueMany(ONE_FLOW, "coupon0 1 1;", 30, 0);
    }

    /** So many of the statement are right, and load answers with the number of packets; the next one is not right. */
    private static void dueMany(String before, String one, int most, int packets) {
        String full = before + one.repeat(most);
        dueLoad(full, packets, -1);
        dueLoad(full + "fee 1;refund 1 1;price 1;", packets, -1);
        String word = one.replaceAll("[^a-z].*", "");
        dueLoad(full + one, MANY, full.length());
        dueLoad(full + "  " + one, MANY, full.length() + 2);
        dueLoad(full + word, MANY, full.length());
        dueLoad(full + word + "!", MANY, full.length());
        dueLoad(full + word + " 999 x", MANY, full.length());
    }

    private static void fifthGateOfARoute() {
        says("TOO_MANY", "a 5th gate of a route, at its first digit.");
        String four = SIX_GATES + "flow 5 4 3 2";
        dueLoad(four + ";", 0, -1);
        dueLoad(four + " thrift 1;", 0, -1);
        dueLoad(four + " 1;", MANY, four.length() + 1);
        dueLoad(four + "   001 0 0", MANY, four.length() + 3);
        dueSyntaxError(four + " thrift 1 0;", four.length() + 10);
    }

    private static void fifthOpenParenthesis() {
        says("TOO_DEEP", "an opening parenthesis inside 4 others, at that parenthesis.");
        dueLoad("toll;price ( ( ( (  (", DEEP, 20);
        dueLoad("toll;price ((((1+(2)))));", DEEP, 17);
        dueLoad("toll;price ((((1)*2)+(((3", DEEP, 23);
        dueLoad("toll;price " + "(".repeat(689), DEEP, 15);
        dueLoad("toll;price ()((((", SYNTAX, 12);
    }

    private static void smallestOffsetCounts() {
        says("Setup text", "The first error in the text is the one with the smallest offset.");
        dueLoad("toll;gate 100 1 0 x;", RANGE, 10);
        dueLoad(SIX_GATES + "gate 1 1 1;x", MANY, SIX_GATES.length());
        dueLoad(ONE_FLOW + "flow 0 0 9 x", REPEATED, ONE_FLOW.length() + 7);
        dueLoad("toll;price (((((10000;x", DEEP, 15);
        dueLoad("toll;price 10000*(((((", RANGE, 11);
        dueLoad("toll;fee x;fee 100;", SYNTAX, 9);
        dueLoad("toll;fee 100;!", RANGE, 9);
        dueLoad("!toll;fee 100;", SYNTAX, 0);
    }

    private static void sameOffsetFirstInTheListCounts() {
        says("Setup text", "If several kinds of error have the same offset, the first one in this list counts:");
        int at = SIX_GATES.length();
        // no number may stand here: not its range, not its repetition and not the length of the route counts
        dueSyntaxError("toll;gate 1 1 1 1000;", 16);
        dueSyntaxError("toll;fee 1 100;", 11);
        dueSyntaxError("toll;price 1 10000;", 13);
        dueSyntaxError(SIX_GATES + "flow 3 thrift 1 3;", at + 16);
        dueSyntaxError(SIX_GATES + "flow 3 thrift 1 9;", at + 16);
        dueSyntaxError(SIX_GATES + "flow 1 2 3 4 thrift 1 5;", at + 22);
        // no statement may begin here
        dueSyntaxError(SIX_GATES + "fee gate;", at + 4);
        dueSyntaxError(SIX_GATES + "fee 1 gate 1 1 1;", at + 6);
        // no parenthesis may open here
        dueSyntaxError("toll;price ((((1(", 16);
        dueSyntaxError("toll;price ((((1 (2)))));", 17);
        // a 5th gate that is out of range or repeated
        dueLoad(SIX_GATES + "flow 1 2 3 4 6;", RANGE, at + 13);
        dueLoad(SIX_GATES + "flow 1 2 3 4 1;", REPEATED, at + 13);
        dueLoad(SIX_GATES + "flow 1 2 3 4 4;", REPEATED, at + 13);
        dueLoad(SIX_GATES + "flow 1 2 3 4 0;", MANY, at + 13);
    }
}

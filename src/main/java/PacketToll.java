import java.util.Arrays;
import java.util.NoSuchElementException;

/** Toll gates in series for packets; ../shared/DOC.md says what each call answers. */
public final class PacketToll {
    public static final int SYNTAX_ERROR = -2;
    public static final int OUT_OF_RANGE = -3;
    public static final int REPEATED = -4;
    public static final int TOO_MANY = -5;
    public static final int TOO_DEEP = -6;

    private static final int MOST_BYTES = 700;
    private static final int MOST_GATES = 6;
    private static final int MOST_FLOWS = 6;
    private static final int MOST_PLACES = 4;
    private static final int MOST_PACKETS = 40;
    private static final int MOST_COUPONS = 30;
    private static final int MOST_PASSAGES = 40;
    private static final int MOST_UNDONE = 8;
    private static final int MOST_NESTED = 4;
    private static final int MOST_FORWARDED = 2;
    private static final int LAST_TIME = 9999;
    private static final int FORESIGHT = 500;
    private static final int NEVER = 1000000;

    private final SetupReader reader = new SetupReader();
    private final World world = new World();
    private final World trial = new World();
    private final History history = new History();
    private int errorAt = -1;

    public PacketToll() {
    }

    public int append(int w0, int w1, int w2, int w3, int w4) {
        SetupText buffer = reader.text;
        if (buffer.held > MOST_BYTES - 20) {
            return -1;
        }
        buffer.put(w0);
        buffer.put(w1);
        buffer.put(w2);
        buffer.put(w3);
        buffer.put(w4);
        return buffer.held;
    }

    public int load(int length) throws IllegalArgumentException {
        if (length < 0 || length > reader.text.held) {
            throw new IllegalArgumentException("length");
        }
        reader.read(length);
        reader.text.held = 0;
        errorAt = reader.errorAt;
        if (reader.error != 0) {
            return reader.error;
        }
        history.keep(world);
        world.copyFrom(reader.draft);
        return world.packets.count;
    }

    public int errorOffset() {
        return errorAt;
    }

    public int state(int what) throws IllegalArgumentException {
        switch (what) {
            case 0: return world.time;
            case 1: return world.gates.count;
            case 2: return world.flows.count;
            case 3: return world.packets.count;
            case 4: return world.coupons.count;
            case 5: return world.packets.countIn(Packets.DELIVERED);
            case 6: return world.packets.countIn(Packets.DROPPED);
            case 7: return world.expired;
            case 8: return world.spentInAll;
            case 9: return world.fee;
            default: throw new IllegalArgumentException("what");
        }
    }

    public int gate(int gate, int what) throws IndexOutOfBoundsException, IllegalArgumentException {
        checkGate(gate);
        switch (what) {
            case 0: return world.gates.rate[gate];
            case 1: return world.gates.depth[gate];
            case 2: return world.gates.room[gate];
            default: throw new IllegalArgumentException("what");
        }
    }

    public int flow(int flow, int what) throws IndexOutOfBoundsException, IllegalArgumentException {
        checkFlow(flow);
        switch (what) {
            case 0: return world.flows.places[flow];
            case 1: return world.flows.thrift[flow];
            case 2: return world.flows.bill[flow];
            case 3: return world.coupons.countOf(flow);
            case 4: return world.coupons.sumOf(flow);
            case 5: return world.packets.deliveredSizeOf(flow);
            default: throw new IllegalArgumentException("what");
        }
    }

    public int route(int flow, int place) throws IndexOutOfBoundsException, NoSuchElementException {
        checkFlow(flow);
        int gate = world.flows.gateAt(flow, place);
        if (gate < 0) {
            throw new NoSuchElementException("place");
        }
        return gate;
    }

    public int tokens(int gate, int flow) throws IndexOutOfBoundsException {
        checkGate(gate);
        checkFlow(flow);
        return world.lines.tokens[gate * MOST_FLOWS + flow];
    }

    public int queue(int gate, int flow) throws IndexOutOfBoundsException {
        checkGate(gate);
        checkFlow(flow);
        return world.lines.waiting[gate * MOST_FLOWS + flow];
    }

    public int packet(int packet, int what) throws IndexOutOfBoundsException, IllegalArgumentException {
        checkPacket(packet);
        switch (what) {
            case 0: return world.packets.flow[packet];
            case 1: return world.packets.start[packet];
            case 2: return world.packets.size[packet];
            case 3: return world.packets.state[packet];
            case 4: return world.gateOf(packet);
            case 5: return world.packets.spent[packet];
            case 6: return world.packets.ended[packet];
            default: throw new IllegalArgumentException("what");
        }
    }

    public int coupon(int coupon, int what) throws IndexOutOfBoundsException, IllegalArgumentException {
        checkCoupon(coupon);
        switch (what) {
            case 0: return world.coupons.flow[coupon];
            case 1: return world.coupons.value[coupon];
            case 2: return world.coupons.end[coupon];
            case 3: return world.coupons.forwarded[coupon];
            default: throw new IllegalArgumentException("what");
        }
    }

    public int loadOver(int gate, int flow, int ticks) throws IndexOutOfBoundsException, IllegalArgumentException {
        checkGate(gate);
        checkFlow(flow);
        checkRange(ticks, 1, 999);
        return world.passages.greatestLoad(gate, flow, ticks);
    }

    public int curve(int gate, int ticks) throws IndexOutOfBoundsException, IllegalArgumentException {
        checkGate(gate);
        checkRange(ticks, 1, 999);
        return world.gates.depth[gate] + world.gates.rate[gate] * ticks;
    }

    public int endsAt(int packet) throws IndexOutOfBoundsException {
        checkPacket(packet);
        if (world.packets.hasEnded(packet)) {
            return world.packets.ended[packet];
        }
        trial.copyFrom(world);
        trial.advance(FORESIGHT, packet);
        return trial.packets.ended[packet];
    }

    public int billAfter(int flow, int ticks) throws IndexOutOfBoundsException, IllegalArgumentException {
        checkFlow(flow);
        checkRange(ticks, 0, FORESIGHT);
        trial.copyFrom(world);
        trial.advance(ticks, -1);
        return trial.flows.bill[flow];
    }

    public int help(int packet) throws IndexOutOfBoundsException {
        checkPacket(packet);
        if (world.coupons.count >= MOST_COUPONS || world.packets.hasEnded(packet)) {
            return -1;
        }
        int flow = world.packets.flow[packet];
        trial.copyFrom(world);
        trial.advance(FORESIGHT, packet);
        int end = trial.packets.ended[packet];
        // only an end before this one is sought, so no later tick has to be tried
        int ticks = end < 0 ? FORESIGHT : end - world.time;
        for (int value = 1; value <= 999; value += Math.max(1, trial.lack)) {
            trial.copyFrom(world);
            trial.coupons.add(flow, value, world.time + 9999);
            trial.watchedFlow = flow;
            trial.advance(ticks, packet);
            if (trial.packets.hasEnded(packet)) {
                return value;
            }
        }
        return -1;
    }

    public int pass(int ticks) throws IllegalArgumentException {
        checkRange(ticks, 1, 200);
        checkRange(world.time + ticks, 0, LAST_TIME);
        history.keep(world);
        int before = world.packets.countIn(Packets.DELIVERED);
        world.advance(ticks, -1);
        return world.packets.countIn(Packets.DELIVERED) - before;
    }

    public int forward(int coupon, int flow) throws IndexOutOfBoundsException {
        checkCoupon(coupon);
        checkFlow(flow);
        history.keep(world);
        Coupons coupons = world.coupons;
        boolean refused = coupons.flow[coupon] == flow
                || coupons.forwarded[coupon] >= MOST_FORWARDED
                || coupons.value[coupon] <= world.fee;
        if (refused) {
            return -1;
        }
        coupons.flow[coupon] = flow;
        coupons.value[coupon] -= world.fee;
        coupons.forwarded[coupon]++;
        return coupons.value[coupon];
    }

    public int grant(int flow, int value, int ticks)
            throws IndexOutOfBoundsException, IllegalArgumentException, IllegalStateException {
        checkFlow(flow);
        checkRange(value, 1, 9999);
        checkRange(ticks, 1, 9999);
        if (world.coupons.count >= MOST_COUPONS) {
            throw new IllegalStateException("coupons");
        }
        history.keep(world);
        world.coupons.add(flow, value, world.time + ticks);
        return world.coupons.count - 1;
    }

    public int send(int flow, int size)
            throws IndexOutOfBoundsException, IllegalArgumentException, IllegalStateException {
        checkFlow(flow);
        checkRange(size, 1, 999);
        if (world.packets.count >= MOST_PACKETS) {
            throw new IllegalStateException("packets");
        }
        history.keep(world);
        world.packets.add(flow, world.time, size);
        return world.packets.count - 1;
    }

    public int setThrift(int flow, int thrift) throws IndexOutOfBoundsException, IllegalArgumentException {
        checkFlow(flow);
        checkRange(thrift, 0, 99);
        history.keep(world);
        int previous = world.flows.thrift[flow];
        world.flows.thrift[flow] = thrift;
        return previous;
    }

    public int undo() {
        return history.takeBack(world);
    }

    public long checksum() {
        long sum = 0;
        for (int what = 0; what <= 9; what++) {
            sum = 31 * sum + state(what);
        }
        for (int flow = 0; flow < world.flows.count; flow++) {
            for (int what = 0; what <= 5; what++) {
                sum = 31 * sum + flow(flow, what);
            }
        }
        for (int packet = 0; packet < world.packets.count; packet++) {
            for (int what = 0; what <= 6; what++) {
                sum = 31 * sum + packet(packet, what);
            }
        }
        for (int coupon = 0; coupon < world.coupons.count; coupon++) {
            for (int what = 0; what <= 3; what++) {
                sum = 31 * sum + coupon(coupon, what);
            }
        }
        for (int gate = 0; gate < world.gates.count; gate++) {
            for (int flow = 0; flow < world.flows.count; flow++) {
                sum = 31 * sum + tokens(gate, flow);
                sum = 31 * sum + queue(gate, flow);
            }
        }
        return sum;
    }

    // The counts never exceed the rows' lengths, so what passes these checks is an index of the rows too.

    private void checkGate(int gate) {
        if (gate < 0 || gate >= world.gates.count) {
            throw new IndexOutOfBoundsException("gate");
        }
    }

    private void checkFlow(int flow) {
        if (flow < 0 || flow >= world.flows.count) {
            throw new IndexOutOfBoundsException("flow");
        }
    }

    private void checkPacket(int packet) {
        if (packet < 0 || packet >= world.packets.count) {
            throw new IndexOutOfBoundsException("packet");
        }
    }

    private void checkCoupon(int coupon) {
        if (coupon < 0 || coupon >= world.coupons.count) {
            throw new IndexOutOfBoundsException("coupon");
        }
    }

    private void checkRange(int number, int least, int most) {
        if (number < least || number > most) {
            throw new IllegalArgumentException("out of range");
        }
    }

    private static void copyRow(int[] from, int[] to, int length) {
        if (length > 0 && length <= from.length && length <= to.length) {
            System.arraycopy(from, 0, to, 0, length);
        }
    }

    private static final class Gates {
        final int[] rate = new int[MOST_GATES];
        final int[] depth = new int[MOST_GATES];
        final int[] room = new int[MOST_GATES];
        int count;

        void copyFrom(Gates other) {
            count = other.count;
            copyRow(other.rate, rate, count);
            copyRow(other.depth, depth, count);
            copyRow(other.room, room, count);
        }

        void add(int newRate, int newDepth, int newRoom) {
            if (count < 0 || count >= MOST_GATES) {
                return;
            }
            rate[count] = newRate;
            depth[count] = newDepth;
            room[count] = newRoom;
            count++;
        }

        /** How many ticks pass before one whose refill makes these tokens as many as are wanted. */
        int ticksBefore(int gate, int tokens, int wanted) {
            if (gate < 0 || gate >= count || wanted > depth[gate]) {
                return NEVER;
            }
            if (wanted <= tokens + rate[gate]) {
                return 0;
            }
            return rate[gate] > 0 ? (wanted - tokens - 1) / rate[gate] : NEVER;
        }
    }

    private static final class Flows {
        final int[] gatesInOrder = new int[MOST_FLOWS * MOST_PLACES];
        final int[] places = new int[MOST_FLOWS];
        final int[] thrift = new int[MOST_FLOWS];
        final int[] bill = new int[MOST_FLOWS];
        int count;

        void copyFrom(Flows other) {
            count = other.count;
            copyRow(other.gatesInOrder, gatesInOrder, count * MOST_PLACES);
            copyRow(other.places, places, count);
            copyRow(other.thrift, thrift, count);
            copyRow(other.bill, bill, count);
        }

        /** Begins the flow behind the last one; it counts only when it is closed. */
        void open() {
            if (count >= 0 && count < MOST_FLOWS) {
                places[count] = 0;
            }
        }

        void addPlace(int gate) {
            if (count < 0 || count >= MOST_FLOWS || places[count] < 0 || places[count] >= MOST_PLACES) {
                return;
            }
            gatesInOrder[count * MOST_PLACES + places[count]] = gate;
            places[count]++;
        }

        void close(int newThrift) {
            if (count >= 0 && count < MOST_FLOWS) {
                thrift[count] = newThrift;
                bill[count] = 0;
                count++;
            }
        }

        boolean openRouteHas(int gate) {
            for (int place = 0; place < MOST_PLACES; place++) {
                if (gateAt(count, place) == gate) {
                    return true;
                }
            }
            return false;
        }

        /** The gate at this place of the route, or -1. */
        int gateAt(int flow, int place) {
            if (flow < 0 || flow >= MOST_FLOWS || place < 0 || place >= MOST_PLACES || place >= places[flow]) {
                return -1;
            }
            return gatesInOrder[flow * MOST_PLACES + place];
        }
    }

    /** The bucket and the queue of each flow at each gate; a queue is a chain of packets. */
    private static final class Lines {
        static final int SLOTS = MOST_GATES * MOST_FLOWS;
        final int[] tokens = new int[SLOTS];
        final int[] waiting = new int[SLOTS];
        final int[] first = new int[SLOTS];
        final int[] last = new int[SLOTS];
        final int[] behind = new int[MOST_PACKETS];

        void copyFrom(Lines other) {
            copyRow(other.tokens, tokens, SLOTS);
            copyRow(other.waiting, waiting, SLOTS);
            copyRow(other.first, first, SLOTS);
            copyRow(other.last, last, SLOTS);
            copyRow(other.behind, behind, MOST_PACKETS);
        }

        void clear(int slot, int fullBucket) {
            if (slot >= 0 && slot < SLOTS) {
                tokens[slot] = fullBucket;
                waiting[slot] = 0;
                first[slot] = -1;
                last[slot] = -1;
            }
        }

        /** The first packet in the queue, or -1. */
        int firstIn(int slot) {
            if (slot < 0 || slot >= SLOTS || waiting[slot] <= 0) {
                return -1;
            }
            int packet = first[slot];
            return packet >= 0 && packet < MOST_PACKETS ? packet : -1;
        }

        void join(int slot, int packet) {
            if (slot < 0 || slot >= SLOTS || packet < 0 || packet >= MOST_PACKETS) {
                return;
            }
            int before = last[slot];
            if (waiting[slot] > 0 && before >= 0 && before < MOST_PACKETS) {
                behind[before] = packet;
            } else {
                first[slot] = packet;
            }
            last[slot] = packet;
            behind[packet] = -1;
            waiting[slot]++;
        }

        void leave(int slot) {
            int packet = firstIn(slot);
            if (packet >= 0) {
                first[slot] = behind[packet];
                waiting[slot]--;
            }
        }
    }

    private static final class Packets {
        static final int TO_COME = 0;
        static final int WAITING = 1;
        static final int ON_ITS_WAY = 2;
        static final int DELIVERED = 3;
        static final int DROPPED = 4;

        final int[] flow = new int[MOST_PACKETS];
        final int[] start = new int[MOST_PACKETS];
        final int[] size = new int[MOST_PACKETS];
        final int[] state = new int[MOST_PACKETS];
        /** The place in the route at which it waits or arrives next. */
        final int[] place = new int[MOST_PACKETS];
        final int[] joined = new int[MOST_PACKETS];
        final int[] spent = new int[MOST_PACKETS];
        final int[] ended = new int[MOST_PACKETS];
        int count;

        void copyFrom(Packets other) {
            count = other.count;
            copyRow(other.flow, flow, count);
            copyRow(other.start, start, count);
            copyRow(other.size, size, count);
            copyRow(other.state, state, count);
            copyRow(other.place, place, count);
            copyRow(other.joined, joined, count);
            copyRow(other.spent, spent, count);
            copyRow(other.ended, ended, count);
        }

        void add(int newFlow, int newStart, int newSize) {
            if (count < 0 || count >= MOST_PACKETS) {
                return;
            }
            flow[count] = newFlow;
            start[count] = newStart;
            size[count] = newSize;
            state[count] = TO_COME;
            place[count] = 0;
            joined[count] = 0;
            spent[count] = 0;
            ended[count] = -1;
            count++;
        }

        boolean hasEnded(int packet) {
            return packet >= 0 && packet < count && state[packet] >= DELIVERED;
        }

        int countIn(int wanted) {
            int found = 0;
            for (int packet = 0; packet < count; packet++) {
                if (state[packet] == wanted) {
                    found++;
                }
            }
            return found;
        }

        int deliveredSizeOf(int owner) {
            int sum = 0;
            for (int packet = 0; packet < count; packet++) {
                if (flow[packet] == owner && state[packet] == DELIVERED) {
                    sum += size[packet];
                }
            }
            return sum;
        }
    }

    private static final class Coupons {
        final int[] flow = new int[MOST_COUPONS];
        final int[] value = new int[MOST_COUPONS];
        final int[] end = new int[MOST_COUPONS];
        final int[] forwarded = new int[MOST_COUPONS];
        int count;

        void copyFrom(Coupons other) {
            count = other.count;
            copyRow(other.flow, flow, count);
            copyRow(other.value, value, count);
            copyRow(other.end, end, count);
            copyRow(other.forwarded, forwarded, count);
        }

        void add(int newFlow, int newValue, int newEnd) {
            if (count < 0 || count >= MOST_COUPONS) {
                return;
            }
            flow[count] = newFlow;
            value[count] = newValue;
            end[count] = newEnd;
            forwarded[count] = 0;
            count++;
        }

        private void removeAt(int coupon) {
            if (coupon < 0 || coupon >= count) {
                return;
            }
            for (int to = coupon; to + 1 < count; to++) {
                flow[to] = flow[to + 1];
                value[to] = value[to + 1];
                end[to] = end[to + 1];
                forwarded[to] = forwarded[to + 1];
            }
            count--;
        }

        /** Removes those whose end is this time and tells how many they were. */
        int removeEnding(int time) {
            int before = count;
            for (int coupon = count - 1; coupon >= 0; coupon--) {
                if (end[coupon] == time) {
                    removeAt(coupon);
                }
            }
            return before - count;
        }

        int countOf(int owner) {
            int found = 0;
            for (int coupon = 0; coupon < count; coupon++) {
                if (flow[coupon] == owner) {
                    found++;
                }
            }
            return found;
        }

        int sumOf(int owner) {
            int sum = 0;
            for (int coupon = 0; coupon < count; coupon++) {
                if (flow[coupon] == owner) {
                    sum += value[coupon];
                }
            }
            return sum;
        }

        private int firstToEnd(int owner) {
            int found = -1;
            for (int coupon = 0; coupon < count; coupon++) {
                if (flow[coupon] == owner && (found < 0 || end[coupon] < end[found])) {
                    found = coupon;
                }
            }
            return found;
        }

        void spend(int owner, int amount) {
            int missing = amount;
            for (int turn = 0; turn < MOST_COUPONS && missing > 0; turn++) {
                int coupon = firstToEnd(owner);
                if (coupon < 0) {
                    return;
                }
                if (value[coupon] > missing) {
                    value[coupon] -= missing;
                    return;
                }
                missing -= value[coupon];
                removeAt(coupon);
            }
        }
    }

    /** The latest passages; when the rows are full, the oldest one gives way. */
    private static final class Passages {
        final int[] time = new int[MOST_PASSAGES];
        final int[] gate = new int[MOST_PASSAGES];
        final int[] flow = new int[MOST_PASSAGES];
        final int[] size = new int[MOST_PASSAGES];
        final int[] spent = new int[MOST_PASSAGES];
        int count;
        int oldest;

        void copyFrom(Passages other) {
            count = other.count;
            oldest = other.oldest;
            copyRow(other.time, time, count);
            copyRow(other.gate, gate, count);
            copyRow(other.flow, flow, count);
            copyRow(other.size, size, count);
            copyRow(other.spent, spent, count);
        }

        void clear() {
            count = 0;
            oldest = 0;
        }

        void add(int newTime, int newGate, int newFlow, int newSize, int newSpent) {
            int to = count < MOST_PASSAGES ? count : oldest;
            if (to < 0 || to >= MOST_PASSAGES) {
                return;
            }
            time[to] = newTime;
            gate[to] = newGate;
            flow[to] = newFlow;
            size[to] = newSize;
            spent[to] = newSpent;
            if (count < MOST_PASSAGES) {
                count++;
            } else {
                oldest = (oldest + 1) % MOST_PASSAGES;
            }
        }

        /** No passage lowers a sum, so a greatest one begins at the time of a passage. */
        int greatestLoad(int atGate, int ofFlow, int ticks) {
            int greatest = 0;
            for (int from = 0; from < count; from++) {
                greatest = Math.max(greatest, loadFrom(time[from], atGate, ofFlow, ticks));
            }
            return greatest;
        }

        private int loadFrom(int begin, int atGate, int ofFlow, int ticks) {
            int sum = 0;
            for (int i = 0; i < count; i++) {
                if (gate[i] == atGate && flow[i] == ofFlow && time[i] >= begin && time[i] < begin + ticks) {
                    sum += size[i] - spent[i];
                }
            }
            return sum;
        }
    }

    /** A price expression in postfix order: numbers as they are, all else below 0. It never changes. */
    private static final class Price {
        static final int PLUS = -1;
        static final int MINUS = -2;
        static final int TIMES = -3;
        static final int OVER = -4;
        static final int SIZE = -5;
        static final int GATE = -6;
        static final int SPENT = -7;
        static final int WAIT = -8;
        private static final int LIMIT = 1000000;
        private static final int HIGHEST = 9999;

        private final int[] code;
        /** Each nesting holds a sum and a term open at most, and the innermost one a factor. */
        private final int[] stack = new int[2 * (MOST_NESTED + 1) + 1];

        Price(int[] code) {
            this.code = code;
        }

        int valueFor(int size, int gate, int spent, int wait) {
            int held = 0;
            for (int i = 0; i < code.length; i++) {
                int operand = code[i];
                switch (code[i]) {
                    case SIZE: operand = size; break;
                    case GATE: operand = gate; break;
                    case SPENT: operand = spent; break;
                    case WAIT: operand = wait; break;
                    case PLUS:
                    case MINUS:
                    case TIMES:
                    case OVER:
                        if (held < 2) {
                            return 0;
                        }
                        held -= 2;
                        operand = combine(code[i], stack[held], stack[held + 1]);
                        break;
                    default: break;
                }
                if (held < stack.length) {
                    stack[held] = operand;
                    held++;
                }
            }
            return held > 0 ? Math.max(0, Math.min(HIGHEST, stack[0])) : 0;
        }

        private static int combine(int operation, long left, long right) {
            long result;
            switch (operation) {
                case PLUS: result = left + right; break;
                case MINUS: result = left - right; break;
                case TIMES: result = left * right; break;
                default: result = right == 0 ? 0 : left / right; break;
            }
            return (int) Math.max(-LIMIT, Math.min(LIMIT, result));
        }
    }

    /** All data that a change can touch, in one piece: to copy it serves predictions and undo. */
    private static final class World {
        final Gates gates = new Gates();
        final Flows flows = new Flows();
        final Lines lines = new Lines();
        final Packets packets = new Packets();
        final Coupons coupons = new Coupons();
        final Passages passages = new Passages();
        Price price = new Price(new int[] {Price.SIZE});
        int time;
        int fee = 1;
        int refundPercent = 50;
        int refundTicks = 10;
        int expired;
        int spentInAll;
        /** In a trial of help: the flow with one more coupon; otherwise -1. */
        int watchedFlow = -1;
        /** By how much that coupon would have to be greater, at least, for the trial to go otherwise. */
        int lack = NEVER;

        void copyFrom(World other) {
            gates.copyFrom(other.gates);
            flows.copyFrom(other.flows);
            lines.copyFrom(other.lines);
            packets.copyFrom(other.packets);
            coupons.copyFrom(other.coupons);
            passages.copyFrom(other.passages);
            price = other.price;
            time = other.time;
            fee = other.fee;
            refundPercent = other.refundPercent;
            refundTicks = other.refundTicks;
            expired = other.expired;
            spentInAll = other.spentInAll;
            watchedFlow = -1;
            lack = NEVER;
        }

        void clear() {
            gates.count = 0;
            flows.count = 0;
            packets.count = 0;
            coupons.count = 0;
            passages.clear();
            price = new Price(new int[] {Price.SIZE});
            time = 0;
            fee = 1;
            refundPercent = 50;
            refundTicks = 10;
            expired = 0;
            spentInAll = 0;
        }

        void clearLines() {
            for (int gate = 0; gate < MOST_GATES; gate++) {
                for (int flow = 0; flow < MOST_FLOWS; flow++) {
                    lines.clear(gate * MOST_FLOWS + flow, gate < gates.count ? gates.depth[gate] : 0);
                }
            }
        }

        /** The gate at which the packet waits or to which it is on its way, or -1. */
        int gateOf(int packet) {
            if (packet < 0 || packet >= packets.count) {
                return -1;
            }
            int state = packets.state[packet];
            boolean underWay = state == Packets.WAITING || state == Packets.ON_ITS_WAY;
            return underWay ? flows.gateAt(packets.flow[packet], packets.place[packet]) : -1;
        }

        /** Lets so many ticks pass, but none after the end of the packet (-1: of no packet). */
        void advance(int ticks, int packet) {
            int quiet;
            for (int done = 0; done < ticks && !packets.hasEnded(packet); done += quiet + 1) {
                quiet = quietTicks(ticks - done);
                rest(quiet);
                if (done + quiet < ticks) {
                    tick();
                }
            }
        }

        /** The number of ticks next to come that do nothing but refill buckets. */
        private int quietTicks(int most) {
            int quiet = most;
            for (int packet = 0; packet < packets.count; packet++) {
                if (packets.state[packet] == Packets.ON_ITS_WAY) {
                    return 0;
                }
                if (packets.state[packet] == Packets.TO_COME) {
                    quiet = Math.min(quiet, packets.start[packet] - time);
                }
            }
            for (int coupon = 0; coupon < coupons.count; coupon++) {
                quiet = Math.min(quiet, coupons.end[coupon] - time);
            }
            for (int gate = 0; gate < gates.count && quiet > 0; gate++) {
                for (int flow = 0; flow < flows.count; flow++) {
                    quiet = Math.min(quiet, ticksBeforePassage(gate, flow));
                }
            }
            return Math.max(0, quiet);
        }

        private int ticksBeforePassage(int gate, int flow) {
            int slot = gate * MOST_FLOWS + flow;
            int packet = lines.firstIn(slot);
            if (packet < 0) {
                return NEVER;
            }
            int size = packets.size[packet];
            int tokens = lines.tokens[slot];
            int byTokens = gates.ticksBefore(gate, tokens, size);
            int byCoupons = gates.ticksBefore(gate, tokens, size - coupons.sumOf(flow));
            int thrifty = packets.joined[packet] + flows.thrift[flow] - time;
            return Math.min(byTokens, Math.max(byCoupons, thrifty));
        }

        private void rest(int ticks) {
            if (ticks <= 0) {
                return;
            }
            refill(ticks);
            time += ticks;
            if (watchedFlow < 0 || watchedFlow >= flows.count) {
                return;
            }
            for (int gate = 0; gate < gates.count; gate++) {
                noteLack(gate, watchedFlow, time - 1);
            }
        }

        private void tick() {
            refill(1);
            expired += coupons.removeEnding(time);
            for (int packet = 0; packet < packets.count; packet++) {
                int state = packets.state[packet];
                boolean starts = state == Packets.TO_COME && packets.start[packet] == time;
                if (starts || state == Packets.ON_ITS_WAY) {
                    arrive(packet);
                }
            }
            for (int gate = 0; gate < gates.count; gate++) {
                for (int flow = 0; flow < flows.count; flow++) {
                    openGate(gate, flow);
                }
            }
            time++;
        }

        private void refill(int ticks) {
            for (int gate = 0; gate < gates.count; gate++) {
                int gain = gates.rate[gate] * ticks;
                for (int flow = 0; flow < flows.count; flow++) {
                    int slot = gate * MOST_FLOWS + flow;
                    lines.tokens[slot] = Math.min(gates.depth[gate], lines.tokens[slot] + gain);
                }
            }
        }

        private void arrive(int packet) {
            int flow = packets.flow[packet];
            int gate = flows.gateAt(flow, packets.place[packet]);
            if (gate < 0 || gate >= gates.count) {
                return;
            }
            int slot = gate * MOST_FLOWS + flow;
            if (lines.waiting[slot] < gates.room[gate]) {
                packets.state[packet] = Packets.WAITING;
                packets.joined[packet] = time;
                lines.join(slot, packet);
                return;
            }
            packets.state[packet] = Packets.DROPPED;
            packets.ended[packet] = time;
            refund(flow, packets.spent[packet]);
        }

        private void refund(int flow, int spent) {
            int value = Math.min(9999, spent * refundPercent / 100);
            if (value <= 0) {
                return;
            }
            if (coupons.count >= MOST_COUPONS - 1) {
                // a greater watched coupon might still be there, and take the place of this refund
                lack = 1;
            }
            coupons.add(flow, value, time + refundTicks);
        }

        private void openGate(int gate, int flow) {
            int slot = gate * MOST_FLOWS + flow;
            for (int turn = 0; turn < MOST_PACKETS; turn++) {
                int packet = lines.firstIn(slot);
                if (packet < 0) {
                    return;
                }
                int missing = packets.size[packet] - lines.tokens[slot];
                boolean mayPay = time - packets.joined[packet] >= flows.thrift[flow];
                if (missing > 0 && !(mayPay && missing <= coupons.sumOf(flow))) {
                    noteLack(gate, flow, time);
                    return;
                }
                lines.leave(slot);
                passGate(packet, gate, flow, Math.max(0, missing));
            }
        }

        private void passGate(int packet, int gate, int flow, int paid) {
            int size = packets.size[packet];
            lines.tokens[gate * MOST_FLOWS + flow] -= size - paid;
            coupons.spend(flow, paid);
            packets.spent[packet] += paid;
            spentInAll += paid;
            flows.bill[flow] += price.valueFor(size, gate, paid, time - packets.joined[packet]);
            passages.add(time, gate, flow, size, paid);
            packets.place[packet]++;
            if (packets.place[packet] < flows.places[flow]) {
                packets.state[packet] = Packets.ON_ITS_WAY;
            } else {
                packets.state[packet] = Packets.DELIVERED;
                packets.ended[packet] = time;
            }
        }

        /**
         * Called where the first packet did not pass at this time. The watched coupon ends after all
         * others, so it is spent last; a greater one changes nothing until it fills such a lack.
         */
        private void noteLack(int gate, int flow, int tried) {
            int slot = gate * MOST_FLOWS + flow;
            int packet = lines.firstIn(slot);
            if (flow != watchedFlow || packet < 0 || tried - packets.joined[packet] < flows.thrift[flow]) {
                return;
            }
            int missing = packets.size[packet] - lines.tokens[slot] - coupons.sumOf(flow);
            lack = Math.min(lack, Math.max(1, missing));
        }
    }

    /** The data before each of the latest changes. */
    private static final class History {
        private final World[] kept = new World[MOST_UNDONE];
        private int count;
        private int next;

        History() {
            for (int i = 0; i < MOST_UNDONE; i++) {
                kept[i] = new World();
            }
        }

        private World at(int index) {
            return index >= 0 && index < MOST_UNDONE ? kept[index] : null;
        }

        void keep(World world) {
            World to = at(next);
            if (to == null) {
                return;
            }
            to.copyFrom(world);
            next = (next + 1) % MOST_UNDONE;
            count = Math.min(MOST_UNDONE, count + 1);
        }

        /** Gives the world its data before the latest change; the number of changes left, -1 without one. */
        int takeBack(World world) {
            int latest = (next + MOST_UNDONE - 1) % MOST_UNDONE;
            World from = at(latest);
            if (count <= 0 || from == null) {
                return -1;
            }
            world.copyFrom(from);
            next = latest;
            count--;
            return count;
        }
    }

    /** The input buffer and the token at which its reading stands; the kind of a sign is its byte. */
    private static final class SetupText {
        static final int END = -1;
        static final int WORD = 256;
        static final int NUMBER = 257;
        /** Above every range of the setup text, and far from an overflow. */
        private static final int ENOUGH = 100000;

        private final byte[] bytes = new byte[MOST_BYTES];
        int held;
        private int end;
        private int place;
        int kind;
        int start;
        int number;

        void put(int word) {
            for (int shift = 24; shift >= 0; shift -= 8) {
                if (held >= 0 && held < bytes.length) {
                    bytes[held] = (byte) (word >> shift);
                    held++;
                }
            }
        }

        void open(int length) {
            end = Math.min(length, bytes.length);
            place = 0;
            moveOn();
        }

        /** Goes to the next token. */
        void moveOn() {
            while (place < end && bytes[place] == ' ') {
                place++;
            }
            start = place;
            kind = END;
            if (place >= end) {
                return;
            }
            kind = bytes[place] & 255;
            if (kind >= '0' && kind <= '9') {
                kind = NUMBER;
                number = 0;
                while (place < end && bytes[place] >= '0' && bytes[place] <= '9') {
                    number = Math.min(ENOUGH, number * 10 + bytes[place] - '0');
                    place++;
                }
            } else if (kind >= 'a' && kind <= 'z') {
                kind = WORD;
                while (place < end && bytes[place] >= 'a' && bytes[place] <= 'z') {
                    place++;
                }
            } else {
                place++;
            }
        }

        boolean isWord(String word) {
            if (kind != WORD || place - start != word.length()) {
                return false;
            }
            for (int i = 0; i < word.length(); i++) {
                if (start + i >= end || bytes[start + i] != word.charAt(i)) {
                    return false;
                }
            }
            return true;
        }
    }

    /**
     * Reads the setup text into a draft. Every error is found at the token where the reading stands,
     * so the first one found has the smallest offset; after it nothing more is read.
     */
    private static final class SetupReader {
        final SetupText text = new SetupText();
        final World draft = new World();
        int error;
        int errorAt;
        private final int[] code = new int[MOST_BYTES];
        private int codeLength;
        private boolean feeTold;
        private boolean refundTold;
        private boolean priceTold;

        void read(int length) {
            error = 0;
            errorAt = -1;
            feeTold = false;
            refundTold = false;
            priceTold = false;
            draft.clear();
            text.open(length);
            if (text.isWord("toll")) {
                text.moveOn();
                takeSign(';');
            } else {
                fail(SYNTAX_ERROR);
            }
            for (int told = 0; told < MOST_BYTES && error == 0 && text.kind != SetupText.END; told++) {
                readStatement();
                takeSign(';');
            }
            draft.clearLines();
            if (error == 0 && priceTold && codeLength >= 0 && codeLength <= code.length) {
                draft.price = new Price(Arrays.copyOf(code, codeLength));
            }
        }

        private void fail(int code) {
            if (error == 0) {
                error = code;
                errorAt = text.start;
            }
        }

        private void takeSign(int sign) {
            if (text.kind != sign) {
                fail(SYNTAX_ERROR);
            }
            if (error == 0) {
                text.moveOn();
            }
        }

        private boolean numberStands(int least, int most) {
            if (text.kind != SetupText.NUMBER) {
                fail(SYNTAX_ERROR);
            } else if (text.number < least || text.number > most) {
                fail(OUT_OF_RANGE);
            }
            return error == 0;
        }

        /** The number, or -1 behind an error. */
        private int takeNumber(int least, int most) {
            if (!numberStands(least, most)) {
                return -1;
            }
            int number = text.number;
            text.moveOn();
            return number;
        }

        private void readStatement() {
            if (text.isWord("gate")) {
                readGate();
            } else if (text.isWord("flow")) {
                readFlow();
            } else if (text.isWord("packet")) {
                readPacket();
            } else if (text.isWord("coupon")) {
                readCoupon();
            } else if (text.isWord("fee") && !feeTold) {
                feeTold = true;
                text.moveOn();
                draft.fee = takeNumber(0, 99);
            } else if (text.isWord("refund") && !refundTold) {
                refundTold = true;
                text.moveOn();
                draft.refundPercent = takeNumber(0, 100);
                draft.refundTicks = takeNumber(1, 999);
            } else if (text.isWord("price") && !priceTold) {
                priceTold = true;
                text.moveOn();
                codeLength = 0;
                readSum(0);
            } else {
                fail(SYNTAX_ERROR);
            }
        }

        /** Takes the first word of a statement of which there may be so many. */
        private void takeCounted(int count, int most) {
            if (count >= most) {
                fail(TOO_MANY);
            } else {
                text.moveOn();
            }
        }

        private void readGate() {
            takeCounted(draft.gates.count, MOST_GATES);
            int rate = takeNumber(0, 99);
            int depth = takeNumber(1, 999);
            int room = takeNumber(1, 20);
            if (error == 0) {
                draft.gates.add(rate, depth, room);
            }
        }

        private void readFlow() {
            takeCounted(draft.flows.count, MOST_FLOWS);
            draft.flows.open();
            readPlace(0);
            for (int place = 1; place <= MOST_PLACES && error == 0 && text.kind == SetupText.NUMBER; place++) {
                readPlace(place);
            }
            int thrift = 0;
            if (error == 0 && text.isWord("thrift")) {
                text.moveOn();
                thrift = takeNumber(0, 99);
            }
            if (error == 0) {
                draft.flows.close(thrift);
            }
        }

        private void readPlace(int place) {
            if (!numberStands(0, draft.gates.count - 1)) {
                return;
            }
            if (draft.flows.openRouteHas(text.number)) {
                fail(REPEATED);
            } else if (place >= MOST_PLACES) {
                fail(TOO_MANY);
            } else {
                draft.flows.addPlace(text.number);
                text.moveOn();
            }
        }

        private void readPacket() {
            takeCounted(draft.packets.count, MOST_PACKETS);
            int flow = takeNumber(0, draft.flows.count - 1);
            int start = takeNumber(0, 999);
            int size = takeNumber(1, 999);
            if (error == 0) {
                draft.packets.add(flow, start, size);
            }
        }

        private void readCoupon() {
            takeCounted(draft.coupons.count, MOST_COUPONS);
            int flow = takeNumber(0, draft.flows.count - 1);
            int value = takeNumber(1, 9999);
            int end = takeNumber(1, 9999);
            if (error == 0) {
                draft.coupons.add(flow, value, end);
            }
        }

        private void readSum(int nested) {
            readTerm(nested);
            for (int turn = 0; turn < MOST_BYTES && error == 0 && isEither('+', '-'); turn++) {
                int operation = text.kind == '+' ? Price.PLUS : Price.MINUS;
                text.moveOn();
                readTerm(nested);
                emit(operation);
            }
        }

        private void readTerm(int nested) {
            readFactor(nested);
            for (int turn = 0; turn < MOST_BYTES && error == 0 && isEither('*', '/'); turn++) {
                int operation = text.kind == '*' ? Price.TIMES : Price.OVER;
                text.moveOn();
                readFactor(nested);
                emit(operation);
            }
        }

        private boolean isEither(int sign, int other) {
            return text.kind == sign || text.kind == other;
        }

        private void readFactor(int nested) {
            if (text.kind == '(') {
                if (nested >= MOST_NESTED) {
                    fail(TOO_DEEP);
                    return;
                }
                text.moveOn();
                readSum(nested + 1);
                takeSign(')');
                return;
            }
            int one;
            if (text.isWord("size")) {
                one = Price.SIZE;
            } else if (text.isWord("gate")) {
                one = Price.GATE;
            } else if (text.isWord("spent")) {
                one = Price.SPENT;
            } else if (text.isWord("wait")) {
                one = Price.WAIT;
            } else if (numberStands(0, 9999)) {
                one = text.number;
            } else {
                return;
            }
            emit(one);
            text.moveOn();
        }

        private void emit(int one) {
            if (codeLength >= 0 && codeLength < code.length) {
                code[codeLength] = one;
                codeLength++;
            }
        }
    }
}

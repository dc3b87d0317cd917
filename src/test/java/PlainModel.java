import java.math.BigInteger;
import java.util.ArrayList;
import java.util.List;
import java.util.NoSuchElementException;

/**
 * The document a second time, in the plainest form: objects instead of rows, every tick made one by one,
 * help tried with every value. The random runs compare PacketToll with it.
 */
final class PlainModel {
    private static final class Gate {
        int rate;
        int depth;
        int room;
    }

    private static final class Flow {
        List<Integer> route = new ArrayList<>();
        int thrift;
        int bill;
    }

    private static final class Packet {
        int flow;
        int start;
        int size;
        int state;
        int passed;
        int joined;
        int spent;
        int ended = -1;
    }

    private static final class Coupon {
        int flow;
        int value;
        int end;
        int forwarded;
    }

    private record Passage(int time, int gate, int flow, int size, int spent) {
    }

    private interface Expression {
        int value(int size, int gate, int spent, int wait);
    }

    private static final class Data {
        int time;
        int fee = 1;
        int percent = 50;
        int refundTicks = 10;
        int expired;
        int spent;
        Expression price = (size, gate, spent, wait) -> size;
        List<Gate> gates = new ArrayList<>();
        List<Flow> flows = new ArrayList<>();
        List<Packet> packets = new ArrayList<>();
        List<Coupon> coupons = new ArrayList<>();
        List<Passage> passages = new ArrayList<>();
        int[][] tokens = new int[6][6];
        List<List<List<Integer>>> queues = new ArrayList<>();

        Data() {
            for (int g = 0; g < 6; g++) {
                queues.add(new ArrayList<>());
                for (int f = 0; f < 6; f++) {
                    queues.get(g).add(new ArrayList<>());
                }
            }
        }

        Data copy() {
            Data d = new Data();
            d.time = time;
            d.fee = fee;
            d.percent = percent;
            d.refundTicks = refundTicks;
            d.expired = expired;
            d.spent = spent;
            d.price = price;
            d.gates = gates;
            for (Flow f : flows) {
                Flow c = new Flow();
                c.route = f.route;
                c.thrift = f.thrift;
                c.bill = f.bill;
                d.flows.add(c);
            }
            for (Packet p : packets) {
                Packet c = new Packet();
                c.flow = p.flow;
                c.start = p.start;
                c.size = p.size;
                c.state = p.state;
                c.passed = p.passed;
                c.joined = p.joined;
                c.spent = p.spent;
                c.ended = p.ended;
                d.packets.add(c);
            }
            for (Coupon p : coupons) {
                d.coupons.add(couponOf(p.flow, p.value, p.end, p.forwarded));
            }
            d.passages.addAll(passages);
            for (int g = 0; g < 6; g++) {
                for (int f = 0; f < 6; f++) {
                    d.tokens[g][f] = tokens[g][f];
                    d.queues.get(g).get(f).addAll(queues.get(g).get(f));
                }
            }
            return d;
        }

        int worth(int flow) {
            int sum = 0;
            for (Coupon c : coupons) {
                sum += c.flow == flow ? c.value : 0;
            }
            return sum;
        }

        void tick() {
            for (int g = 0; g < gates.size(); g++) {
                for (int f = 0; f < flows.size(); f++) {
                    tokens[g][f] = Math.min(tokens[g][f] + gates.get(g).rate, gates.get(g).depth);
                }
            }
            int before = coupons.size();
            coupons.removeIf(c -> c.end == time);
            expired += before - coupons.size();
            for (int i = 0; i < packets.size(); i++) {
                Packet p = packets.get(i);
                if (p.state == 2 || p.state == 0 && p.start == time) {
                    arrive(i, p);
                }
            }
            for (int g = 0; g < gates.size(); g++) {
                for (int f = 0; f < flows.size(); f++) {
                    while (passFirst(g, f)) {
                        continue;
                    }
                }
            }
            time++;
        }

        private void arrive(int index, Packet p) {
            int g = flows.get(p.flow).route.get(p.passed);
            List<Integer> queue = queues.get(g).get(p.flow);
            if (queue.size() < gates.get(g).room) {
                queue.add(index);
                p.state = 1;
                p.joined = time;
                return;
            }
            p.state = 4;
            p.ended = time;
            int refund = Math.min(p.spent * percent / 100, 9999);
            if (refund > 0 && coupons.size() != 30) {
                coupons.add(couponOf(p.flow, refund, time + refundTicks, 0));
            }
        }

        private boolean passFirst(int g, int f) {
            List<Integer> queue = queues.get(g).get(f);
            if (queue.isEmpty()) {
                return false;
            }
            Packet p = packets.get(queue.get(0));
            int wait = time - p.joined;
            boolean free = p.size <= tokens[g][f];
            boolean paid = wait >= flows.get(f).thrift && p.size <= tokens[g][f] + worth(f);
            if (!free && !paid) {
                return false;
            }
            queue.remove(0);
            int missing = free ? 0 : p.size - tokens[g][f];
            tokens[g][f] = free ? tokens[g][f] - p.size : 0;
            spend(f, missing);
            p.spent += missing;
            spent += missing;
            int price0 = price.value(p.size, g, missing, wait);
            flows.get(f).bill += price0 < 0 ? 0 : price0 > 9999 ? 9999 : price0;
            passages.add(new Passage(time, g, f, p.size, missing));
            if (passages.size() > 40) {
                passages.remove(0);
            }
            p.passed++;
            p.state = 2;
            if (p.passed == flows.get(f).route.size()) {
                p.state = 3;
                p.ended = time;
            }
            return true;
        }

        private void spend(int flow, int amount) {
            int left = amount;
            while (left > 0) {
                Coupon best = null;
                for (Coupon c : coupons) {
                    if (c.flow == flow && (best == null || c.end < best.end)) {
                        best = c;
                    }
                }
                int part = Math.min(left, best.value);
                best.value -= part;
                left -= part;
                if (best.value == 0) {
                    coupons.remove(best);
                }
            }
        }
    }

    private static Coupon couponOf(int flow, int value, int end, int forwarded) {
        Coupon c = new Coupon();
        c.flow = flow;
        c.value = value;
        c.end = end;
        c.forwarded = forwarded;
        return c;
    }

    private static final class ReadError extends RuntimeException {
        private static final long serialVersionUID = 1;
        final int code;
        final int at;

        ReadError(int code, int at) {
            this.code = code;
            this.at = at;
        }
    }

    private record Token(String text, int at) {
    }

    /** Cuts the whole text into tokens first; a byte that is in no token becomes one of its own. */
    private static final class Parser {
        private final List<Token> tokens = new ArrayList<>();
        private int next = 0;
        private final Data data = new Data();
        private final List<String> once = new ArrayList<>();

        Parser(String text) {
            java.util.regex.Matcher m = java.util.regex.Pattern.compile("[a-z]+|[0-9]+|[^ ]",
                    java.util.regex.Pattern.DOTALL).matcher(text);
            while (m.find()) {
                tokens.add(new Token(m.group(), m.start()));
            }
            tokens.add(new Token("", text.length()));
        }

        private Token see() {
            return tokens.get(next);
        }

        private ReadError error(int code) {
            return new ReadError(code, see().at);
        }

        private void want(String sign) {
            if (!see().text.equals(sign)) {
                throw error(-2);
            }
            next++;
        }

        private int want(int least, int most) {
            int n = seeNumber(least, most);
            next++;
            return n;
        }

        private int seeNumber(int least, int most) {
            if (!see().text.matches("[0-9]+")) {
                throw error(-2);
            }
            BigInteger n = new BigInteger(see().text);
            if (n.compareTo(BigInteger.valueOf(least)) < 0 || n.compareTo(BigInteger.valueOf(most)) > 0) {
                throw error(-3);
            }
            return n.intValue();
        }

        Data parse() {
            want("toll");
            want(";");
            while (!see().text.isEmpty()) {
                statement(see().text);
                want(";");
            }
            for (int g = 0; g < data.gates.size(); g++) {
                for (int f = 0; f < 6; f++) {
                    data.tokens[g][f] = data.gates.get(g).depth;
                }
            }
            return data;
        }

        private void room(int size, int most) {
            if (size == most) {
                throw error(-5);
            }
            next++;
        }

        private void statement(String word) {
            if (List.of("fee", "refund", "price").contains(word)) {
                if (once.contains(word)) {
                    throw error(-2);
                }
                once.add(word);
                next++;
            }
            switch (word) {
                case "gate" -> {
                    room(data.gates.size(), 6);
                    Gate g = new Gate();
                    g.rate = want(0, 99);
                    g.depth = want(1, 999);
                    g.room = want(1, 20);
                    data.gates.add(g);
                }
                case "flow" -> {
                    room(data.flows.size(), 6);
                    flow(new Flow());
                }
                case "packet" -> {
                    room(data.packets.size(), 40);
                    Packet p = new Packet();
                    p.flow = want(0, data.flows.size() - 1);
                    p.start = want(0, 999);
                    p.size = want(1, 999);
                    data.packets.add(p);
                }
                case "coupon" -> {
                    room(data.coupons.size(), 30);
                    int flow = want(0, data.flows.size() - 1);
                    int value = want(1, 9999);
                    data.coupons.add(couponOf(flow, value, want(1, 9999), 0));
                }
                case "fee" -> data.fee = want(0, 99);
                case "refund" -> {
                    data.percent = want(0, 100);
                    data.refundTicks = want(1, 999);
                }
                case "price" -> data.price = sum(0);
                default -> throw error(-2);
            }
        }

        private void flow(Flow f) {
            do {
                int g = seeNumber(0, data.gates.size() - 1);
                if (f.route.contains(g)) {
                    throw error(-4);
                }
                if (f.route.size() == 4) {
                    throw error(-5);
                }
                f.route.add(g);
                next++;
            } while (see().text.matches("[0-9]+"));
            if (see().text.equals("thrift")) {
                next++;
                f.thrift = want(0, 99);
            }
            data.flows.add(f);
        }

        private Expression sum(int open) {
            Expression left = term(open);
            while (see().text.equals("+") || see().text.equals("-")) {
                boolean plus = see().text.equals("+");
                next++;
                left = join(plus ? '+' : '-', left, term(open));
            }
            return left;
        }

        private Expression term(int open) {
            Expression left = factor(open);
            while (see().text.equals("*") || see().text.equals("/")) {
                boolean times = see().text.equals("*");
                next++;
                left = join(times ? '*' : '/', left, factor(open));
            }
            return left;
        }

        private static Expression join(char sign, Expression a, Expression b) {
            return (size, gate, spent, wait) -> {
                BigInteger x = BigInteger.valueOf(a.value(size, gate, spent, wait));
                BigInteger y = BigInteger.valueOf(b.value(size, gate, spent, wait));
                BigInteger r = switch (sign) {
                    case '+' -> x.add(y);
                    case '-' -> x.subtract(y);
                    case '*' -> x.multiply(y);
                    default -> y.signum() == 0 ? y : x.divide(y);
                };
                BigInteger most = BigInteger.valueOf(1000000);
                return r.min(most).max(most.negate()).intValue();
            };
        }

        private Expression factor(int open) {
            String word = see().text;
            switch (word) {
                case "size": next++; return (size, gate, spent, wait) -> size;
                case "gate": next++; return (size, gate, spent, wait) -> gate;
                case "spent": next++; return (size, gate, spent, wait) -> spent;
                case "wait": next++; return (size, gate, spent, wait) -> wait;
                case "(":
                    if (open == 4) {
                        throw error(-6);
                    }
                    next++;
                    Expression inside = sum(open + 1);
                    want(")");
                    return inside;
                default:
                    int n = want(0, 9999);
                    return (size, gate, spent, wait) -> n;
            }
        }
    }

    private Data now = new Data();
    private final List<Data> before = new ArrayList<>();
    private StringBuilder buffer = new StringBuilder();
    private int errorAt = -1;

    private void change() {
        before.add(now.copy());
        if (before.size() > 8) {
            before.remove(0);
        }
    }

    private static void index(int i, int size) {
        if (i < 0 || i >= size) {
            throw new IndexOutOfBoundsException();
        }
    }

    private static void range(int n, int least, int most) {
        if (n < least || n > most) {
            throw new IllegalArgumentException();
        }
    }

    int append(int... words) {
        if (buffer.length() + 20 > 700) {
            return -1;
        }
        for (int w : words) {
            for (byte b : java.nio.ByteBuffer.allocate(4).putInt(w).array()) {
                buffer.append((char) (b & 255));
            }
        }
        return buffer.length();
    }

    int load(int length) {
        range(length, 0, buffer.length());
        String text = buffer.substring(0, length);
        buffer = new StringBuilder();
        errorAt = -1;
        try {
            Data read = new Parser(text).parse();
            change();
            now = read;
            return now.packets.size();
        } catch (ReadError e) {
            errorAt = e.at;
            return e.code;
        }
    }

    int errorOffset() {
        return errorAt;
    }

    private int packetsIn(int state) {
        return (int) now.packets.stream().filter(p -> p.state == state).count();
    }

    int state(int what) {
        range(what, 0, 9);
        return new int[] {now.time, now.gates.size(), now.flows.size(), now.packets.size(), now.coupons.size(),
            packetsIn(3), packetsIn(4), now.expired, now.spent, now.fee}[what];
    }

    int gate(int gate, int what) {
        index(gate, now.gates.size());
        range(what, 0, 2);
        Gate g = now.gates.get(gate);
        return new int[] {g.rate, g.depth, g.room}[what];
    }

    int flow(int flow, int what) {
        index(flow, now.flows.size());
        range(what, 0, 5);
        Flow f = now.flows.get(flow);
        int delivered = now.packets.stream().filter(p -> p.flow == flow && p.state == 3).mapToInt(p -> p.size).sum();
        int coupons = (int) now.coupons.stream().filter(c -> c.flow == flow).count();
        return new int[] {f.route.size(), f.thrift, f.bill, coupons, now.worth(flow), delivered}[what];
    }

    int route(int flow, int place) {
        index(flow, now.flows.size());
        if (place < 0 || place >= now.flows.get(flow).route.size()) {
            throw new NoSuchElementException();
        }
        return now.flows.get(flow).route.get(place);
    }

    int tokens(int gate, int flow) {
        index(gate, now.gates.size());
        index(flow, now.flows.size());
        return now.tokens[gate][flow];
    }

    int queue(int gate, int flow) {
        index(gate, now.gates.size());
        index(flow, now.flows.size());
        return now.queues.get(gate).get(flow).size();
    }

    int packet(int packet, int what) {
        index(packet, now.packets.size());
        range(what, 0, 6);
        Packet p = now.packets.get(packet);
        int gate = p.state == 1 || p.state == 2 ? now.flows.get(p.flow).route.get(p.passed) : -1;
        return new int[] {p.flow, p.start, p.size, p.state, gate, p.spent, p.ended}[what];
    }

    int coupon(int coupon, int what) {
        index(coupon, now.coupons.size());
        range(what, 0, 3);
        Coupon c = now.coupons.get(coupon);
        return new int[] {c.flow, c.value, c.end, c.forwarded}[what];
    }

    int loadOver(int gate, int flow, int ticks) {
        index(gate, now.gates.size());
        index(flow, now.flows.size());
        range(ticks, 1, 999);
        int most = 0;
        int first = now.passages.isEmpty() ? 0 : now.passages.get(0).time;
        for (int t = first - ticks; t <= now.time; t++) {
            int sum = 0;
            for (Passage p : now.passages) {
                if (p.gate == gate && p.flow == flow && p.time >= t && p.time <= t + ticks - 1) {
                    sum += p.size - p.spent;
                }
            }
            most = Math.max(most, sum);
        }
        return most;
    }

    int curve(int gate, int ticks) {
        index(gate, now.gates.size());
        range(ticks, 1, 999);
        return now.gates.get(gate).depth + ticks * now.gates.get(gate).rate;
    }

    private static int endIn(Data data, int packet) {
        Packet p = data.packets.get(packet);
        for (int tick = 0; tick < 500 && p.ended < 0; tick++) {
            data.tick();
        }
        return p.ended;
    }

    int endsAt(int packet) {
        index(packet, now.packets.size());
        return endIn(now.copy(), packet);
    }

    int billAfter(int flow, int ticks) {
        index(flow, now.flows.size());
        range(ticks, 0, 500);
        Data data = now.copy();
        for (int tick = 0; tick < ticks; tick++) {
            data.tick();
        }
        return data.flows.get(flow).bill;
    }

    int help(int packet) {
        index(packet, now.packets.size());
        if (now.coupons.size() == 30) {
            return -1;
        }
        int without = endsAt(packet);
        for (int value = 1; value <= 999; value++) {
            Data data = now.copy();
            data.coupons.add(couponOf(data.packets.get(packet).flow, value, data.time + 9999, 0));
            int with = endIn(data, packet);
            if (with != -1 && (without == -1 || with < without)) {
                return value;
            }
        }
        return -1;
    }

    int pass(int ticks) {
        range(ticks, 1, 200);
        range(now.time + ticks, 1, 9999);
        change();
        int earlier = packetsIn(3);
        for (int tick = 0; tick < ticks; tick++) {
            now.tick();
        }
        return packetsIn(3) - earlier;
    }

    int forward(int coupon, int flow) {
        index(coupon, now.coupons.size());
        index(flow, now.flows.size());
        change();
        Coupon c = now.coupons.get(coupon);
        if (c.flow == flow || c.forwarded == 2 || c.value - now.fee <= 0) {
            return -1;
        }
        c.flow = flow;
        c.value -= now.fee;
        c.forwarded++;
        return c.value;
    }

    int grant(int flow, int value, int ticks) {
        index(flow, now.flows.size());
        range(value, 1, 9999);
        range(ticks, 1, 9999);
        if (now.coupons.size() == 30) {
            throw new IllegalStateException();
        }
        change();
        now.coupons.add(couponOf(flow, value, now.time + ticks, 0));
        return now.coupons.size() - 1;
    }

    int send(int flow, int size) {
        index(flow, now.flows.size());
        range(size, 1, 999);
        if (now.packets.size() == 40) {
            throw new IllegalStateException();
        }
        change();
        Packet p = new Packet();
        p.flow = flow;
        p.start = now.time;
        p.size = size;
        now.packets.add(p);
        return now.packets.size() - 1;
    }

    int setThrift(int flow, int thrift) {
        index(flow, now.flows.size());
        range(thrift, 0, 99);
        change();
        int old = now.flows.get(flow).thrift;
        now.flows.get(flow).thrift = thrift;
        return old;
    }

    int undo() {
        if (before.isEmpty()) {
            return -1;
        }
        now = before.remove(before.size() - 1);
        return before.size();
    }

    long checksum() {
        long sum = 0;
        for (long n : numbers()) {
            sum = 31 * sum + n;
        }
        return sum;
    }

    private List<Long> numbers() {
        List<Long> all = new ArrayList<>();
        for (int w = 0; w < 10; w++) {
            all.add((long) state(w));
        }
        for (int f = 0; f < now.flows.size(); f++) {
            for (int w = 0; w < 6; w++) {
                all.add((long) flow(f, w));
            }
        }
        for (int p = 0; p < now.packets.size(); p++) {
            for (int w = 0; w < 7; w++) {
                all.add((long) packet(p, w));
            }
        }
        for (int c = 0; c < now.coupons.size(); c++) {
            for (int w = 0; w < 4; w++) {
                all.add((long) coupon(c, w));
            }
        }
        for (int g = 0; g < now.gates.size(); g++) {
            for (int f = 0; f < now.flows.size(); f++) {
                all.add((long) tokens(g, f));
                all.add((long) queue(g, f));
            }
        }
        return all;
    }
}

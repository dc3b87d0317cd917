import java.util.ArrayList;
import java.util.List;
import java.util.Random;

/** Seeded runs of calls, each call made on PacketToll and on the plain model; a run ends at its first difference. */
public final class RandomRunsTest {
    private interface Call {
        long make();
    }

    private final Random random;
    private final RandomTexts texts;
    private final PacketToll toll = new PacketToll();
    private final PlainModel model = new PlainModel();
    private final List<String> done = new ArrayList<>();
    private boolean same = true;
    private int helps = 0;

    private RandomRunsTest(long seed) {
        random = new Random(seed);
        texts = new RandomTexts(random);
    }

    public static void main(String[] args) {
        int first = args.length > 0 ? Integer.parseInt(args[0]) : 1;
        int runs = args.length > 1 ? Integer.parseInt(args[1]) : 400;
        int calls = 0;
        int wrong = 0;
        for (int seed = first; seed < first + runs; seed++) {
            RandomRunsTest run = new RandomRunsTest(seed);
            run.run();
            calls += run.done.size();
            if (!run.same) {
                wrong++;
                System.out.println("seed " + seed + ":");
                run.done.forEach(line -> System.out.println("  " + line));
            }
        }
        System.out.println("RandomRunsTest: " + runs + " runs of " + calls + " calls, " + wrong + " with a wrong answer");
        System.exit(wrong == 0 ? 0 : 1);
    }

    private static String answer(Call call) {
        try {
            return String.valueOf(call.make());
        } catch (RuntimeException e) {
            return e.getClass().getName();
        }
    }

    private void compare(String what, Call got, Call due) {
        // nothing is promised of an object behind its 512th call
        if (!same || done.size() >= 512) {
            return;
        }
        String a = answer(got);
        String b = answer(due);
        same = a.equals(b);
        done.add(same ? what + " -> " + a : what + " -> " + a + ", due is " + b);
    }

    private void run() {
        load();
        for (int i = 0; i < 200 && same && done.size() < 512; i++) {
            change();
            query();
            compare("checksum()", toll::checksum, model::checksum);
        }
    }

    private int from(int least, int most) {
        return least + random.nextInt(most - least + 1);
    }

    /** An index that is mostly right, sometimes just outside or far away. */
    private int index(int size) {
        int kind = random.nextInt(30);
        if (kind == 0) {
            return -1;
        }
        if (kind == 1) {
            return size;
        }
        if (kind == 2) {
            return random.nextInt();
        }
        return size > 0 ? random.nextInt(size) : 0;
    }

    private int number(int least, int small, int most) {
        int kind = random.nextInt(40);
        if (kind == 0) {
            return least - 1;
        }
        if (kind == 1) {
            return most + 1;
        }
        if (kind == 2) {
            return random.nextInt();
        }
        if (kind == 3) {
            return most;
        }
        return kind < 8 ? from(least, most) : from(least, small);
    }

    private void load() {
        String text = texts.next();
        for (int i = 0; i < text.length(); i += 20) {
            int at = i;
            compare("append(" + text.substring(i, Math.min(i + 20, text.length())) + ")",
                    () -> toll.append(Checks.wordAt(text, at), Checks.wordAt(text, at + 4), Checks.wordAt(text, at + 8),
                            Checks.wordAt(text, at + 12), Checks.wordAt(text, at + 16)),
                    () -> model.append(Checks.wordAt(text, at), Checks.wordAt(text, at + 4), Checks.wordAt(text, at + 8),
                            Checks.wordAt(text, at + 12), Checks.wordAt(text, at + 16)));
        }
        int length = random.nextInt(12) == 0 ? from(-1, text.length() + 25) : text.length();
        compare("load(" + length + ")", () -> toll.load(length), () -> model.load(length));
        compare("errorOffset()", toll::errorOffset, model::errorOffset);
    }

    private void change() {
        int flow = index(model.state(2));
        int coupon = index(model.state(4));
        int a;
        int b;
        switch (from(0, 19)) {
            case 0: case 1: case 2: case 3: case 4: case 5: case 6:
                a = number(1, 4, 200);
                compare("pass(" + a + ")", () -> toll.pass(a), () -> model.pass(a));
                break;
            case 7: case 8: case 9: case 10:
                a = number(1, 30, 999);
                compare("send(" + flow + ", " + a + ")", () -> toll.send(flow, a), () -> model.send(flow, a));
                break;
            case 11: case 12: case 13:
                a = number(1, 30, 9999);
                b = number(1, 30, 9999);
                compare("grant(" + flow + ", " + a + ", " + b + ")",
                        () -> toll.grant(flow, a, b), () -> model.grant(flow, a, b));
                break;
            case 14: case 15:
                compare("forward(" + coupon + ", " + flow + ")",
                        () -> toll.forward(coupon, flow), () -> model.forward(coupon, flow));
                break;
            case 16:
                a = number(0, 5, 99);
                compare("setThrift(" + flow + ", " + a + ")",
                        () -> toll.setThrift(flow, a), () -> model.setThrift(flow, a));
                break;
            case 17: case 18:
                for (int undone = from(1, random.nextInt(5) == 0 ? 9 : 2); undone > 0; undone--) {
                    compare("undo()", toll::undo, model::undo);
                }
                break;
            default:
                if (random.nextInt(3) == 0) {
                    load();
                } else {
                    a = number(1, 4, 200);
                    compare("pass(" + a + ")", () -> toll.pass(a), () -> model.pass(a));
                }
                break;
        }
    }

    private void query() {
        int gate = index(model.state(1));
        int flow = index(model.state(2));
        int packet = index(model.state(3));
        int coupon = index(model.state(4));
        int a;
        switch (from(0, 13)) {
            case 0:
                a = number(0, 9, 9);
                compare("state(" + a + ")", () -> toll.state(a), () -> model.state(a));
                break;
            case 1:
                a = number(0, 2, 2);
                compare("gate(" + gate + ", " + a + ")", () -> toll.gate(gate, a), () -> model.gate(gate, a));
                break;
            case 2:
                a = number(0, 5, 5);
                compare("flow(" + flow + ", " + a + ")", () -> toll.flow(flow, a), () -> model.flow(flow, a));
                break;
            case 3:
                a = number(0, 3, 3);
                compare("route(" + flow + ", " + a + ")", () -> toll.route(flow, a), () -> model.route(flow, a));
                break;
            case 4:
                compare("tokens(" + gate + ", " + flow + ")",
                        () -> toll.tokens(gate, flow), () -> model.tokens(gate, flow));
                compare("queue(" + gate + ", " + flow + ")",
                        () -> toll.queue(gate, flow), () -> model.queue(gate, flow));
                break;
            case 5:
                a = number(0, 6, 6);
                compare("packet(" + packet + ", " + a + ")",
                        () -> toll.packet(packet, a), () -> model.packet(packet, a));
                break;
            case 6:
                a = number(0, 3, 3);
                compare("coupon(" + coupon + ", " + a + ")",
                        () -> toll.coupon(coupon, a), () -> model.coupon(coupon, a));
                break;
            case 7: case 8:
                a = number(1, 8, 999);
                compare("loadOver(" + gate + ", " + flow + ", " + a + ")",
                        () -> toll.loadOver(gate, flow, a), () -> model.loadOver(gate, flow, a));
                break;
            case 9:
                a = number(1, 8, 999);
                compare("curve(" + gate + ", " + a + ")", () -> toll.curve(gate, a), () -> model.curve(gate, a));
                break;
            case 10:
                compare("endsAt(" + packet + ")", () -> toll.endsAt(packet), () -> model.endsAt(packet));
                break;
            case 11:
                a = number(0, 20, 500);
                compare("billAfter(" + flow + ", " + a + ")",
                        () -> toll.billAfter(flow, a), () -> model.billAfter(flow, a));
                break;
            default:
                // the model's help is slow
                if (helps < 5) {
                    helps++;
                    compare("help(" + packet + ")", () -> toll.help(packet), () -> model.help(packet));
                }
                break;
        }
    }
}

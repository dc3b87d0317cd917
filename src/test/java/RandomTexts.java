import java.util.ArrayList;
import java.util.Collections;
import java.util.List;
import java.util.Random;

/** Setup texts by a seeded random source: mostly right ones, some with an error somewhere. */
final class RandomTexts {
    private final Random random;
    private StringBuilder text;
    private int gates;
    private int flows;
    private boolean tight;

    RandomTexts(Random random) {
        this.random = random;
    }

    private int from(int least, int most) {
        return least + random.nextInt(most - least + 1);
    }

    private boolean oneIn(int n) {
        return random.nextInt(n) == 0;
    }

    /** Small numbers most of the time, so that packets meet in queues. */
    private int mostly(int least, int small, int most) {
        return oneIn(6) ? from(least, most) : from(least, Math.min(small, most));
    }

    private void add(String word, int... numbers) {
        StringBuilder one = new StringBuilder(word);
        for (int i = 0; i < numbers.length; i++) {
            if (i > 0 || !tight && oneIn(2)) {
                one.append(' ');
            }
            if (oneIn(40)) {
                one.append("000");
            }
            one.append(numbers[i]);
        }
        addText(one.toString());
    }

    private void addText(String one) {
        String gap = !tight && oneIn(8) ? " " : "";
        if (text.length() + one.length() + gap.length() + 1 <= 700) {
            text.append(one).append(gap).append(';');
        }
    }

    String next() {
        text = new StringBuilder("toll;");
        tight = oneIn(2);
        boolean slow = oneIn(3);
        gates = oneIn(4) ? 6 : from(1, 4);
        flows = oneIn(4) ? 6 : from(1, 3);
        for (int i = 0; i < gates; i++) {
            add("gate", slow ? from(0, 1) : mostly(0, 5, 99), mostly(1, 20, 999), mostly(1, 3, 20));
        }
        for (int i = 0; i < flows; i++) {
            flow();
        }
        List<Runnable> rest = new ArrayList<>();
        int packets = oneIn(3) ? 40 : from(0, 12);
        for (int i = 0; i < packets; i++) {
            rest.add(() -> add("packet", from(0, flows - 1), mostly(0, 12, 999), mostly(1, 30, 999)));
        }
        int coupons = oneIn(3) ? from(26, 30) : from(0, 8);
        for (int i = 0; i < coupons; i++) {
            rest.add(() -> add("coupon", from(0, flows - 1), mostly(1, 25, 9999), mostly(1, 40, 9999)));
        }
        rest.add(this::others);
        Collections.shuffle(rest, random);
        rest.forEach(Runnable::run);
        return oneIn(4) ? spoiled(text.toString()) : text.toString();
    }

    /** A right text of two flows with small numbers and 27 to 29 coupons, most of them of flow 1. */
    String crowded() {
        text = new StringBuilder("toll;");
        tight = true;
        gates = from(2, 4);
        flows = 2;
        for (int i = 0; i < gates; i++) {
            add("gate", from(0, 2), from(1, 9), from(1, 3));
        }
        flow();
        flow();
        add("refund", from(50, 100), from(3, 42));
        int own = from(0, 2);
        for (int i = from(0, 2); i < 29; i++) {
            add("coupon", own > 0 ? 0 : 1, from(1, 12), oneIn(12) ? from(1, 20) : 60);
            own--;
        }
        for (int i = from(4, 15); i > 0; i--) {
            add("packet", oneIn(4) ? 1 : 0, from(0, 11), from(1, 14));
        }
        return text.toString();
    }

    private void flow() {
        List<Integer> all = new ArrayList<>();
        for (int g = 0; g < gates; g++) {
            all.add(g);
        }
        Collections.shuffle(all, random);
        StringBuilder one = new StringBuilder("flow");
        for (int g : all.subList(0, from(1, Math.min(4, gates)))) {
            one.append(' ').append(g);
        }
        if (oneIn(2)) {
            one.append(" thrift ").append(mostly(0, 4, 99));
        }
        addText(one.toString());
    }

    private void others() {
        if (oneIn(2)) {
            add("fee", mostly(0, 4, 99));
        }
        if (oneIn(2)) {
            add("refund", oneIn(2) ? 100 : from(0, 100), mostly(1, 9, 999));
        }
        if (!oneIn(3)) {
            addText("price " + sum(0));
        }
    }

    private String sum(int open) {
        StringBuilder all = new StringBuilder(term(open));
        while (oneIn(3)) {
            all.append(oneIn(2) ? "+" : "-").append(term(open));
        }
        return all.toString();
    }

    private String term(int open) {
        StringBuilder all = new StringBuilder(factor(open));
        while (oneIn(3)) {
            all.append(oneIn(2) ? "*" : "/").append(factor(open));
        }
        return all.toString();
    }

    private String factor(int open) {
        if (open < 4 && oneIn(4)) {
            return "(" + sum(open + 1) + ")";
        }
        if (oneIn(3)) {
            return String.valueOf(mostly(0, 9, 9999));
        }
        return List.of("size", "gate", "spent", "wait").get(from(0, 3));
    }

    private String spoiled(String whole) {
        StringBuilder some = new StringBuilder(whole);
        for (int edits = from(1, 2); edits > 0; edits--) {
            int at = random.nextInt(some.length());
            String bit = List.of(" ", ";", "0", "7", "99", "x", "gate", "flow", "packet", "coupon 0 1 1;", "fee 3;",
                    "refund 1 1;", "price 1;", "thrift", "(", ")", "((((", "+", "-", "*", "/", "size", "\u0000",
                    "\u00ff", "A", "gate 1 1 1;", "flow 0;", "packet 0 0 1;", " 0", " 1").get(from(0, 29));
            switch (from(0, 3)) {
                case 0 -> some.deleteCharAt(at);
                case 1 -> some.setLength(at + 1);
                case 2 -> some.replace(at, at + 1, bit);
                default -> some.insert(at, bit);
            }
        }
        if (some.length() > 700) {
            some.setLength(700);
        }
        return some.toString();
    }
}

import java.util.ArrayList;
import java.util.Arrays;
import java.util.HashMap;
import java.util.List;
import java.util.Map;
import java.util.Random;

/** Promises 6 and 12 to 17: plans made at random, and what the document's words say of them, followed word by word. */
public final class ModelTest {
    interface Expression {
        boolean isTrue(Map<String, String> known);
    }

    /** A text with what it says; numbers are known as their digits, texts with a ' before them. */
    record Told(String text, Expression says, int parts) {
    }

    record Serve(String text, int[] numbers, int[] values, String salt, String name) {
    }

    record Rule(int flag, Told when, Serve then, int number) {
    }

    private static final class Flag {
        Serve standard;
        int off;
        final List<int[]> needs = new ArrayList<>();
        final List<Rule> rules = new ArrayList<>();
    }

    private static final class Layer {
        int of = -1;
        final List<Integer> offs = new ArrayList<>();
        final List<Rule> rules = new ArrayList<>();
        final List<Integer> setFlags = new ArrayList<>();
        final List<Serve> sets = new ArrayList<>();
    }

    private final Random random;
    private final List<Told> segments = new ArrayList<>();
    private final List<Flag> flags = new ArrayList<>();
    private final List<Layer> layers = new ArrayList<>();
    private final List<Serve> serves = new ArrayList<>();
    private final StringBuilder text = new StringBuilder();
    private int rules = 0;
    private int offAndSet = 0;
    private int parts = 0;
    private final Map<String, String> known = new HashMap<>();
    private int[] why = new int[5];

    public static void main(String[] args) {
        for (int seed = 0; seed < 300; seed++) {
            new ModelTest(seed).compare();
        }
        Probe.finish();
    }

    private ModelTest(int seed) {
        random = new Random(seed);
        for (int i = random.nextInt(4); i > 0; i--) {
            Told told = expression(2);
            text.append("segment s").append(segments.size()).append(" = ").append(told.text).append(";\n");
            segments.add(told);
            parts += told.parts;
        }
        int count = 1 + random.nextInt(6);
        int[] rank = random.ints(count).toArray();
        for (int i = 0; i < count; i++) {
            makeFlag(i, rank);
        }
        for (int i = random.nextInt(5); i > 0; i--) {
            makeLayer();
        }
    }

    private <T> T one(List<T> all) {
        return all.get(random.nextInt(all.size()));
    }

    private String thing() {
        return one(List.of("0", "1", "-1", "2", "'", "'a", "'b", "'ab", "'1"));
    }

    private static String spelled(String thing) {
        return thing.startsWith("'") ? thing + "'" : thing;
    }

    private String name() {
        return "k" + random.nextInt(3);
    }

    private Told expression(int depth) {
        int which = depth == 0 ? 4 + random.nextInt(4) : random.nextInt(8);
        if (which <= 1) {
            return row(which == 0, depth);
        }
        if (which == 2) {
            Told inner = expression(depth - 1);
            return new Told("not (" + inner.text + ")", k -> !inner.says.isTrue(k), inner.parts + 1);
        }
        if (which == 3 && !segments.isEmpty()) {
            int s = random.nextInt(segments.size());
            return new Told("in s" + s, k -> segments.get(s).says.isTrue(k), 1);
        }
        return which == 4 ? new Told("true", k -> true, 1) : test();
    }

    private Told row(boolean isOr, int depth) {
        List<Told> members = new ArrayList<>();
        StringBuilder row = new StringBuilder();
        int sum = 1;
        for (int i = 2 + random.nextInt(3); i > 0; i--) {
            Told member = expression(depth - 1);
            row.append(row.length() == 0 ? "" : isOr ? " or " : " and ").append('(').append(member.text).append(')');
            members.add(member);
            sum += member.parts;
        }
        Expression says = k -> isOr ? members.stream().anyMatch(m -> m.says.isTrue(k)) : members.stream().allMatch(m -> m.says.isTrue(k));
        return new Told(row.toString(), says, sum);
    }

    private Told test() {
        String name = name();
        String one = thing();
        String other = thing();
        int number = random.nextInt(4) - 1;
        String piece = one(List.of("", "a", "b", "1"));
        switch (random.nextInt(7)) {
            case 0:
                return new Told(name + " is " + spelled(one), k -> one.equals(k.get(name)), 1);
            case 1:
                return new Told(name + " among (" + spelled(one) + ", " + spelled(other) + ")",
                        k -> one.equals(k.get(name)) || other.equals(k.get(name)), 2);
            case 2:
                return new Told(name + " given", k -> k.containsKey(name), 1);
            case 3:
                return new Told(name + " below " + number, k -> isNumber(k.get(name)) && Integer.parseInt(k.get(name)) < number, 1);
            case 4:
                return new Told(name + " above " + number, k -> isNumber(k.get(name)) && Integer.parseInt(k.get(name)) > number, 1);
            case 5:
                return new Told(name + " begins '" + piece + "'", k -> isText(k.get(name)) && k.get(name).substring(1).startsWith(piece), 1);
            default:
                return new Told(name + " holds '" + piece + "'", k -> isText(k.get(name)) && k.get(name).substring(1).contains(piece), 1);
        }
    }

    private static boolean isText(String thing) {
        return thing != null && thing.startsWith("'");
    }

    private static boolean isNumber(String thing) {
        return thing != null && !thing.startsWith("'");
    }

    private Serve serve() {
        int a = random.nextInt(3);
        int b = random.nextInt(3);
        int share = one(List.of(0, 2500, 5000, 9999, 10000));
        String salt = one(List.of("", "s", "salt"));
        String name = name();
        int which = random.nextInt(3);
        if (which == 0) {
            return new Serve(Integer.toString(a), null, new int[] {a}, null, null);
        }
        String told = which == 1 ? "roll " + share + " " + name + " '" + salt + "' " + a + " else " + b
                : "split " + name + " '" + salt + "' (" + share + ":" + a + ", " + (10000 - share) + ":" + b + ")";
        Serve serve = new Serve(told, new int[] {share, 10000 - share}, new int[] {a, b}, salt, name);
        serves.add(serve);
        return serve;
    }

    private Rule rule(int flag) {
        Told when = expression(1);
        parts += when.parts;
        rules++;
        return new Rule(flag, when, serve(), rules - 1);
    }

    private void makeFlag(int number, int[] rank) {
        Flag flag = new Flag();
        flag.standard = serve();
        flag.off = random.nextInt(3);
        text.append("flag f").append(number).append(" : num { default ").append(flag.standard.text).append("; off ").append(flag.off)
                .append(";\n");
        for (int i = random.nextInt(3); i > 0; i--) {
            int needed = random.nextInt(rank.length);
            if (rank[needed] > rank[number]) {
                flag.needs.add(new int[] {needed, random.nextInt(3)});
                text.append("needs f").append(needed).append(" = ").append(flag.needs.get(flag.needs.size() - 1)[1]).append(";");
            }
        }
        for (int i = random.nextInt(3); i > 0; i--) {
            Rule rule = rule(number);
            flag.rules.add(rule);
            text.append("rule ").append(rule.when.text).append(" -> ").append(rule.then.text).append(";");
        }
        text.append("}\n");
        flags.add(flag);
    }

    private void makeLayer() {
        Layer layer = new Layer();
        text.append("layer l").append(layers.size());
        if (!layers.isEmpty() && random.nextBoolean()) {
            layer.of = random.nextInt(layers.size());
            text.append(" of l").append(layer.of);
        }
        text.append(" {\n");
        for (int i = random.nextInt(5); i > 0; i--) {
            int flag = random.nextInt(flags.size());
            int which = random.nextInt(4);
            if (which == 0) {
                layer.offs.add(flag);
                text.append("off f").append(flag).append(";");
            } else if (which == 1) {
                Serve serve = serve();
                layer.setFlags.add(flag);
                layer.sets.add(serve);
                text.append("set f").append(flag).append(" = ").append(serve.text).append(";");
            } else {
                Rule rule = rule(flag);
                layer.rules.add(rule);
                text.append("rule f").append(flag).append(" ").append(rule.when.text).append(" -> ").append(rule.then.text).append(";");
            }
            offAndSet += which <= 1 ? 1 : 0;
        }
        text.append("}\n");
        layers.add(layer);
    }

    private int served(Serve serve, int reason, int layer, int rule) {
        why = new int[] {reason, layer, rule, -1, -1};
        String thing = serve.name == null ? null : known.get(serve.name);
        int last = serve.values.length - 1;
        if (thing == null) {
            return serve.values[last];
        }
        int place = Probe.placeOf(serve.salt, isText(thing) ? thing.substring(1) : thing);
        why[3] = place;
        return place < serve.numbers[0] ? serve.values[0] : serve.values[last];
    }

    private int worth(int number, int layer) {
        Flag flag = flags.get(number);
        for (int at = layer; at >= 0; at = layers.get(at).of) {
            Layer looked = layers.get(at);
            if (looked.offs.contains(number)) {
                why = new int[] {3, at, -1, -1, -1};
                return flag.off;
            }
            for (Rule rule : looked.rules) {
                if (rule.flag == number && rule.when.says.isTrue(known)) {
                    return served(rule.then, 4, at, rule.number);
                }
            }
            if (looked.setFlags.contains(number)) {
                return served(looked.sets.get(looked.setFlags.indexOf(number)), 5, at, -1);
            }
        }
        for (int[] need : flag.needs) {
            if (worth(need[0], layer) != need[1]) {
                why = new int[] {1, -1, -1, -1, need[0]};
                return flag.off;
            }
        }
        for (Rule rule : flag.rules) {
            if (rule.when.says.isTrue(known)) {
                return served(rule.then, 2, -1, rule.number);
            }
        }
        return served(flag.standard, 0, -1, -1);
    }

    private int bits(int flag) {
        int bits = 0;
        for (int[] need : flags.get(flag).needs) {
            bits |= 1 << need[0] | bits(need[0]);
        }
        return bits;
    }

    private void compare() {
        Probe probe = Probe.loaded(text.toString());
        int[] counts = {segments.size(), flags.size(), layers.size(), rules, offAndSet, serves.size(), parts};
        for (int what = 0; what < counts.length; what++) {
            Probe.due("count(" + what + ") of " + text, probe.x().count(what), counts[what]);
        }
        for (int round = 0; round < 3; round++) {
            compareWorths(probe);
            String name = name();
            String thing = thing();
            known.put(name, thing);
            probe.knowing(name + " = " + spelled(thing));
        }
        compareOrder(probe);
        for (int k = 0; k < serves.size(); k++) {
            int want = 0;
            for (int i = 0; i < 2; i++) {
                want += serves.get(k).values[i] == 1 ? serves.get(k).numbers[i] : 0;
            }
            Probe.due("share(" + k + ", 1) of " + text, probe.x().share(k, 1), want);
        }
    }

    private void compareWorths(Probe probe) {
        int layer = random.nextInt(layers.size() + 1) - 1;
        for (int i = 0; i < flags.size(); i++) {
            String call = "value(" + i + ", " + layer + ") with " + known + " of " + text;
            Probe.due(call, probe.x().value(i, layer), worth(i, layer));
            int[] got = new int[5];
            for (int what = 0; what < 5; what++) {
                got[what] = probe.x().why(what);
            }
            Probe.due("why " + Arrays.toString(got) + " due " + Arrays.toString(why) + " of " + call, Arrays.equals(got, why) ? 1 : 0, 1);
        }
        for (int s = 0; s < segments.size(); s++) {
            Probe.due("isIn(" + s + ") with " + known + " of " + text, probe.x().isIn(s), segments.get(s).says.isTrue(known) ? 1 : 0);
        }
    }

    private void compareOrder(Probe probe) {
        int done = 0;
        for (int i = 0; i < flags.size(); i++) {
            Probe.due("needs(" + i + ") of " + text, probe.x().needs(i), bits(i));
            int least = 0;
            while ((done >> least & 1) != 0 || (bits(least) & ~done) != 0) {
                least++;
            }
            Probe.due("order(" + i + ") of " + text, probe.x().order(i), least);
            done |= 1 << least;
        }
    }
}

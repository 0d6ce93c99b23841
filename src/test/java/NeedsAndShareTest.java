/** Promises 15, 16 and 17: needs, order, share. */
public final class NeedsAndShareTest {
    public static void main(String[] args) {
        needsAndOrder();
        withoutNeeds();
        shares();
        Probe.finish();
    }

    private static String flag(String name, String... needed) {
        StringBuilder text = new StringBuilder("flag " + name + " : bool { default true; off false;");
        for (String n : needed) {
            text.append(" needs ").append(n).append(" = true;");
        }
        return text.append(" } ").toString();
    }

    private static void needsAndOrder() {
        FlagLayers x = Probe.loaded(flag("a", "d", "d") + flag("b") + flag("c", "a") + flag("d", "f") + flag("e", "c", "b")
                + flag("f")).x();
        int[] needs = {0b101000, 0, 0b101001, 0b100000, 0b101111, 0};
        int[] order = {1, 5, 3, 0, 2, 4};
        for (int i = 0; i < needs.length; i++) {
            Probe.due("needs(" + i + ")", x.needs(i), needs[i]);
            Probe.due("order(" + i + ")", x.order(i), order[i]);
        }
        for (int i : new int[] {-1, 6, 24, Integer.MIN_VALUE, Integer.MAX_VALUE}) {
            Probe.dueThrow("needs(" + i + ")", Probe.INDEX, () -> x.needs(i));
            Probe.dueThrow("order(" + i + ")", Probe.INDEX, () -> x.order(i));
        }
        Probe.dueThrow("needs of nothing", Probe.INDEX, () -> new FlagLayers().needs(0));
        Probe.dueThrow("order of nothing", Probe.INDEX, () -> new FlagLayers().order(0));
    }

    private static void withoutNeeds() {
        FlagLayers x = Probe.loaded(flag("a") + flag("b") + flag("c")).x();
        for (int i = 0; i < 3; i++) {
            Probe.due("needs(" + i + ")", x.needs(i), 0);
            Probe.due("order(" + i + ")", x.order(i), i);
        }
    }

    private static void shares() {
        FlagLayers x = Probe.loaded("flag a : choice(x, y, z) { default roll 3000 k 's' y else z; off x;"
                + " rule true -> split k 's' (1000:x, 2000:y, 500:x, 6500:z, 0:y); }"
                + "flag b : bool { default roll 1 k 's' true else true; off true; }"
                + "flag c : num { default 4; off 4; }"
                + "layer l { set c = roll 10000 k 's' -5 else 7; set c = split k 's' (10000:-1); }").x();
        int[][] want = {{0, 0, 0}, {0, 1, 3000}, {0, 2, 7000}, {0, 3, 0}, {0, -1, 0}, {1, 0, 1500}, {1, 1, 2000}, {1, 2, 6500},
            {2, 1, 10000}, {2, 0, 0}, {3, -5, 10000}, {3, 7, 0}, {4, -1, 10000}, {4, Integer.MIN_VALUE, 0},
            {4, Integer.MAX_VALUE, 0}};
        for (int[] w : want) {
            Probe.due("share(" + w[0] + ", " + w[1] + ")", x.share(w[0], w[1]), w[2]);
        }
        for (int k : new int[] {-1, 5, 100, Integer.MIN_VALUE, Integer.MAX_VALUE}) {
            Probe.dueThrow("share(" + k + ", 0)", Probe.INDEX, () -> x.share(k, 0));
        }
    }
}

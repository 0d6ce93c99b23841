/** Promises 15, 16 and 17: needs, order, share. */
public final class NeedsAndShareTest {
    public static void main(String[] args) {
        needsAndOrder();
        withoutNeeds();
        mostFlags();
        stays();
        shares();
        fullShares();
        Probe.finish();
    }

    private static String flag(String name, String... needed) {
        StringBuilder text = new StringBuilder("flag " + name + " : bool { default true; off false;");
        for (String n : needed) {
            text.append(" needs ").append(n).append(" = true;");
        }
        return text.append(" } ").toString();
    }

    private static void needsAndOrder() {
        FlagLayers x = Probe.loaded(flag("a", "d", "d") + flag("b") + flag("c", "a") + flag("d", "f") + flag("e", "c", "b")
                + flag("f")).x();
        int[] needs = {0b101000, 0, 0b101001, 0b100000, 0b101111, 0};
        int[] order = {1, 5, 3, 0, 2, 4};
        for (int i = 0; i < needs.length; i++) {
            Probe.due("needs(" + i + ")", x.needs(i), needs[i]);
            Probe.due("order(" + i + ")", x.order(i), order[i]);
        }
        for (int i : new int[] {-1, 6, 24, Integer.MIN_VALUE, Integer.MAX_VALUE}) {
            Probe.dueThrow("needs(" + i + ")", Probe.INDEX, () -> x.needs(i));
            Probe.dueThrow("order(" + i + ")", Probe.INDEX, () -> x.order(i));
        }
        Probe.dueThrow("needs of nothing", Probe.INDEX, () -> new FlagLayers().needs(0));
        Probe.dueThrow("order of nothing", Probe.INDEX, () -> new FlagLayers().order(0));
    }

    private static void withoutNeeds() {
        FlagLayers x = Probe.loaded(flag("a") + flag("b") + flag("c")).x();
        for (int i = 0; i < 3; i++) {
            Probe.due("needs(" + i + ")", x.needs(i), 0);
            Probe.due("order(" + i + ")", x.order(i), i);
        }
    }

    private static void shares() {
        FlagLayers x = Probe.loaded("flag a : choice(x, y, z) { default roll 3000 k 's' y else z; off x;"
                + " rule true -> split k 's' (1000:x, 2000:y, 500:x, 6500:z, 0:y); }"
                + "flag b : bool { default roll 1 k 's' true else true; off true; }"
                + "flag c : num { default 4; off 4; }"
                + "layer l { set c = roll 10000 k 's' -5 else 7; set c = split k 's' (10000:-1); }").x();
        int[][] want = {{0, 0, 0}, {0, 1, 3000}, {0, 2, 7000}, {0, 3, 0}, {0, -1, 0}, {1, 0, 1500}, {1, 1, 2000}, {1, 2, 6500},
            {2, 1, 10000}, {2, 0, 0}, {3, -5, 10000}, {3, 7, 0}, {4, -1, 10000}, {4, Integer.MIN_VALUE, 0},
            {4, Integer.MAX_VALUE, 0}};
        for (int[] w : want) {
            Probe.due("share(" + w[0] + ", " + w[1] + ")", x.share(w[0], w[1]), w[2]);
        }
        for (int k : new int[] {-1, 5, 100, Integer.MIN_VALUE, Integer.MAX_VALUE}) {
            Probe.dueThrow("share(" + k + ", 0)", Probe.INDEX, () -> x.share(k, 0));
        }
    }

    /** Of 24 flags each needs the one before it, or the one behind it: all bits but its own, from one side. */
    private static void mostFlags() {
        StringBuilder up = new StringBuilder();
        StringBuilder down = new StringBuilder();
        for (int i = 0; i < 24; i++) {
            up.append(i == 0 ? flag("f0") : flag("f" + i, "f" + (i - 1)));
            down.append(i == 23 ? flag("f23") : flag("f" + i, "f" + (i + 1)));
        }
        FlagLayers upward = Probe.loaded(up.toString()).x();
        FlagLayers downward = Probe.loaded(down.toString()).x();
        for (int i = 0; i < 24; i++) {
            Probe.due("upward needs(" + i + ")", upward.needs(i), (1 << i) - 1);
            Probe.due("upward order(" + i + ")", upward.order(i), i);
            Probe.due("downward needs(" + i + ")", downward.needs(i), 0xffffff & -2 << i);
            Probe.due("downward order(" + i + ")", downward.order(i), 23 - i);
        }
        Probe.dueThrow("needs(24)", Probe.INDEX, () -> upward.needs(24));
        Probe.dueThrow("order(24)", Probe.INDEX, () -> downward.order(24));
        // The least number first, wherever needs leave it free.
        FlagLayers mixed = Probe.loaded(flag("a", "f") + flag("b", "c") + flag("c") + flag("d", "e", "b") + flag("e", "c") + flag("f")).x();
        int[] order = {2, 1, 4, 3, 5, 0};
        for (int i = 0; i < order.length; i++) {
            Probe.due("mixed order(" + i + ")", mixed.order(i), order[i]);
        }
    }

    /** needs, order and share go by the text, not by layers or what is known. */
    private static void stays() {
        Probe probe = Probe.loaded(flag("a", "b") + "flag b:bool{default roll 1 k'' true else false;off false;}layer l{off a;off b;}");
        for (String thing : new String[] {"k = 1", "k = 'a'"}) {
            probe.knowing(thing);
            probe.x().value(0, 0);
            Probe.due("needs(0)", probe.x().needs(0), 2);
            Probe.due("order(0)", probe.x().order(0), 1);
            Probe.due("share(0, 1)", probe.x().share(0, 1), 1);
            Probe.due("share(0, 0)", probe.x().share(0, 0), 9999);
        }
    }

    private static void fullShares() {
        FlagLayers x = Probe.loaded("flag a:num{default split k''(1:1,2:2,3:3,4:4,5:5,6:6,7:7,9972:8);off 0;"
                + "rule true->split k''(0:1,0:2,10000:3);rule true->roll 0 k''1 else 2;rule true->roll 10000 k''1 else 2;"
                + "rule true->roll 5000 k''1 else 1;rule true->split k''(2500:-1,2500:-1,2500:-1,2500:-1);}").x();
        int[] eight = {0, 1, 2, 3, 4, 5, 6, 7, 9972, 0};
        for (int value = 0; value < eight.length; value++) {
            Probe.due("share(0, " + value + ")", x.share(0, value), eight[value]);
        }
        int[][] want = {{1, 1, 0}, {1, 3, 10000}, {2, 1, 0}, {2, 2, 10000}, {3, 1, 10000}, {3, 2, 0}, {4, 1, 10000}, {5, -1, 10000},
            {5, 1, 0}};
        for (int[] w : want) {
            Probe.due("share(" + w[0] + ", " + w[1] + ")", x.share(w[0], w[1]), w[2]);
        }
        Probe.dueThrow("share(6, 1)", Probe.INDEX, () -> x.share(6, 1));
        Probe.dueThrow("share without any", Probe.INDEX, () -> Probe.loaded(flag("a")).x().share(0, 1));
    }
}

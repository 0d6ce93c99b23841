import java.nio.charset.StandardCharsets;

/** Asks one object at a time and keeps count of the answers that are not as due. */
final class Probe {
    static final String STATE = "IllegalStateException";
    static final String ARGUMENT = "IllegalArgumentException";
    static final String INDEX = "IndexOutOfBoundsException";

    interface Call {
        long answer();
    }

    private static int wrong = 0;

    private FlagLayers x = new FlagLayers();

    FlagLayers x() {
        return x;
    }

    /** Puts these bytes on the tape in place of what it had. */
    void tape(String text) {
        byte[] bytes = text.getBytes(StandardCharsets.ISO_8859_1);
        x.end(0);
        for (int i = 0; i < bytes.length; i += 20) {
            x.feed(word(bytes, i), word(bytes, i + 4), word(bytes, i + 8), word(bytes, i + 12), word(bytes, i + 16));
        }
        x.end(bytes.length);
    }

    private static int word(byte[] bytes, int at) {
        int word = 0;
        for (int i = at; i < at + 4; i++) {
            word = word << 8 | (i < bytes.length ? bytes[i] & 255 : 0);
        }
        return word;
    }

    static Probe loaded(String text) {
        Probe probe = new Probe();
        probe.tape(text);
        due("load of " + text, probe.x.load() >= 0 ? 0 : probe.x.fault(), 0);
        return probe;
    }

    Probe knowing(String... things) {
        for (String thing : things) {
            tape(thing);
            due("know " + thing, x.know(), 1);
        }
        return this;
    }

    int find(int kind, String name) {
        tape(name);
        return x.find(kind);
    }

    /** Loads a text whose token at fault has a ^ before it. */
    static void dueFault(String marked, int kind) {
        int place = marked.indexOf('^');
        String text = marked.substring(0, place) + marked.substring(place + 1);
        Probe probe = new Probe();
        probe.tape(text);
        due("load of " + marked, probe.x.load(), -1 - place);
        due("fault of " + marked, probe.x.fault(), kind);
    }

    static void dueRight(String text, int flags) {
        Probe probe = new Probe();
        probe.tape(text);
        due("load of " + text, probe.x.load(), flags);
        due("fault of " + text, probe.x.fault(), 0);
    }

    static void due(String call, long got, long want) {
        if (got != want) {
            wrong++;
            System.out.println(call + " answered " + got + ", due is " + want);
        }
    }

    static void dueThrow(String call, String exception, Call asked) {
        String got;
        try {
            got = "nothing, but answered " + asked.answer();
        } catch (RuntimeException thrown) {
            got = thrown.getClass().getSimpleName();
        }
        if (!got.equals(exception)) {
            wrong++;
            System.out.println(call + " threw " + got + ", due is " + exception);
        }
    }

    /** value() and then all five answers of why(). */
    void dueValue(int flag, int layer, int want, int... why) {
        String call = "value(" + flag + ", " + layer + ")";
        due(call, x.value(flag, layer), want);
        for (int i = 0; i < why.length; i++) {
            due(call + " and why(" + i + ")", x.why(i), why[i]);
        }
    }

    /** h of the document, followed apart from the class, before it is taken modulo 10000. */
    static long mixed(String salt, String thing) {
        long h = -3750763034362895579L;
        for (char b : (salt + "\0" + thing).toCharArray()) {
            h = (h ^ b) * 1099511628211L;
        }
        return h ^ h >>> 32;
    }

    static int placeOf(String salt, String thing) {
        return (int) Long.remainderUnsigned(mixed(salt, thing), 10000);
    }

    static String times(int count, String text) {
        return text.repeat(count);
    }

    static void finish() {
        System.out.println(wrong == 0 ? "all answers are as due" : wrong + " answers are not as due");
        if (wrong != 0) {
            System.exit(1);
        }
    }
}

import java.nio.charset.StandardCharsets;

/** The example of README.md, call by call. */
public final class ReadmeTest {
    private static final String TEXT = """
            segment staff = mail ends '@us' or who is 'root';
            flag base : bool { default true; off false; }
            flag dark : choice (no, dim, full) {
              default roll 3000 who 'salt' dim else no;
              off no;
              needs base = true;
              rule in staff -> full;
            }
            layer grown { rule dark age above 17 -> dim; }
            layer night of grown { off base; }
            """;

    public static void main(String[] args) {
        FlagLayers x = new FlagLayers();
        put(x, TEXT);
        Probe.due("load()", x.load(), 2);
        Probe.due("fault()", x.fault(), 0);
        put(x, "who = 'ann'");
        Probe.due("know()", x.know(), 1);
        put(x, "dark");
        int dark = x.find(1);
        Probe.due("find(1)", dark, 1);

        Probe.due("value(dark, NONE)", x.value(dark, FlagLayers.NONE), 0);
        Probe.due("why(0)", x.why(0), 0);
        Probe.due("why(3)", x.why(3), 8263);
        Probe.due("value(dark, 1)", x.value(dark, 1), 0);
        Probe.due("why(0)", x.why(0), 1);
        Probe.due("why(4)", x.why(4), 0);
        put(x, "age = 18");
        x.know();
        Probe.due("value(dark, 1)", x.value(dark, 1), 1);
        Probe.due("why(0)", x.why(0), 4);
        Probe.due("why(1)", x.why(1), 0);
        Probe.due("share(0, 1)", x.share(0, 1), 3000);
        Probe.finish();
    }

    private static void put(FlagLayers x, String text) {
        byte[] bytes = text.getBytes(StandardCharsets.US_ASCII);
        for (int i = 0; i < bytes.length; i += 20) {
            x.feed(four(bytes, i), four(bytes, i + 4), four(bytes, i + 8), four(bytes, i + 12), four(bytes, i + 16));
        }
        x.end(bytes.length);
    }

    private static int four(byte[] bytes, int at) {
        int number = 0;
        for (int i = at; i < at + 4; i++) {
            number = number << 8 | (i < bytes.length ? bytes[i] : 0);
        }
        return number;
    }
}

/** Promises 4 and 5: a fault at each single token of texts that are right otherwise, whatever comes behind it. */
public final class GrammarTest {
    /** Paragraphs, each told behind those before it; blanks between all tokens. */
    private static final String[] RIGHT = {
        "segment s = true ;",
        "segment t = in s and not ( k given or false ) or k is 1 ;",
        "segment u = k is 'a' or k below 1 or k above -1 or k begins '' or k ends 'b' or k holds 'c' or k among ( 1 , 'x' , 2 ) ;",
        "flag a : bool { default true ; off false ; }",
        "flag b : num { default -1 ; off 1 ; rule in t -> roll 5 k 't' 1 else 2 ; }",
        "flag c : choice ( x , y , z ) { default y ; off z ; needs b = 1 ; needs a = true ; rule true -> x ; rule k is 1 -> z ; }",
        "flag d : num { default split k 's' ( 1 : 5 , 9999 : -5 ) ; off 0 ; }",
        "flag e : bool { default roll 1 k '' true else false ; off true ; }",
        "layer l { }",
        "layer m of l { off a ; set a = true ; rule e k given -> split k '' ( 10000 : false ) ; set d = roll 0 k 'x' 1 else 2 ; }"};
    private static final String[] BROKEN = {"#", "12a", "1234567890", "-", "'", "'0123456789abcdefg'", "bool_and_more_than"};
    /** Each of these words and signs can come at one place of a paragraph alone, if at all. */
    private static final String[] MISPLACED = {"else", "default", ":", "{"};
    /** These begin a paragraph, and nothing within one. */
    private static final String[] BEGINNINGS = {"segment", "flag", "layer"};

    public static void main(String[] args) {
        StringBuilder told = new StringBuilder();
        for (String paragraph : RIGHT) {
            String[] tokens = paragraph.split(" ");
            for (int i = 0; i < tokens.length; i++) {
                faultsAt(told.toString(), tokens, i);
            }
            told.append(paragraph).append(' ');
        }
        Probe.dueRight(told.toString(), 5);
        Probe.finish();
    }

    private static void faultsAt(String told, String[] tokens, int at) {
        StringBuilder start = new StringBuilder(told);
        for (int i = 0; i < at; i++) {
            start.append(tokens[i]).append(' ');
        }
        String rest = "\n" + String.join("\n", tokens);
        for (String broken : BROKEN) {
            Probe.dueFault(start + "^" + broken + rest, 1);
        }
        for (String misplaced : MISPLACED) {
            if (!misplaced.equals(tokens[at]) && !(misplaced.equals("{") && tokens[at].equals("of"))) {
                Probe.dueFault(start + "^" + misplaced + rest, 2);
            }
        }
        if (at > 0) {
            Probe.dueFault(start + "^", 2);
            for (String beginning : BEGINNINGS) {
                Probe.dueFault(start + "^" + beginning + rest, 2);
            }
        }
    }
}

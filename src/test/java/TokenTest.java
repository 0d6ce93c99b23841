/** Terms, TOKENS: which byte begins a token or goes on in one, how long one may be, which words are no NAMES. */
public final class TokenTest {
    private static final String BLANKS = "\t\n\r ";
    private static final String DIGITS = "0123456789";
    private static final String LETTERS = "abcdefghijklmnopqrstuvwxyzABCDEFGHIJKLMNOPQRSTUVWXYZ";
    private static final String SIGNS = "{}();,:=";
    private static final String NO_NAMES = "flag bool num choice default off needs rule layer of set segment split roll else in"
            + " not or and true false is below above begins ends holds among given";
    private static final String A = "flag a:bool{default true;off true;}";
    private static final String C = "flag c:choice(x){default x;off x;";

    public static void main(String[] args) {
        for (int b = 0; b < 256; b++) {
            firstByte((char) b);
            byteOfWord((char) b);
            byteBehindNumber((char) b);
            byteBehindMinus((char) b);
            byteOfText((char) b);
        }
        greaterBehindOthers();
        blanksAnywhere();
        lengthsOfWords();
        lengthsOfNumbers();
        lengthsOfTexts();
        tokensThatFillTheTape();
        tokensEndWithTheTape();
        for (String word : NO_NAMES.split(" ")) {
            wordThatIsNoName(word);
        }
        Probe.finish();
    }

    private static boolean isOf(String bytes, char b) {
        return bytes.indexOf(b) >= 0;
    }

    private static void dueKnow(String thing, boolean isRight) {
        Probe probe = new Probe();
        probe.tape(thing);
        if (isRight) {
            Probe.due("know " + thing, probe.x().know(), 1);
        } else {
            Probe.dueThrow("know " + thing, Probe.ARGUMENT, () -> probe.x().know());
        }
    }

    /** A byte that begins no token is a fault 1, a token that no text begins with a fault 2. */
    private static void firstByte(char b) {
        if (isOf(BLANKS, b)) {
            Probe.dueRight("" + b, 0);
        } else {
            Probe.dueFault("^" + b, isOf(LETTERS + DIGITS + SIGNS, b) ? 2 : 1);
        }
    }

    private static void byteOfWord(char b) {
        boolean goesOn = isOf(LETTERS + DIGITS + "_", b);
        dueKnow("a" + b + "a=1", goesOn);
        dueKnow("a" + b + "=1", goesOn || isOf(BLANKS, b));
        dueKnow(b + "a=1", isOf(LETTERS + BLANKS, b));
    }

    private static void byteBehindNumber(char b) {
        String before = "segment s=k is ";
        if (isOf(LETTERS + "_", b)) {
            Probe.dueFault(before + "^1" + b, 1);
        } else if (isOf(DIGITS + BLANKS, b)) {
            Probe.dueFault(before + "1" + b + "^", 2);
        } else if (b == ';') {
            Probe.dueRight(before + "1" + b, 0);
        } else {
            Probe.dueFault(before + "1^" + b, isOf(SIGNS, b) ? 2 : 1);
        }
    }

    private static void byteBehindMinus(char b) {
        String before = "segment s=k is ";
        if (isOf(DIGITS, b)) {
            Probe.dueRight(before + "-" + b + ";", 0);
        } else {
            Probe.dueFault(before + "^-" + b, b == '>' ? 2 : 1);
        }
    }

    private static void byteOfText(char b) {
        boolean goesOn = b >= 32 && b <= 126 && b != '\'';
        dueKnow("k='" + b + "'", goesOn);
        if (goesOn) {
            Probe.dueRight("segment s=k is 'a" + b + "';", 0);
        } else if (b == '\'') {
            Probe.dueFault("segment s=k is 'a'^';", 1);
        } else {
            Probe.dueFault("segment s=k is ^'a" + b + "';", 1);
        }
    }

    /** Only behind - is > the rest of a sign; behind all else it begins no token. */
    private static void greaterBehindOthers() {
        for (String right : new String[] {"segment s=", "segment s=(", "segment s=(true)", "segment s=true;", "segment s=k among(1,",
            "flag a:", A, "layer l{", "segment s=k is 1", "segment s=k is 'a'", "segment s", " ", A + "layer l{rule a true->"}) {
            Probe.dueFault(right + "^>", 1);
        }
        Probe.dueFault("^#>", 1);
        Probe.dueFault("segment s=^\0>", 1);
        Probe.dueFault(A + "layer l{rule a true ^- > true;}", 1);
        Probe.dueRight(A + "layer l{rule a k is-1->true;}", 1);
    }

    private static void blanksAnywhere() {
        String[] tokens = ("flag a : choice ( x , y ) { default split k 's' ( 1 : x , 9999 : y ) ; off x ; rule k is -1 or not"
                + " ( k among ( 2 , 't' ) ) -> roll 5 k '' x else y ; } layer l { } layer m of l { set a = x ; }").split(" ");
        for (String blanks : new String[] {" ", "\t", "\n", "\r", " \t\r\n "}) {
            Probe.dueRight(blanks + String.join(blanks, tokens) + blanks, 1);
        }
        // Without any, but between words and numbers that would run together.
        Probe.dueRight("flag a:choice(x,y){default split k's'(1:x,9999:y);off x;rule k is-1 or not(k among(2,'t'))->"
                + "roll 5 k''x else y;}layer l{}layer m of l{set a=x;}", 1);
    }

    private static void lengthsOfWords() {
        String sixteen = "a234567890_23456";
        dueKnow("a=1", true);
        dueKnow(sixteen + "=1", true);
        dueKnow(sixteen + "7=1", false);
        Probe.dueRight("segment " + sixteen + "=true;", 0);
        Probe.dueFault("segment ^" + sixteen + "7=true;", 1);
        // Too long, though it begins as a word of the language, or as a name that is there.
        Probe.dueFault("^segmentsegmentsegment s=true;", 1);
        Probe.dueFault("segment " + sixteen + "=true; segment t=in ^" + sixteen + "7;", 1);
    }

    private static void lengthsOfNumbers() {
        String before = "flag a:num{default ";
        for (String right : new String[] {"0", "-0", "000000000", "999999999", "-999999999", "-000000001"}) {
            Probe.dueRight(before + right + ";off " + right + ";}", 1);
            dueKnow("k=" + right, true);
        }
        for (String wrong : new String[] {"0000000000", "1000000000", "-1000000000", "-0000000001", "-", "2147483648"}) {
            Probe.dueFault(before + "^" + wrong + ";off 1;}", 1);
            dueKnow("k=" + wrong, false);
        }
        FlagLayers x = Probe.loaded(before + "-999999999;off 999999999;}").x();
        Probe.due("the least number", x.value(0, FlagLayers.NONE), -999999999);
        Probe.due("the greatest number", x.flag(0, 4), 999999999);
    }

    private static void lengthsOfTexts() {
        String sixteen = "'0123456789abcdef'";
        dueKnow("k=''", true);
        dueKnow("k=" + sixteen, true);
        dueKnow("k='0" + sixteen.substring(1), false);
        Probe.dueRight("segment s=k is '' or k is " + sixteen + ";", 0);
        Probe.dueFault("segment s=k is ^'0" + sixteen.substring(1) + ";", 1);
        Probe.dueFault("segment s=k is ^'", 1);
        Probe.dueFault("segment s=k is ^'abc;", 1);
        Probe.dueFault("segment s=k is ^" + sixteen.substring(0, 17), 1);
        Probe.dueFault(A + "layer l{set a=split k ^'0" + sixteen.substring(1) + "(10000:true);}", 1);
    }

    private static void tokensThatFillTheTape() {
        for (String bytes : new String[] {"a", "7", "'a", "-"}) {
            Probe.dueFault("^" + (bytes + Probe.times(6000, bytes.substring(bytes.length() - 1))).substring(0, 6000), 1);
        }
        Probe.dueFault("^" + Probe.times(6000, ";"), 2);
        Probe.dueFault("flag" + Probe.times(5996, " ") + "^", 2);
        Probe.dueFault(Probe.times(5999, " ") + "^'", 1);
        Probe.dueFault(Probe.times(5999, " ") + "^-", 1);
        Probe.dueRight(Probe.times(6000, " "), 0);
        Probe.dueRight(A + Probe.times(5965, "\n"), 1);
        Probe.dueRight(Probe.times(5965, "\r") + A, 1);
    }

    /** What was cut off is still no part of a token. */
    private static void tokensEndWithTheTape() {
        dueCut("k='ab'", 5, false);
        dueCut("k=12345678901", 11, true);
        dueCut("k=1a", 3, true);
        dueCut("k=-5", 3, false);
        dueCut("k=7;", 3, true);
        dueCut("k=7 8", 4, true);
        Probe probe = new Probe();
        probe.tape("-> true");
        probe.x().end(1);
        Probe.due("load of - cut off before >", probe.x().load(), -1);
        Probe.due("its fault", probe.x().fault(), 1);
    }

    private static void dueCut(String thing, int end, boolean isRight) {
        Probe probe = new Probe();
        probe.tape(thing);
        probe.x().end(end);
        if (isRight) {
            Probe.due("know of the first " + end + " of " + thing, probe.x().know(), 1);
        } else {
            Probe.dueThrow("know of the first " + end + " of " + thing, Probe.ARGUMENT, () -> probe.x().know());
        }
    }

    private static void wordThatIsNoName(String word) {
        for (String before : new String[] {"segment ", "flag ", "layer ", "segment s=in ", "layer l{}layer m of ",
            "flag b:choice(", "flag b:choice(x,", C + "needs ", A + "layer l{off ", A + "layer l{set ", A + "layer l{rule ",
            A + "layer l{set a=split ", A + "layer l{set a=roll 1 ", "flag c:choice(x){default ", "flag c:choice(x){default x;off "}) {
            boolean beginsServe = before.endsWith("default ") && (word.equals("split") || word.equals("roll"));
            if (!beginsServe) {
                Probe.dueFault(before + "^" + word + " ", 2);
            }
        }
        boolean beginsPart = isAmong(word, "true", "false", "in", "not");
        if (!beginsPart) {
            Probe.dueFault("segment s=^" + word + " is 1;", 2);
        }
        if (!isAmong(word, "true", "false")) {
            Probe.dueFault(C + "needs c=^" + word + ";", 2);
        }
        dueKnow(word + "=1", false);
        dueKnow(word + "_=1", true);
        dueKnow(word.substring(0, 1).toUpperCase() + word.substring(1) + "=1", true);
        Probe.due("find " + word, Probe.loaded(A).find(1, word), FlagLayers.NONE);
    }

    private static boolean isAmong(String word, String... words) {
        for (String one : words) {
            if (one.equals(word)) {
                return true;
            }
        }
        return false;
    }
}

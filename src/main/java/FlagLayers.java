import java.util.ArrayList;
import java.util.Arrays;

/** Switches told in a text; see README.md for how the calls go together. */
public final class FlagLayers {
    public static final int NONE = -1;

    private static final int MOST_BYTES = 6000;
    private static final int FED_AT_ONCE = 20;
    private static final int MOST_SEGMENTS = 12;
    private static final int MOST_FLAGS = 24;
    private static final int MOST_CHOICES = 8;
    private static final int MOST_NEEDS = 4;
    private static final int MOST_LAYERS = 8;
    private static final int MOST_RULES = 100;
    private static final int MOST_OFF_AND_SET = 40;
    private static final int MOST_VALUES = 8;
    private static final int MOST_SERVES = 100;
    private static final int MOST_PARTS = 400;
    private static final int MOST_OPEN = 20;
    private static final int MOST_KNOWN = 8;
    private static final int ALL_PLACES = 10000;

    private static final int SEGMENTS = 0;
    private static final int FLAGS = 1;
    private static final int LAYERS = 2;

    private final Tape tape = new Tape();
    private final Judge judge = new Judge();
    private Plan plan = new Plan();
    private int faultKind = 0;

    public FlagLayers() {
    }

    public int feed(int a, int b, int c, int d, int e) throws IllegalStateException {
        if (tape.length > MOST_BYTES - FED_AT_ONCE) {
            throw new IllegalStateException("the tape has no room for twenty bytes more");
        }
        tape.append(a);
        tape.append(b);
        tape.append(c);
        tape.append(d);
        tape.append(e);
        return tape.length;
    }

    public void end(int n) throws IllegalArgumentException {
        if (n < 0 || n > tape.length) {
            throw new IllegalArgumentException("the tape has no such end");
        }
        tape.length = n;
    }

    public int load() {
        Reader reader = new Reader(tape.takeTokens());
        try {
            reader.readText();
        } catch (IllegalArgumentException refused) {
            faultKind = reader.faultKind;
            return -1 - reader.faultPlace;
        }
        faultKind = 0;
        plan = reader.plan;
        judge.dropReasons();
        return plan.flags.size();
    }

    public int fault() {
        return faultKind;
    }

    public int count(int what) throws IndexOutOfBoundsException {
        switch (what) {
            case 0:
                return plan.segments.size();
            case 1:
                return plan.flags.size();
            case 2:
                return plan.layers.size();
            case 3:
                return plan.rules.size();
            case 4:
                return plan.offAndSet;
            case 5:
                return plan.serves.size();
            case 6:
                return plan.parts;
            case 7:
                return judge.known;
            default:
                throw new IndexOutOfBoundsException("nothing of that is counted");
        }
    }

    public int know() throws IllegalArgumentException, IllegalStateException {
        Reader reader = new Reader(tape.takeTokens());
        Token name = reader.take(Sort.NAME);
        reader.take(Sort.EQUALS);
        Token thing = reader.take(reader.sortOfOne());
        reader.take(Sort.END);
        if (!judge.hasRoomFor(name.text)) {
            throw new IllegalStateException("eight other things are known");
        }
        judge.learn(name, thing);
        return 1;
    }

    public int forget() {
        return judge.forgetThings();
    }

    public int find(int kind) throws IndexOutOfBoundsException {
        if (!isKind(kind)) {
            throw new IndexOutOfBoundsException("no such kind of names");
        }
        return indexOf(plan.namesOf(kind), tape.takeText());
    }

    public int name(int kind, int i, int k) throws IndexOutOfBoundsException {
        if (!isKind(kind) || !isBelow(i, plan.namesOf(kind).size())) {
            throw new IndexOutOfBoundsException("no such name");
        }
        String text = plan.namesOf(kind).get(i).text;
        if (k == NONE) {
            return text.length();
        }
        if (!isBelow(k, text.length())) {
            throw new IndexOutOfBoundsException("no such byte");
        }
        return text.charAt(k);
    }

    public int flag(int i, int what) throws IndexOutOfBoundsException {
        if (!isBelow(i, plan.flags.size())) {
            throw new IndexOutOfBoundsException("no such flag");
        }
        Flag flag = plan.flags.get(i);
        switch (what) {
            case 0:
                return flag.kindNumber();
            case 1:
                return flag.choices.size();
            case 2:
                return flag.neededNames.size();
            case 3:
                return flag.endRule - flag.firstRule;
            case 4:
                return flag.off;
            default:
                throw new IndexOutOfBoundsException("nothing of that is told of a flag");
        }
    }

    public int value(int flag, int layer) throws IndexOutOfBoundsException {
        boolean isLayer = layer == NONE || isBelow(layer, plan.layers.size());
        if (!isLayer || !isBelow(flag, plan.flags.size())) {
            throw new IndexOutOfBoundsException("no such flag or layer");
        }
        return judge.worthOf(plan, flag, layer);
    }

    public int why(int what) throws IndexOutOfBoundsException {
        if (!isBelow(what, judge.reasons.length)) {
            throw new IndexOutOfBoundsException("nothing of that is told of a value");
        }
        return judge.reasons[what];
    }

    public int isIn(int segment) throws IndexOutOfBoundsException {
        if (!isBelow(segment, plan.segments.size())) {
            throw new IndexOutOfBoundsException("no such segment");
        }
        judge.lookAtSegments(plan);
        return judge.isInside(segment) ? 1 : 0;
    }

    public int needs(int flag) throws IndexOutOfBoundsException {
        if (!isBelow(flag, plan.flags.size())) {
            throw new IndexOutOfBoundsException("no such flag");
        }
        return plan.reach[flag];
    }

    public int order(int i) throws IndexOutOfBoundsException {
        if (!isBelow(i, plan.flags.size())) {
            throw new IndexOutOfBoundsException("no such flag");
        }
        return plan.sequence[i];
    }

    public int share(int k, int value) throws IndexOutOfBoundsException {
        if (!isBelow(k, plan.serves.size())) {
            throw new IndexOutOfBoundsException("no such split or roll");
        }
        return plan.serves.get(k).placesOf(value);
    }

    private static boolean isKind(int kind) {
        return kind >= SEGMENTS && kind <= LAYERS;
    }

    private static boolean isBelow(int i, int size) {
        return i >= 0 && i < size;
    }

    private static int indexOf(ArrayList<Token> names, String text) {
        for (int i = 0; i < names.size(); i++) {
            if (names.get(i).text.equals(text)) {
                return i;
            }
        }
        return NONE;
    }

    /** What a token is; each word that is no NAME and each sign is a sort of its own. */
    private enum Sort {
        END(""), BROKEN(""), NAME(""), NUMBER(""), TEXT(""),
        OPEN_BRACE("{"), CLOSE_BRACE("}"), OPEN("("), CLOSE(")"), SEMICOLON(";"),
        COMMA(","), COLON(":"), EQUALS("="), ARROW("->"),
        FLAG("flag"), BOOL("bool"), NUM("num"), CHOICE("choice"), DEFAULT("default"),
        OFF("off"), NEEDS("needs"), RULE("rule"), LAYER("layer"), OF("of"), SET("set"),
        SEGMENT("segment"), SPLIT("split"), ROLL("roll"), ELSE("else"), IN("in"),
        NOT("not"), OR("or"), AND("and"), TRUE("true"), FALSE("false"), IS("is"),
        BELOW("below"), ABOVE("above"), BEGINS("begins"), ENDS("ends"), HOLDS("holds"),
        AMONG("among"), GIVEN("given");

        private static final Sort[] ALL = values();

        private final String spelling;

        Sort(String spelling) {
            this.spelling = spelling;
        }

        static Sort ofWord(String word) {
            for (int i = 0; i < ALL.length; i++) {
                if (ALL[i].spelling.equals(word)) {
                    return ALL[i];
                }
            }
            return NAME;
        }

        static Sort ofSign(int sign) {
            for (int i = 0; i < ALL.length; i++) {
                String spelling = ALL[i].spelling;
                if (spelling.length() == 1 && spelling.charAt(0) == sign) {
                    return ALL[i];
                }
            }
            return BROKEN;
        }
    }

    /** A token of the tape; the tokens of one tape are a chain, its last one END or BROKEN. */
    private static final class Token {
        final Sort sort;
        final int place;
        final int end;
        /** Of a NUMBER its digits as they are counted into a PLACE, so that 07 and 7 are the same. */
        final String text;
        final int number;
        Token next = null;

        Token(Sort sort, int place, int end, String text, int number) {
            this.sort = sort;
            this.place = place;
            this.end = end;
            this.text = text;
            this.number = number;
        }

        boolean isSameThingAs(Token other) {
            return sort == other.sort && text.equals(other.text);
        }
    }

    /** The bytes that were fed, and how they fall into tokens. */
    private static final class Tape {
        private static final int LONGEST = 16;
        private static final int MOST_DIGITS = 9;

        private final byte[] bytes = new byte[MOST_BYTES];
        private int length = 0;

        void append(int number) {
            for (int shift = 24; shift >= 0; shift -= 8) {
                if (length < bytes.length) {
                    bytes[length] = (byte) (number >> shift);
                    length++;
                }
            }
        }

        String takeText() {
            String text = textBetween(0, length);
            length = 0;
            return text;
        }

        Token takeTokens() {
            Token first = tokenBehind(0);
            Token last = first;
            for (int i = 0; i < MOST_BYTES && last.sort != Sort.END && last.sort != Sort.BROKEN; i++) {
                Token next = tokenBehind(last.end);
                last.next = next;
                last = next;
            }
            length = 0;
            return first;
        }

        private Token tokenBehind(int from) {
            int at = from;
            while (at < length && isBlank(byteAt(at))) {
                at++;
            }
            if (at >= length) {
                return new Token(Sort.END, at, at, "", 0);
            }
            int first = byteAt(at);
            if (isLetter(first)) {
                return wordAt(at);
            }
            if (first == '\'') {
                return textAt(at);
            }
            if (isDigit(first) || first == '-' && byteAt(at + 1) != '>') {
                return numberAt(at);
            }
            return signAt(at);
        }

        private Token wordAt(int at) {
            int end = at;
            while (end < length && isWordByte(byteAt(end))) {
                end++;
            }
            if (end - at > LONGEST) {
                return brokenAt(at);
            }
            String word = textBetween(at, end);
            return new Token(Sort.ofWord(word), at, end, word, 0);
        }

        private Token textAt(int at) {
            int end = at + 1;
            while (end < length && isTextByte(byteAt(end))) {
                end++;
            }
            if (byteAt(end) != '\'' || end - at - 1 > LONGEST) {
                return brokenAt(at);
            }
            return new Token(Sort.TEXT, at, end + 1, textBetween(at + 1, end), 0);
        }

        private Token numberAt(int at) {
            boolean isNegative = byteAt(at) == '-';
            int start = isNegative ? at + 1 : at;
            int end = start;
            int number = 0;
            while (end < length && end - start < MOST_DIGITS && isDigit(byteAt(end))) {
                number = number * 10 + byteAt(end) - '0';
                end++;
            }
            if (end == start || isWordByte(byteAt(end))) {
                return brokenAt(at);
            }
            int signed = isNegative ? -number : number;
            String digits = new StringBuilder().append(signed).toString();
            return new Token(Sort.NUMBER, at, end, digits, signed);
        }

        private Token signAt(int at) {
            if (byteAt(at) == '-' && byteAt(at + 1) == '>') {
                return new Token(Sort.ARROW, at, at + 2, "", 0);
            }
            return new Token(Sort.ofSign(byteAt(at)), at, at + 1, "", 0);
        }

        private Token brokenAt(int at) {
            return new Token(Sort.BROKEN, at, at, "", 0);
        }

        private int byteAt(int at) {
            return isBelow(at, length) && at < bytes.length ? bytes[at] & 255 : NONE;
        }

        private String textBetween(int start, int end) {
            char[] letters = new char[Math.max(0, end - start)];
            for (int i = 0; i < letters.length; i++) {
                letters[i] = (char) (byteAt(start + i) & 255);
            }
            return new String(letters);
        }

        private static boolean isBlank(int b) {
            return b == 9 || b == 10 || b == 13 || b == 32;
        }

        private static boolean isLetter(int b) {
            return b >= 'a' && b <= 'z' || b >= 'A' && b <= 'Z';
        }

        private static boolean isDigit(int b) {
            return b >= '0' && b <= '9';
        }

        private static boolean isWordByte(int b) {
            return isLetter(b) || isDigit(b) || b == '_';
        }

        private static boolean isTextByte(int b) {
            return b >= 32 && b <= 126 && b != '\'';
        }
    }

    /** All that a text told. */
    private static final class Plan {
        final ArrayList<Token> segmentNames = new ArrayList<>();
        final ArrayList<Token> flagNames = new ArrayList<>();
        final ArrayList<Token> layerNames = new ArrayList<>();
        final ArrayList<Part> segments = new ArrayList<>();
        final ArrayList<Flag> flags = new ArrayList<>();
        final ArrayList<Layer> layers = new ArrayList<>();
        final ArrayList<Rule> rules = new ArrayList<>();
        final ArrayList<Serve> serves = new ArrayList<>();
        int offAndSet = 0;
        int parts = 0;
        /** For each flag the flags that it needs, and those need, and so on, as bits. */
        final int[] reach = new int[MOST_FLAGS];
        /** The flags, each behind those that it needs. */
        final int[] sequence = new int[MOST_FLAGS];

        ArrayList<Token> namesOf(int kind) {
            if (kind == SEGMENTS) {
                return segmentNames;
            }
            return kind == FLAGS ? flagNames : layerNames;
        }

        int flagCount() {
            return Math.min(flags.size(), MOST_FLAGS);
        }

        void gatherReach() {
            int count = flagCount();
            for (int i = 0; i < count; i++) {
                reach[i] = flags.get(i).neededBits();
            }
            for (int through = 0; through < count; through++) {
                for (int i = 0; i < count; i++) {
                    if ((reach[i] >> through & 1) != 0) {
                        reach[i] |= reach[through];
                    }
                }
            }
        }

        void putInSequence() {
            int count = flagCount();
            int done = 0;
            for (int i = 0; i < count; i++) {
                int next = leastReady(done, count);
                sequence[i] = next;
                done |= 1 << next;
            }
        }

        private int leastReady(int done, int count) {
            for (int i = 0; i < count; i++) {
                if ((done >> i & 1) == 0 && (reach[i] & ~done) == 0) {
                    return i;
                }
            }
            return 0;
        }
    }

    /** A flag; its rules are those of the plan from firstRule to before endRule. */
    private static final class Flag {
        Sort kind = Sort.BOOL;
        final ArrayList<Token> choices = new ArrayList<>();
        final ArrayList<Token> neededNames = new ArrayList<>();
        final ArrayList<Token> neededValues = new ArrayList<>();
        final int[] neededFlags = new int[MOST_NEEDS];
        final int[] neededWorths = new int[MOST_NEEDS];
        Serve standard = new Serve(null, null, 1);
        int off = 0;
        final int firstRule;
        int endRule;

        Flag(int firstRule) {
            this.firstRule = firstRule;
            this.endRule = firstRule;
        }

        int kindNumber() {
            if (kind == Sort.BOOL) {
                return 0;
            }
            return kind == Sort.NUM ? 1 : 2;
        }

        int neededCount() {
            return Math.min(neededNames.size(), MOST_NEEDS);
        }

        int neededBits() {
            int bits = 0;
            for (int i = 0; i < neededCount(); i++) {
                bits |= 1 << neededFlags[i];
            }
            return bits;
        }

        boolean canBe(Token token) {
            if (kind == Sort.BOOL) {
                return token.sort == Sort.TRUE || token.sort == Sort.FALSE;
            }
            if (kind == Sort.NUM) {
                return token.sort == Sort.NUMBER;
            }
            return token.sort == Sort.NAME && indexOf(choices, token.text) != NONE;
        }

        int worthOf(Token token) {
            if (kind == Sort.BOOL) {
                return token.sort == Sort.TRUE ? 1 : 0;
            }
            return kind == Sort.NUM ? token.number : indexOf(choices, token.text);
        }
    }

    /** A layer; its rules are those of the plan from firstRule to before endRule. */
    private static final class Layer {
        final int of;
        final int firstRule;
        int endRule;
        int offBits = 0;
        /** By the flag's number; null where the layer sets nothing. */
        final Serve[] sets = new Serve[MOST_FLAGS];

        Layer(int of, int firstRule) {
            this.of = of;
            this.firstRule = firstRule;
            this.endRule = firstRule;
        }

        boolean turnsOff(int flag) {
            return (offBits >> flag & 1) != 0;
        }

        Serve setOf(int flag) {
            return isBelow(flag, sets.length) ? sets[flag] : null;
        }

        void addSet(int flag, Serve serve) {
            if (isBelow(flag, sets.length) && sets[flag] == null) {
                sets[flag] = serve;
            }
        }
    }

    private static final class Rule {
        final int flag;
        final Part when;
        final Serve then;

        Rule(int flag, Part when, Serve then) {
            this.flag = flag;
            this.when = when;
            this.then = then;
        }
    }

    /** What is served: one value (without a name), or shares; a roll is a split in two. */
    private static final class Serve {
        final Token name;
        final Token salt;
        private final int[] shares;
        private final int[] values;
        private int size = 0;

        Serve(Token name, Token salt, int most) {
            this.name = name;
            this.salt = salt;
            this.shares = new int[Math.max(0, most)];
            this.values = new int[Math.max(0, most)];
        }

        boolean isFull() {
            return size >= shares.length;
        }

        void add(int places, int value) {
            if (isBelow(size, shares.length) && isBelow(size, values.length)) {
                shares[size] = places;
                values[size] = value;
                size++;
            }
        }

        int allPlaces() {
            int sum = 0;
            for (int i = 0; i < size && i < shares.length; i++) {
                sum += shares[i];
            }
            return sum;
        }

        int placesOf(int value) {
            int sum = 0;
            for (int i = 0; i < size && i < shares.length && i < values.length; i++) {
                if (values[i] == value) {
                    sum += shares[i];
                }
            }
            return sum;
        }

        int valueAt(int place) {
            int sum = 0;
            for (int i = 0; i < size && i < shares.length && i < values.length; i++) {
                sum += shares[i];
                if (sum > place) {
                    return values[i];
                }
            }
            return lastValue();
        }

        int lastValue() {
            return isBelow(size - 1, values.length) ? values[size - 1] : 0;
        }
    }

    /**
     * A part of an expression. A row of or, of and, has its members as a chain from first on,
     * not has the one it turns, among has the ones behind its first one.
     */
    private static final class Part {
        final Sort sort;
        Token name = null;
        Token one = null;
        int segment = NONE;
        Part first = null;
        Part next = null;

        Part(Sort sort) {
            this.sort = sort;
        }
    }

    /** Reads a chain of tokens; what cannot be read is refused by an exception, its fault kept. */
    private static final class Reader {
        private static final int BAD_TOKEN = 1;
        private static final int MISPLACED = 2;
        private static final int BAD_NAME = 3;
        private static final int BAD_SHARE = 4;
        private static final int TOO_MUCH = 5;
        private static final int RING = 6;

        final Plan plan = new Plan();
        int faultKind = 0;
        int faultPlace = 0;
        private Token token;

        Reader(Token first) {
            token = first;
        }

        void readText() {
            for (int i = 0; i < MOST_BYTES && token.sort != Sort.END; i++) {
                switch (token.sort) {
                    case SEGMENT:
                        readSegment();
                        break;
                    case FLAG:
                        readFlag();
                        break;
                    case LAYER:
                        readLayer();
                        break;
                    default:
                        refuse(MISPLACED, token);
                }
            }
            settleNeeds();
            plan.gatherReach();
            refuseRings();
            plan.putInSequence();
        }

        Token take(Sort sort) {
            Token taken = token;
            if (taken.sort != sort) {
                refuse(MISPLACED, taken);
            }
            if (taken.next != null) {
                token = taken.next;
            }
            return taken;
        }

        /** Which sort to take where a NUMBER or a TEXT is due. */
        Sort sortOfOne() {
            return token.sort == Sort.NUMBER ? Sort.NUMBER : Sort.TEXT;
        }

        private void readSegment() {
            takeFirstWord(plan.segments.size(), MOST_SEGMENTS);
            Token name = takeNewName(plan.segmentNames);
            take(Sort.EQUALS);
            Part part = readRow(Sort.OR, 0);
            take(Sort.SEMICOLON);
            // Only now, since a segment is not known within itself.
            plan.segmentNames.add(name);
            plan.segments.add(part);
        }

        private void readFlag() {
            takeFirstWord(plan.flags.size(), MOST_FLAGS);
            int number = plan.flags.size();
            Flag flag = new Flag(plan.rules.size());
            plan.flagNames.add(takeNewName(plan.flagNames));
            plan.flags.add(flag);
            take(Sort.COLON);
            readKind(flag);
            take(Sort.OPEN_BRACE);
            take(Sort.DEFAULT);
            flag.standard = readServe(flag);
            take(Sort.OFF);
            flag.off = readValue(flag);
            take(Sort.SEMICOLON);
            for (int i = 0; i <= MOST_NEEDS && token.sort == Sort.NEEDS; i++) {
                readNeed(flag);
            }
            for (int i = 0; i <= MOST_RULES && token.sort == Sort.RULE; i++) {
                takeFirstWord(plan.rules.size(), MOST_RULES);
                Part when = readRow(Sort.OR, 0);
                take(Sort.ARROW);
                plan.rules.add(new Rule(number, when, readServe(flag)));
            }
            flag.endRule = plan.rules.size();
            take(Sort.CLOSE_BRACE);
        }

        private void readKind(Flag flag) {
            flag.kind = token.sort;
            if (token.sort == Sort.BOOL || token.sort == Sort.NUM) {
                take(token.sort);
                return;
            }
            take(Sort.CHOICE);
            take(Sort.OPEN);
            readChoice(flag);
            for (int i = 0; i < MOST_CHOICES && token.sort == Sort.COMMA; i++) {
                take(Sort.COMMA);
                readChoice(flag);
            }
            take(Sort.CLOSE);
        }

        private void readChoice(Flag flag) {
            Token choice = takeNewName(flag.choices);
            if (flag.choices.size() >= MOST_CHOICES) {
                refuse(TOO_MUCH, choice);
            }
            flag.choices.add(choice);
        }

        private void readNeed(Flag flag) {
            takeFirstWord(flag.neededNames.size(), MOST_NEEDS);
            flag.neededNames.add(take(Sort.NAME));
            take(Sort.EQUALS);
            // The needed flag may be told later, so its value is looked at when all is read.
            boolean mayBeValue = token.sort == Sort.TRUE || token.sort == Sort.FALSE
                    || token.sort == Sort.NAME || token.sort == Sort.NUMBER;
            if (!mayBeValue) {
                refuse(MISPLACED, token);
            }
            flag.neededValues.add(take(token.sort));
            take(Sort.SEMICOLON);
        }

        private void readLayer() {
            takeFirstWord(plan.layers.size(), MOST_LAYERS);
            Token name = takeNewName(plan.layerNames);
            int of = NONE;
            if (token.sort == Sort.OF) {
                take(Sort.OF);
                of = takeKnownName(plan.layerNames);
            }
            take(Sort.OPEN_BRACE);
            Layer layer = new Layer(of, plan.rules.size());
            plan.layerNames.add(name);
            plan.layers.add(layer);
            for (int i = 0; i < MOST_BYTES && token.sort != Sort.CLOSE_BRACE; i++) {
                Sort telling = takeTelling();
                int number = takeKnownName(plan.flagNames);
                Flag flag = plan.flags.get(number);
                if (telling == Sort.OFF) {
                    layer.offBits |= 1 << number;
                    take(Sort.SEMICOLON);
                } else if (telling == Sort.SET) {
                    take(Sort.EQUALS);
                    layer.addSet(number, readServe(flag));
                } else {
                    Part when = readRow(Sort.OR, 0);
                    take(Sort.ARROW);
                    plan.rules.add(new Rule(number, when, readServe(flag)));
                }
            }
            layer.endRule = plan.rules.size();
            take(Sort.CLOSE_BRACE);
        }

        private Sort takeTelling() {
            Sort telling = token.sort;
            if (telling == Sort.RULE) {
                takeFirstWord(plan.rules.size(), MOST_RULES);
            } else if (telling == Sort.OFF || telling == Sort.SET) {
                takeFirstWord(plan.offAndSet, MOST_OFF_AND_SET);
                plan.offAndSet++;
            } else {
                refuse(MISPLACED, token);
            }
            return telling;
        }

        /** With the ; that is behind every serve. */
        private Serve readServe(Flag flag) {
            Serve serve;
            if (token.sort == Sort.SPLIT) {
                serve = readSplit(flag);
            } else if (token.sort == Sort.ROLL) {
                serve = readRoll(flag);
            } else {
                serve = new Serve(null, null, 1);
                serve.add(ALL_PLACES, readValue(flag));
            }
            take(Sort.SEMICOLON);
            return serve;
        }

        private Serve readSplit(Flag flag) {
            takeFirstWord(plan.serves.size(), MOST_SERVES);
            Token name = take(Sort.NAME);
            Token salt = take(Sort.TEXT);
            Serve serve = new Serve(name, salt, MOST_VALUES);
            plan.serves.add(serve);
            take(Sort.OPEN);
            boolean goesOn = true;
            for (int i = 0; i <= MOST_VALUES && goesOn; i++) {
                int places = takeShare(serve.isFull());
                take(Sort.COLON);
                serve.add(places, readValue(flag));
                goesOn = token.sort == Sort.COMMA;
                if (goesOn) {
                    take(Sort.COMMA);
                }
            }
            if (token.sort == Sort.CLOSE && serve.allPlaces() != ALL_PLACES) {
                refuse(BAD_SHARE, token);
            }
            take(Sort.CLOSE);
            return serve;
        }

        private Serve readRoll(Flag flag) {
            takeFirstWord(plan.serves.size(), MOST_SERVES);
            int places = takeShare(false);
            Token name = take(Sort.NAME);
            Token salt = take(Sort.TEXT);
            Serve serve = new Serve(name, salt, 2);
            plan.serves.add(serve);
            serve.add(places, readValue(flag));
            take(Sort.ELSE);
            serve.add(ALL_PLACES - places, readValue(flag));
            return serve;
        }

        private int takeShare(boolean isOneTooMany) {
            Token share = take(Sort.NUMBER);
            if (share.number < 0 || share.number > ALL_PLACES) {
                refuse(BAD_SHARE, share);
            }
            if (isOneTooMany) {
                refuse(TOO_MUCH, share);
            }
            return share.number;
        }

        private int readValue(Flag flag) {
            if (!flag.canBe(token)) {
                refuse(MISPLACED, token);
            }
            return flag.worthOf(take(token.sort));
        }

        /** A row of or, whose members are rows of and, whose members are parts. */
        private Part readRow(Sort joint, int open) {
            Part first = joint == Sort.OR ? readRow(Sort.AND, open) : readPart(open);
            if (token.sort != joint) {
                return first;
            }
            // The whole row is one PART, told by its first or, and.
            Part row = newPart(joint, token);
            row.first = first;
            Part last = first;
            for (int i = 0; i <= MOST_PARTS && token.sort == joint; i++) {
                take(joint);
                Part member = joint == Sort.OR ? readRow(Sort.AND, open) : readPart(open);
                last.next = member;
                last = member;
            }
            return row;
        }

        private Part readPart(int open) {
            Sort sort = token.sort;
            if ((sort == Sort.OPEN || sort == Sort.NOT) && open >= MOST_OPEN) {
                refuse(TOO_MUCH, token);
            }
            if (sort == Sort.OPEN) {
                take(Sort.OPEN);
                Part inner = readRow(Sort.OR, open + 1);
                take(Sort.CLOSE);
                return inner;
            }
            if (sort == Sort.NOT) {
                Part turned = newPart(Sort.NOT, take(Sort.NOT));
                turned.first = readPart(open + 1);
                return turned;
            }
            if (sort == Sort.TRUE || sort == Sort.FALSE) {
                return newPart(sort, take(sort));
            }
            if (sort == Sort.IN) {
                Part inside = newPart(Sort.IN, take(Sort.IN));
                inside.segment = takeKnownName(plan.segmentNames);
                return inside;
            }
            Part test = newTest();
            if (test.sort == Sort.AMONG) {
                readAmong(test);
            } else {
                readTest(test);
            }
            return test;
        }

        private Part newTest() {
            Token name = take(Sort.NAME);
            Part test = newPart(token.sort, name);
            test.name = name;
            return test;
        }

        private void readTest(Part test) {
            switch (test.sort) {
                case GIVEN:
                    take(Sort.GIVEN);
                    break;
                case IS:
                    take(Sort.IS);
                    test.one = take(sortOfOne());
                    break;
                case BELOW:
                case ABOVE:
                    take(test.sort);
                    test.one = take(Sort.NUMBER);
                    break;
                case BEGINS:
                case ENDS:
                case HOLDS:
                    take(test.sort);
                    test.one = take(Sort.TEXT);
                    break;
                default:
                    refuse(MISPLACED, token);
            }
        }

        private void readAmong(Part among) {
            take(Sort.AMONG);
            take(Sort.OPEN);
            among.one = take(sortOfOne());
            Part last = null;
            for (int i = 0; i <= MOST_PARTS && token.sort == Sort.COMMA; i++) {
                take(Sort.COMMA);
                Token one = take(sortOfOne());
                Part further = newPart(Sort.AMONG, one);
                further.one = one;
                if (last == null) {
                    among.first = further;
                } else {
                    last.next = further;
                }
                last = further;
            }
            take(Sort.CLOSE);
        }

        private Part newPart(Sort sort, Token where) {
            if (plan.parts >= MOST_PARTS) {
                refuse(TOO_MUCH, where);
            }
            plan.parts++;
            return new Part(sort);
        }

        private void takeFirstWord(int have, int most) {
            if (have >= most) {
                refuse(TOO_MUCH, token);
            }
            take(token.sort);
        }

        private Token takeNewName(ArrayList<Token> names) {
            Token name = take(Sort.NAME);
            if (indexOf(names, name.text) != NONE) {
                refuse(BAD_NAME, name);
            }
            return name;
        }

        private int takeKnownName(ArrayList<Token> names) {
            Token name = take(Sort.NAME);
            int index = indexOf(names, name.text);
            if (index == NONE) {
                refuse(BAD_NAME, name);
            }
            return index;
        }

        private void settleNeeds() {
            for (int i = 0; i < plan.flags.size(); i++) {
                Flag flag = plan.flags.get(i);
                for (int k = 0; k < flag.neededCount(); k++) {
                    settleNeed(i, flag, k);
                }
            }
        }

        private void settleNeed(int number, Flag flag, int k) {
            Token name = flag.neededNames.get(k);
            Token value = flag.neededValues.get(k);
            int needed = indexOf(plan.flagNames, name.text);
            if (needed == NONE || needed == number) {
                refuse(BAD_NAME, name);
            }
            if (!plan.flags.get(needed).canBe(value)) {
                refuse(MISPLACED, value);
            }
            flag.neededFlags[k] = needed;
            flag.neededWorths[k] = plan.flags.get(needed).worthOf(value);
        }

        private void refuseRings() {
            for (int i = 0; i < plan.flagCount(); i++) {
                Flag flag = plan.flags.get(i);
                for (int k = 0; k < flag.neededCount(); k++) {
                    if ((plan.reach[flag.neededFlags[k]] >> i & 1) != 0) {
                        refuse(RING, flag.neededNames.get(k));
                    }
                }
            }
        }

        private void refuse(int kind, Token where) {
            faultKind = where.sort == Sort.BROKEN ? BAD_TOKEN : kind;
            faultPlace = where.place;
            throw new IllegalArgumentException("the text has a fault");
        }
    }

    /** What is KNOWN of somebody, and what the flags of a plan are by it. */
    private static final class Judge {
        private static final int BY_DEFAULT = 0;
        private static final int BY_NEEDS = 1;
        private static final int BY_RULE = 2;
        private static final int BY_OFF_OF_LAYER = 3;
        private static final int BY_RULE_OF_LAYER = 4;
        private static final int BY_SET = 5;

        private static final int REASON = 0;
        private static final int REASON_LAYER = 1;
        private static final int REASON_RULE = 2;
        private static final int REASON_PLACE = 3;
        private static final int REASON_NEED = 4;
        private static final int REASONS = 5;

        /** An open ( has a row of or and a row of and at most, so no tree goes deeper. */
        private static final int DEEPEST = 2 * MOST_OPEN + 8;

        private final Token[] names = new Token[MOST_KNOWN];
        private final Token[] things = new Token[MOST_KNOWN];
        private int known = 0;
        private final boolean[] inside = new boolean[MOST_SEGMENTS];
        private final int[] worths = new int[MOST_FLAGS];
        private final int[] reasons = new int[REASONS];
        /** What the flag that was told last is worth. */
        private int answer = 0;

        Judge() {
            Arrays.fill(reasons, NONE);
        }

        void dropReasons() {
            Arrays.fill(reasons, NONE);
        }

        boolean hasRoomFor(String name) {
            return known < MOST_KNOWN || indexOfKnown(name) != NONE;
        }

        void learn(Token name, Token thing) {
            int index = indexOfKnown(name.text);
            if (index == NONE) {
                index = known;
                known++;
            }
            if (isBelow(index, names.length) && isBelow(index, things.length)) {
                names[index] = name;
                things[index] = thing;
            }
        }

        int forgetThings() {
            int forgotten = known;
            known = 0;
            return forgotten;
        }

        boolean isInside(int segment) {
            return isBelow(segment, inside.length) && inside[segment];
        }

        /** In their order, since a segment asks only for those before it. */
        void lookAtSegments(Plan plan) {
            for (int i = 0; i < plan.segments.size() && i < inside.length; i++) {
                inside[i] = holds(plan.segments.get(i), 0);
            }
        }

        /**
         * Each flag that the flag needs is settled once, before those that need it: going down
         * from flag to flag would look at some of them again and again. The flag itself comes
         * last of these, so that the reasons that stay are its own.
         */
        int worthOf(Plan plan, int flag, int layer) {
            lookAtSegments(plan);
            int wanted = plan.reach[flag] | 1 << flag;
            for (int i = 0; i < plan.flagCount(); i++) {
                int next = plan.sequence[i];
                if ((wanted >> next & 1) != 0) {
                    if (!isToldByLayers(plan, next, layer)) {
                        tellByItself(plan, next);
                    }
                    worths[next] = answer;
                }
            }
            return worths[flag];
        }

        private boolean isToldByLayers(Plan plan, int flag, int layer) {
            int at = layer;
            for (int i = 0; i < MOST_LAYERS && isBelow(at, plan.layers.size()); i++) {
                Layer looked = plan.layers.get(at);
                if (looked.turnsOff(flag)) {
                    tellOff(BY_OFF_OF_LAYER, at, plan.flags.get(flag).off);
                    return true;
                }
                int rule = firstTrueRule(plan, looked.firstRule, looked.endRule, flag);
                if (rule != NONE) {
                    tellServed(BY_RULE_OF_LAYER, at, rule, plan.rules.get(rule).then);
                    return true;
                }
                Serve set = looked.setOf(flag);
                if (set != null) {
                    tellServed(BY_SET, at, NONE, set);
                    return true;
                }
                at = looked.of;
            }
            return false;
        }

        private void tellByItself(Plan plan, int flag) {
            Flag looked = plan.flags.get(flag);
            for (int i = 0; i < looked.neededCount(); i++) {
                int needed = looked.neededFlags[i];
                if (worths[needed] != looked.neededWorths[i]) {
                    tellOff(BY_NEEDS, NONE, looked.off);
                    reasons[REASON_NEED] = needed;
                    return;
                }
            }
            int rule = firstTrueRule(plan, looked.firstRule, looked.endRule, flag);
            if (rule == NONE) {
                tellServed(BY_DEFAULT, NONE, NONE, looked.standard);
            } else {
                tellServed(BY_RULE, NONE, rule, plan.rules.get(rule).then);
            }
        }

        private void tellOff(int reason, int layer, int off) {
            keepReasons(reason, layer, NONE, NONE);
            answer = off;
        }

        private void tellServed(int reason, int layer, int rule, Serve serve) {
            Token thing = serve.name == null ? null : knownThing(serve.name.text);
            if (thing == null || serve.salt == null) {
                keepReasons(reason, layer, rule, NONE);
                answer = serve.lastValue();
                return;
            }
            int place = placeOf(serve.salt.text, thing.text);
            keepReasons(reason, layer, rule, place);
            answer = serve.valueAt(place);
        }

        private void keepReasons(int reason, int layer, int rule, int place) {
            reasons[REASON] = reason;
            reasons[REASON_LAYER] = layer;
            reasons[REASON_RULE] = rule;
            reasons[REASON_PLACE] = place;
            reasons[REASON_NEED] = NONE;
        }

        private int firstTrueRule(Plan plan, int first, int end, int flag) {
            for (int i = Math.max(0, first); i < end && i < plan.rules.size(); i++) {
                Rule rule = plan.rules.get(i);
                if (rule.flag == flag && holds(rule.when, 0)) {
                    return i;
                }
            }
            return NONE;
        }

        private boolean holds(Part part, int depth) {
            if (depth > DEEPEST) {
                return false;
            }
            switch (part.sort) {
                case TRUE:
                    return true;
                case FALSE:
                    return false;
                case IN:
                    return isInside(part.segment);
                case NOT:
                    return part.first != null && !holds(part.first, depth + 1);
                case OR:
                case AND:
                    boolean deciding = part.sort == Sort.OR;
                    for (Part member = part.first; member != null; member = member.next) {
                        if (holds(member, depth + 1) == deciding) {
                            return deciding;
                        }
                    }
                    return !deciding;
                default:
                    return passes(part);
            }
        }

        private boolean passes(Part part) {
            Token thing = part.name == null ? null : knownThing(part.name.text);
            if (thing == null) {
                return false;
            }
            if (part.sort == Sort.GIVEN) {
                return true;
            }
            Token one = part.one;
            if (one == null) {
                return false;
            }
            if (part.sort == Sort.IS) {
                return thing.isSameThingAs(one);
            }
            if (part.sort == Sort.AMONG) {
                return isAmong(thing, part);
            }
            // Only a NUMBER is below or above, only a TEXT begins, ends or holds.
            if (thing.sort != one.sort) {
                return false;
            }
            switch (part.sort) {
                case BELOW:
                    return thing.number < one.number;
                case ABOVE:
                    return thing.number > one.number;
                case BEGINS:
                    return standsAt(thing.text, one.text, 0);
                case ENDS:
                    return standsAt(thing.text, one.text, thing.text.length() - one.text.length());
                default:
                    return standsIn(thing.text, one.text);
            }
        }

        private static boolean isAmong(Token thing, Part among) {
            if (among.one != null && thing.isSameThingAs(among.one)) {
                return true;
            }
            for (Part further = among.first; further != null; further = further.next) {
                if (further.one != null && thing.isSameThingAs(further.one)) {
                    return true;
                }
            }
            return false;
        }

        private static boolean standsIn(String whole, String piece) {
            for (int i = 0; i <= whole.length() - piece.length(); i++) {
                if (standsAt(whole, piece, i)) {
                    return true;
                }
            }
            return false;
        }

        private static boolean standsAt(String whole, String piece, int at) {
            if (at < 0 || at > whole.length() - piece.length()) {
                return false;
            }
            for (int i = 0; i < piece.length(); i++) {
                if (whole.charAt(at + i) != piece.charAt(i)) {
                    return false;
                }
            }
            return true;
        }

        private int indexOfKnown(String name) {
            for (int i = 0; i < known && i < names.length; i++) {
                if (names[i] != null && names[i].text.equals(name)) {
                    return i;
                }
            }
            return NONE;
        }

        private Token knownThing(String name) {
            int index = indexOfKnown(name);
            return isBelow(index, things.length) ? things[index] : null;
        }

        private static int placeOf(String salt, String thing) {
            long hash = mixed(-3750763034362895579L, salt);
            hash = mixedByte(hash, 0);
            hash = mixed(hash, thing);
            hash ^= hash >>> 32;
            // Half of it first: as a long it may have a sign, which the PLACE does not know.
            return (int) ((hash >>> 1) % (ALL_PLACES / 2) * 2 + (hash & 1));
        }

        private static long mixed(long hash, String text) {
            long result = hash;
            for (int i = 0; i < text.length(); i++) {
                result = mixedByte(result, text.charAt(i));
            }
            return result;
        }

        private static long mixedByte(long hash, int b) {
            return (hash ^ b) * 1099511628211L;
        }
    }
}

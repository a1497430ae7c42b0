/** A test for each sentence about texts that names a boundary: of the terms, and promises 2 to 4. */
public final class TextSentencesTest {
    private static final int FIRST = 32;
    private static final int LAST = 126;

    public static void main(String[] args) {
        hasTwoToFourStates();
        isOneToFourWide();
        packsFromTheFirstCellOn();
        hasAtMost64Characters();
        isStatesWidthAndLetter();
        tableHasDigitForEachWindow();
        tableMayBeTooLongForTexts();
        sumsHaveDigitForEach();
        placesAreFromZero();
        firstFaultCounts();
        endsTooEarlyBehindItsLast();
        loadTellsHowManyThereAre();
        loadPutsBehind();
        loadRefusesOtherCharacters();
        loadIsFull();
        loadRefusesWhenFull();
        ruleEmptiesText();
        ruleAnswersStates();
        ruleTakesPlaceOfAnother();
        ruleWithFaultChangesNothing();
        ruleWithFaultBehindFullText();
        nextRefusesOtherWindows();
        Check.end();
    }

    private static String repeat(String part, int times) {
        StringBuilder text = new StringBuilder();
        for (int i = 0; i < times; i++) {
            text.append(part);
        }
        return text.toString();
    }

    private static void hasTwoToFourStates() {
        Check.sentence("K STATES, 0 .. K - 1, K being 2 to 4");
        for (char c = FIRST; c <= LAST; c++) {
            boolean fits = c == '2' || c == '3' || c == '4';
            Check.due("rule of " + c + "1Ea", Check.read(new LineRules(), c + "1Ea"), fits ? c - '0' : -10);
            if (!fits) {
                Check.fault("" + c, 0);
            }
        }
        for (int states = 2; states <= 4; states++) {
            LineRules x = Check.with(states + "1Ea");
            Check.due("the last state of " + states, x.set(0, states - 1), 0);
            Check.due("none behind the last of " + states, x.set(0, states), -1);
            Check.due("the last state is made", x.next(states - 1), states - 1);
        }
    }

    private static void isOneToFourWide() {
        Check.sentence("a WIDTH W, 1 to 4");
        for (char c = FIRST; c <= LAST; c++) {
            boolean fits = c >= '1' && c <= '4';
            Check.due("rule of 3" + c + "Ea", Check.read(new LineRules(), "3" + c + "Ea"), fits ? 3 : -11);
            if (!fits) {
                Check.fault("3" + c, 1);
            }
        }
    }

    private static void packsFromTheFirstCellOn() {
        Check.sentence("PACKED: each cell in its turn, from the first one on, is added to K times what there was (at first 0)");
        for (int states = 2; states <= 4; states++) {
            for (int width = 1; width <= 4; width++) {
                Model model = new Model(states, width, null);
                for (int i = 0; i < width; i++) {
                    LineRules x = Check.with("" + states + width + "E" + (char) ('a' + i));
                    for (int n = 0; n < Model.power(states, width); n++) {
                        Check.due("cell " + i + " of " + n, x.next(n), model.unpack(n, width)[i]);
                    }
                }
            }
        }
    }

    private static void hasAtMost64Characters() {
        Check.sentence("THE TEXT of a rule (at most 64 characters)");
        String longest = "44Ea" + repeat("+a", 30);
        Check.due("characters", longest.length(), 64);
        LineRules x = new LineRules();
        Check.load(x, longest);
        Check.due("a character more", x.load('+'), -2);
        Check.due("rule of the first 64", x.rule(), 4);
        Check.due("31 times 1", x.next(64), 3);
        Check.due("the last of 64 cannot stand", Check.read(x, "44Ea" + repeat("+a", 29) + "+e"), -10 - 63);
        Check.due("the last of 64 counts", Check.read(x, "44Ea" + repeat("+a", 29) + "+d"), 4);
        Check.due("30 times 0 and 3", x.next(3), 3);
    }

    private static void isStatesWidthAndLetter() {
        Check.sentence("K, W (a digit each), a letter and more");
        Check.fault("", 0);
        Check.fault("2", 1);
        Check.fault("22", 2);
        for (char c = FIRST; c <= LAST; c++) {
            boolean fits = c == 'T' || c == 'S' || c == 'E';
            Check.fault("22" + c, fits ? 3 : 2);
            if (!fits) {
                Check.fault("22" + c + "0000", 2);
            }
        }
        Check.due("a table", Check.with("22T0001").next(3), 1);
        Check.due("sums", Check.with("22S001").next(3), 1);
        Check.due("an expression", Check.with("22Ea").next(3), 1);
    }

    /** Texts that need a digit below K at each of these places: right, too short, too long and wrong. */
    private static void needsDigits(String head, int states, int count) {
        StringBuilder digits = new StringBuilder();
        for (int i = 0; i < count; i++) {
            Check.fault(head + digits, 3 + i);
            digits.append(states - 1 - i % states);
        }
        Check.with(head + digits);
        for (char c = FIRST; c <= LAST && head.length() + count < 64; c++) {
            Check.fault(head + digits + c, 3 + count);
        }
        for (int i = 0; i < count; i++) {
            for (char wrong : new char[] {(char) ('0' + states), '/', ':', '9', ' ', 'a', '~'}) {
                StringBuilder spoilt = new StringBuilder(digits);
                spoilt.setCharAt(i, wrong);
                Check.fault(head + spoilt, 3 + i);
                Check.fault(head + spoilt.substring(0, i + 1), 3 + i);
            }
        }
    }

    private static void tableHasDigitForEachWindow() {
        Check.sentence("T: a digit below K for each packed W cells, by rising numbers");
        int[][] shapes = {{2, 1}, {2, 2}, {2, 3}, {2, 4}, {3, 1}, {3, 2}, {3, 3}, {4, 1}, {4, 2}};
        for (int[] shape : shapes) {
            int count = Model.power(shape[0], shape[1]);
            String head = "" + shape[0] + shape[1] + "T";
            needsDigits(head, shape[0], count);
            StringBuilder digits = new StringBuilder();
            for (int n = 0; n < count; n++) {
                digits.append((n * n + n / 3) % shape[0]);
            }
            LineRules x = Check.with(head + digits);
            for (int n = 0; n < count; n++) {
                Check.due(head + digits + " of " + n, x.next(n), digits.charAt(n) - '0');
            }
        }
    }

    /** 64 digits and more: each that is there can stand, and then the text ends too early. */
    private static void tableMayBeTooLongForTexts() {
        Check.sentence("T: where the text ends too early, the place behind its last one; at most 64 characters");
        for (String head : new String[] {"43T", "34T", "44T"}) {
            int states = head.charAt(0) - '0';
            for (int count = 0; count <= 61; count++) {
                Check.fault(head + repeat("" + (states - 1), count), 3 + count);
            }
            Check.fault(head + repeat("0", 60) + states, 63);
            Check.fault(head + states + repeat("0", 60), 3);
        }
    }

    private static void sumsHaveDigitForEach() {
        Check.sentence("S: a digit below K for each sum of W cells, from 0 on");
        for (int states = 2; states <= 4; states++) {
            for (int width = 1; width <= 4; width++) {
                int count = width * (states - 1) + 1;
                String head = "" + states + width + "S";
                needsDigits(head, states, count);
                for (int sum = 0; sum < count; sum++) {
                    makesOneOf(head, sum, count);
                }
            }
        }
    }

    /** A rule by sums that makes 1 of one sum alone. */
    private static void makesOneOf(String head, int sum, int count) {
        String text = head + repeat("0", sum) + "1" + repeat("0", count - sum - 1);
        LineRules x = Check.with(text);
        Model model = new Model(head.charAt(0) - '0', head.charAt(1) - '0', null);
        for (int n = 0; n < Model.power(model.states, model.width); n++) {
            int cells = 0;
            for (int cell : model.unpack(n, model.width)) {
                cells += cell;
            }
            Check.due(text + " of " + n, x.next(n), cells == sum ? 1 : 0);
        }
    }

    private static void placesAreFromZero() {
        Check.sentence("The FAULT is the first character that cannot stand where it is; places are from 0");
        String[] texts = {"22T0110", "33S0120120", "24E(a?b:!c)+d*9", "44E" + "a" + repeat("-b", 30)};
        for (String text : texts) {
            Check.with(text);
            for (int i = 0; i < text.length(); i++) {
                Check.fault(text.substring(0, i) + "#" + text.substring(i + 1), i);
                Check.fault(text.substring(0, i) + "#", i);
            }
        }
    }

    private static void firstFaultCounts() {
        Check.sentence("The FAULT is the first character that cannot stand where it is");
        Check.fault("55x", 0);
        Check.fault("25x", 1);
        Check.fault("22x##", 2);
        Check.fault("22T#0#", 3);
        Check.fault("22T0000#5", 7);
        Check.fault("22T#", 3);
        Check.fault("22Ea++b)", 5);
        Check.fault("22Ea)+", 4);
        Check.fault("22E(((((", 7);
        Check.fault("22E#", 3);
    }

    private static void endsTooEarlyBehindItsLast() {
        Check.sentence("where the text ends too early, the place behind its last one");
        String text = "24E!(a=b?1-c:d)*(a|b&c<d)";
        Check.with(text);
        for (int i = 0; i < text.length(); i++) {
            Check.fault(text.substring(0, i), i);
            if (text.substring(0, i + 1).equals("24E!(a=b?1-c:d)")) {
                Check.with(text.substring(0, i + 1));
                i++;
            }
        }
        Check.fault("22E!" + repeat("a+", 30), 64);
        Check.fault("22E" + repeat("!", 61), 64);
        Check.fault("22E(((a" + repeat("*b", 28) + "?", 64);
    }

    private static void loadTellsHowManyThereAre() {
        Check.sentence("Promise 2: A character is put behind the text: how many it has then");
        LineRules x = new LineRules();
        for (int i = 1; i <= 64; i++) {
            Check.due("load", x.load(FIRST + i), i);
        }
        Check.due("rule()", x.rule(), -10);
        Check.due("load into an empty text", x.load('2'), 1);
    }

    private static void loadPutsBehind() {
        Check.sentence("Promise 2: A character is put behind the text");
        Check.fault("12T0000", 0);
        Check.fault("20T0000", 1);
        Check.due("in their order", Check.with("31T201").next(0), 2);
        Check.due("in their order", Check.with("31T201").next(1), 0);
        Check.due("in their order", Check.with("31T201").next(2), 1);
    }

    private static void loadRefusesOtherCharacters() {
        Check.sentence("Promise 2: NONE when c is not 32 .. 126");
        for (int c = FIRST; c <= LAST; c++) {
            Check.due("load(" + c + ")", new LineRules().load(c), 1);
        }
        LineRules x = new LineRules();
        int count = 0;
        int[] wrong = {31, 127, 0, 9, 10, 13, 30, 128, 160, 255, 256 + '0', 65536 + '0', -1, '0' - 256, Check.LEAST, Check.MOST};
        for (char c : "21T10".toCharArray()) {
            for (int other : wrong) {
                Check.due("load(" + other + ")", x.load(other), -1);
            }
            count++;
            Check.due("a refused one is not put", x.load(c), count);
        }
        Check.due("load(127)", x.load(127), -1);
        Check.due("a refused one is not read", x.rule(), 2);
        Check.due("next(0)", x.next(0), 1);
    }

    private static void loadIsFull() {
        Check.sentence("Promise 2: FULL when there are 64");
        LineRules x = new LineRules();
        Check.load(x, "22Ea" + repeat("|a", 29) + "|");
        Check.due("the 64th", x.load('b'), 64);
        Check.due("the 65th", x.load('|'), -2);
        Check.due("the 65th again", x.load('a'), -2);
        Check.due("what is refused is not read", x.rule(), 2);
        Check.due("the 64th is read", x.next(1), 1);
        Check.due("it is empty then", x.load('2'), 1);
    }

    /** The document does not say which of the two comes first: a wrong character is no character. */
    private static void loadRefusesWhenFull() {
        Check.sentence("Promise 2: NONE when c is not 32 .. 126, also when there are 64");
        LineRules x = new LineRules();
        Check.load(x, repeat("2", 64));
        Check.due("load(31)", x.load(31), -1);
        Check.due("load(127)", x.load(127), -1);
        Check.due("load(32)", x.load(32), -2);
        Check.due("load(126)", x.load(126), -2);
    }

    private static void ruleEmptiesText() {
        Check.sentence("Promise 3: The text is read, and empty then");
        for (String text : new String[] {"21T01", "22Ea+b", "31S012", "", "5", "22T00", "22Ea#", repeat("2", 64)}) {
            LineRules x = new LineRules();
            Check.read(x, text);
            Check.due("rule() behind " + text, x.rule(), -10);
            Check.read(x, text);
            Check.due("load behind " + text, x.load('3'), 1);
            Check.due("rule() behind " + text, x.rule(), -11);
        }
    }

    private static void ruleAnswersStates() {
        Check.sentence("Promise 3: K");
        for (int states = 2; states <= 4; states++) {
            for (int width = 1; width <= 4; width++) {
                Check.due("an expression", Check.read(new LineRules(), "" + states + width + "E0"), states);
                String sums = repeat("0", width * (states - 1) + 1);
                Check.due("sums", Check.read(new LineRules(), "" + states + width + "S" + sums), states);
            }
            Check.due("a table", Check.read(new LineRules(), states + "1T" + repeat("1", states)), states);
        }
    }

    private static void ruleTakesPlaceOfAnother() {
        Check.sentence("Promise 3: its rule is there in place of another one");
        String[] texts = {"21T10", "33Eb", "23Ea+c", "42Ea-b-b", "44Ed+(b&a)", "31T000", "44E3", "44Eb-a*!d",
            "44Eb", "41T0231", "41T0032"};
        for (String first : texts) {
            for (String second : texts) {
                LineRules x = Check.with(first);
                new Answers(x);
                Check.due("rule of " + second, Check.read(x, second), second.charAt(0) - '0');
                new Answers(Check.with(second)).compare(second + " in place of " + first, x);
            }
        }
    }

    private static void ruleWithFaultChangesNothing() {
        Check.sentence("Promise 3: With a fault: -10 less its place, and nothing else changes");
        String[] faulty = {"", "4", "21", "44T0", "21T011", "21T012", "44Ea+", "44Ea=b=c", "41S01230", "44E((((("};
        int[] places = {0, 1, 2, 4, 5, 5, 5, 6, 7, 7};
        for (String text : new String[] {"33Eb", "23Ea+c", "42Ea-b-b", "31T000"}) {
            for (int i = 0; i < faulty.length; i++) {
                LineRules x = Check.with(text);
                Check.fill(x, 1, 0, 1, 1, 0, 1);
                Answers old = new Answers(x);
                Check.due("rule of " + faulty[i], Check.read(x, faulty[i]), -10 - places[i]);
                Check.cells(text + " behind " + faulty[i], x, 1, 0, 1, 1, 0, 1);
                old.compare(text + " behind " + faulty[i], x);
            }
        }
    }

    private static void ruleWithFaultBehindFullText() {
        Check.sentence("Promise 3: With a fault: -10 less its place, of 0 to 64");
        for (int place = 0; place <= 64; place++) {
            String text = ("22E" + repeat("!", 61)).substring(0, place);
            Check.due("rule of " + text, Check.read(new LineRules(), text), -10 - place);
            if (place < 64) {
                Check.due("rule of " + text + "~", Check.read(new LineRules(), text + "~"), -10 - place);
            }
        }
    }

    private static void nextRefusesOtherWindows() {
        Check.sentence("Promise 4: NONE also when n is not 0 .. K^W - 1");
        for (int states = 2; states <= 4; states++) {
            for (int width = 1; width <= 4; width++) {
                LineRules x = Check.with("" + states + width + "Ea");
                int windows = Model.power(states, width);
                Check.due("the first of " + windows, x.next(0), 0);
                Check.due("the last of " + windows, x.next(windows - 1), states - 1);
                for (int n : new int[] {-1, windows, windows + 1, 256, -windows, Check.LEAST, Check.MOST}) {
                    Check.due("next(" + n + ") of " + windows, x.next(n), n == 0 ? 0 : -1);
                }
            }
        }
        LineRules x = Check.with("44Ed");
        Check.due("next(255)", x.next(255), 3);
        Check.due("a narrow rule", Check.read(x, "21Ea"), 2);
        Check.due("next(1)", x.next(1), 1);
        Check.due("next(2)", x.next(2), -1);
        Check.due("next(255)", x.next(255), -1);
    }
}

/** Promises 2 to 4: load, rule and next, by texts written by hand. */
public final class TextTest {
    public static void main(String[] args) {
        load();
        heads();
        tables();
        sums();
        expressionFaults();
        expressionValues();
        afterFault();
        next();
        Check.end();
    }

    private static void load() {
        LineRules x = new LineRules();
        int[] refused = {31, 127, 0, -1, 10, 128, 256 + 50, Integer.MIN_VALUE, Integer.MAX_VALUE};
        for (int c : refused) {
            Check.due("load(" + c + ")", x.load(c), -1);
        }
        Check.due("load(32)", x.load(32), 1);
        Check.due("load(126)", x.load(126), 2);
        for (int i = 3; i <= 64; i++) {
            Check.due("load", x.load('a'), i);
        }
        Check.due("load of a full text", x.load('a'), -2);
        Check.due("a wrong character comes first", x.load(31), -1);
        Check.due("fault at 0", x.rule(), -10);
        Check.due("load of an empty text", x.load('a'), 1);
    }

    private static void fault(String text, int place) {
        Check.due("rule of " + text, Check.read(new LineRules(), text), -10 - place);
    }

    private static void heads() {
        fault("", 0);
        for (String wrong : new String[] {"0", "1", "5", "9", "a", " ", "T", "12T0011"}) {
            fault(wrong, 0);
        }
        for (String wrong : new String[] {"2", "3", "4", "20", "25", "2a", "2T", "20T0"}) {
            fault(wrong, 1);
        }
        for (String wrong : new String[] {"22", "21t01", "22s000", "22ea", "22 ", "22A", "2201"}) {
            fault(wrong, 2);
        }
        fault("22T", 3);
        fault("22S", 3);
        fault("22E", 3);
    }

    private static void tables() {
        fault("22T000", 6);
        fault("22T00000", 7);
        fault("22T0020", 5);
        fault("22T00a0", 5);
        fault("31T013", 5);
        fault("41T0124", 6);
        fault("22T0000 ", 7);
        // Too wide for any text: what is there can stand, but it ends too early.
        StringBuilder text = new StringBuilder("43T");
        for (int i = 3; i < 64; i++) {
            fault(text.toString(), i);
            text.append(i % 4);
        }
        fault(text.toString(), 64);
        LineRules x = new LineRules();
        Check.due("a full table", Check.read(x, "33T012012012012012012012012012"), 3);
        Check.due("next(26)", x.next(26), 2);
        Check.due("next(25)", x.next(25), 1);
        Check.due("next(27)", x.next(27), -1);
    }

    private static void sums() {
        fault("22S00", 5);
        fault("22S0000", 6);
        fault("22S020", 4);
        fault("44S012301230123", 15);
        fault("44S01230123012301", 16);
        LineRules x = Check.with("44S0123012301230");
        Check.due("sum of 3333", x.next(255), 0);
        Check.due("sum of 3332", x.next(254), 3);
        Check.due("sum of 3000", x.next(192), 3);
        Check.due("sum of 1222", x.next(64 + 32 + 8 + 2), 3);
        LineRules y = Check.with("31S201");
        Check.due("sum of 0", y.next(0), 2);
        Check.due("sum of 2", y.next(2), 1);
    }

    private static void expressionFaults() {
        fault("22Ec", 3);
        fault("21Eb", 3);
        fault("24Ee", 3);
        fault("22EA", 3);
        fault("22E a", 3);
        fault("22Ea b", 4);
        fault("22Eab", 4);
        fault("22E1b", 4);
        fault("22E12", 4);
        fault("22E-a", 3);
        fault("22Ea+", 5);
        fault("22Ea++b", 5);
        fault("22Ea!", 4);
        fault("22E!", 4);
        fault("22E!!", 5);
        fault("22E!*", 4);
        fault("22E()", 4);
        fault("22E(a", 5);
        fault("22E(a))", 6);
        fault("22Ea)", 4);
        fault("22E(a", 5);
        fault("22Ea:b", 4);
        fault("22Ea?b", 6);
        fault("22Ea?b:", 7);
        fault("22Ea?b)", 6);
        fault("22Ea?:b", 5);
        fault("22E(a?b)", 7);
        fault("22E(a:b)", 5);
        fault("22Ea?(b:a)", 7);
        fault("22Ea?b:a:b", 8);
        fault("22Ea=b=a", 6);
        fault("22Ea=b<a", 6);
        fault("22Ea<b=a", 6);
        fault("22Ea<b+1<a", 8);
        fault("22E(a<b)=(a<b)=1", 14);
        fault("22E((((a)))", 11);
        fault("22E(((((a", 7);
        fault("22Ea?(b?(a?(b?1:0):0):0):0", 10);
        fault("22E0?1:0?1:0?1:0?1:0?1:0", 20);
        fault("22E0?(((0?1", 9);
        fault("22E(0?((0?(1", 9);
        StringBuilder turns = new StringBuilder("22E");
        while (turns.length() < 64) {
            turns.append('!');
        }
        fault(turns.toString(), 64);
        turns.setCharAt(63, 'a');
        Check.due("sixty turns", Check.with(turns.toString()).next(2), 1);
        turns.setCharAt(3, '1');
        fault(turns.toString(), 4);
    }

    private static void value(String text, int n, int want) {
        Check.due(text + " of " + n, Check.with(text).next(n), want);
    }

    private static void expressionValues() {
        value("31E9", 0, 0);
        value("31E8", 0, 2);
        value("41E7", 0, 3);
        value("21E9", 1, 1);
        value("31E!a", 0, 2);
        value("31E!a", 1, 1);
        value("41E!7", 0, 0);
        value("42Ea-b", 1, 3);
        value("42Ea-b-1", 1, 2);
        value("42Ea-(b-1)", 1, 0);
        value("42Ea+b", 15, 2);
        value("42Ea*b", 15, 1);
        value("42Ea*b", 2 * 4 + 2, 0);
        value("42E1+a*b", 2 * 4 + 3, 3);
        value("42E(1+a)*b", 2 * 4 + 3, 1);
        value("42Ea|b", 2 * 4 + 3, 3);
        value("42Ea&b", 2 * 4 + 3, 2);
        value("42E3|a&0", 0, 3);
        value("42Ea<b", 2 * 4 + 3, 1);
        value("42Ea<b", 3 * 4 + 3, 0);
        value("42Ea=b", 3 * 4 + 3, 1);
        value("42Ea=b+1", 3 * 4 + 2, 1);
        value("42Ea=1&b=2", 1 * 4 + 2, 1);
        value("42Ea=1|b", 1 * 4 + 2, 2);
        value("42E!a=b", 1 * 4 + 2, 1);
        value("42E!(a=b)", 1 * 4 + 2, 3);
        value("42E3+1=0", 0, 1);
        value("42Ea?b:1", 2 * 4 + 3, 3);
        value("42Ea?b:1", 3, 1);
        value("42Ea-2?b:1", 2 * 4 + 3, 1);
        value("42Ea|b?2:1", 1, 2);
        value("24Ea?b?2:c:d", 8 + 4 + 2, 0);
        value("24Ea?b?1:c:d", 8 + 2, 1);
        value("24Ea?b?1:c:d", 1, 1);
        value("24Ea?0:b?c:d", 4 + 2, 1);
        value("24Ea?0:b?c:d", 1, 1);
        value("24E(a?0:b)+1", 4, 0);
        value("24E0?1:0?1:0?1:0?1:1", 0, 1);
        value("24Ea?(b?1:0):(c?0:1)", 0, 1);
        value("24E(((a))+((b)))*(((c))+((d)))", 4 + 1, 1);
        value("34Ed", 2, 2);
        value("34Ea", 54, 2);
    }

    /** A fault empties the text and leaves all else. */
    private static void afterFault() {
        LineRules x = Check.with("32Ea+b");
        Check.fill(x, 1, 2, 0);
        Check.due("fault", Check.read(x, "22Ea=b=1"), -16);
        Check.due("the text is empty", x.rule(), -10);
        Check.due("the rule is kept", x.next(8), 1);
        Check.cells("the cells are kept", x, 1, 2, 0);
        Check.due("the states are kept", x.set(0, 2), 1);
        Check.due("fault", Check.read(x, "44T0"), -14);
        Check.due("the rule is kept", x.next(9), -1);
        Check.due("a new rule", Check.read(x, "41E!a"), 4);
        Check.cells("the cells are 0", x, 0, 0, 0);
        Check.due("it takes the other's place", x.next(3), 0);
        Check.due("it takes the other's place", x.next(4), -1);
        Check.due("the same rule again", x.set(1, 3), 0);
        Check.due("the same rule again", Check.read(x, "41E!a"), 4);
        Check.cells("the cells are 0 again", x, 0, 0, 0);
    }

    private static void next() {
        for (int states = 2; states <= 4; states++) {
            for (int width = 1; width <= 4; width++) {
                LineRules x = Check.with("" + states + width + "Ea");
                int windows = Model.power(states, width);
                Check.due("next(-1)", x.next(-1), -1);
                Check.due("next(0)", x.next(0), 0);
                Check.due("the last", x.next(windows - 1), states - 1);
                Check.due("behind the last", x.next(windows), -1);
                Check.due("far behind", x.next(Integer.MAX_VALUE), -1);
                Check.due("far before", x.next(Integer.MIN_VALUE), -1);
            }
        }
    }
}

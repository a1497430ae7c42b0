import java.util.List;

/** A test for each sentence about what a rule misses and loses: of the terms, promises 10, 11, 16 and 17. */
public final class RowsSentencesTest {
    /** Two states, four wide: every 17 cells are made, and these 18 are not. */
    private static final String LONG_ORPHAN = "24T0101011010101000";
    private static final int[] LONG_CELLS = {1, 0, 0, 1, 0, 1, 0, 1, 0, 0, 1, 0, 1, 0, 0, 1, 0, 1};

    public static void main(String[] args) {
        surjectiveIsOfRowsNotRings();
        surjectiveIsOneOrZero();
        surjectiveSeesLongOrphans();
        injectiveIsOfRowsNotRings();
        injectiveIsOneOrZero();
        injectiveSeesGreatRings();
        injectiveRulesAreSurjective();
        orphanIsMadeOfNoCells();
        orphanIsShortest();
        orphanIsLeast();
        orphanIsNoneForSurjectiveRules();
        orphanIsNoneBeyondAllSets();
        orphanOfRulesOneCellWide();
        orphanCountsSetsMet();
        orphanIsFull();
        orphanAtTellsCells();
        orphanAtRefusesOtherCells();
        orphanAtIsNoneWhereThereIsNone();
        orphanAtIsNoneWhereFull();
        areThoseOfTheRuleAsItIs();
        Check.end();
    }

    private static void expect(String text, int surjective, int injective) {
        LineRules x = Check.with(text);
        Check.due("surjective() of " + text, x.surjective(), surjective);
        Check.due("injective() of " + text, x.injective(), injective);
        LineRules y = Check.with(text);
        Check.due("injective() first, of " + text, y.injective(), injective);
        Check.due("surjective() behind it, of " + text, y.surjective(), surjective);
    }

    private static void surjectiveIsOfRowsNotRings() {
        Check.sentence("ROWS go on without end; SURJECTIVE when every row is what a step makes of some row");
        for (String text : new String[] {"23Ea+c", "22Ea+b", "42Ea+b", "24Ea+b+c+d"}) {
            LineRules x = Check.with(text);
            x.ring(4);
            x.set(0, 1);
            Check.due("before() of " + text, x.before(), 0);
            Check.due("surjective() of " + text, x.surjective(), 1);
        }
    }

    private static void surjectiveIsOneOrZero() {
        Check.sentence("Promise 10: 1 when the rule is surjective, otherwise 0");
        for (int states = 2; states <= 4; states++) {
            for (int width = 1; width <= 4; width++) {
                String head = "" + states + width + "E";
                Check.due(head + "a", Check.with(head + "a").surjective(), 1);
                Check.due(head + "!a", Check.with(head + "!a").surjective(), 1);
                Check.due(head + "0", Check.with(head + "0").surjective(), 0);
                Check.due(head + "a*a*a*a*0", Check.with(head + "a*a*a*a*0").surjective(), 0);
                char last = (char) ('a' + width - 1);
                Check.due(head + last, Check.with(head + last).surjective(), 1);
                if (width > 1) {
                    Check.due(head + "a*b", Check.with(head + "a*b").surjective(), 0);
                    Check.due(head + "a|" + last, Check.with(head + "a|" + last).surjective(), 0);
                }
            }
        }
    }

    private static void surjectiveSeesLongOrphans() {
        Check.sentence("SURJECTIVE when every row is what a step makes of some row, however long what is missed");
        Check.due(LONG_ORPHAN, Check.with(LONG_ORPHAN).surjective(), 0);
        for (String text : new String[] {"43E!c=9|9*c-a", "33T201120200120012012012201102", "44Eb-a*!d", "34Ed*a+c"}) {
            Check.due(text, Check.with(text).surjective(), 0);
        }
    }

    private static void injectiveIsOfRowsNotRings() {
        Check.sentence("INJECTIVE when a step never makes the same of two different rows");
        LineRules x = Check.with("23Ea+b+c");
        for (int n = 0; n < 16; n++) {
            Check.fill(x, n >> 3, n >> 2 & 1, n >> 1 & 1, n & 1);
            Check.due("ways() of four cells", x.ways(), 1);
        }
        Check.due("but not of rows", x.injective(), 0);
        LineRules y = Check.with("22Ea+b");
        Check.due("rows that differ everywhere", y.injective(), 0);
    }

    private static void injectiveIsOneOrZero() {
        Check.sentence("Promise 11: 1 when the rule is injective, otherwise 0");
        for (int states = 2; states <= 4; states++) {
            for (int width = 1; width <= 4; width++) {
                String head = "" + states + width + "E";
                for (int i = 0; i < width; i++) {
                    char letter = (char) ('a' + i);
                    expect(head + letter, 1, 1);
                    expect(head + "!" + letter, 1, 1);
                    expect(head + letter + "+1", 1, 1);
                    expect(head + letter + "&" + (states - 2), 0, 0);
                }
                expect(head + "0", 0, 0);
                if (width > 1) {
                    expect(head + "a+b", 1, 0);
                }
            }
        }
        expect("24Eb=(!!(!c*a*d))", 1, 1);
        expect("44Ea+d+d", 1, 1);
        expect("34Ed<2|b=1?(a<2?1-a:a):a", 1, 1);
    }

    /** All rings of up to six cells are made of just one ring each. */
    private static void injectiveSeesGreatRings() {
        Check.sentence("INJECTIVE when a step never makes the same of two different rows, however far they come back");
        String text = "24T1010010101011010";
        for (int count = 1; count <= 6; count++) {
            for (int n = 0; n < 1 << count; n++) {
                LineRules x = Check.with(text);
                Check.fill(x, new Model(2, 4, null).unpack(n, count));
                Check.due("ways() of " + count + " cells", x.ways(), 1);
            }
        }
        expect(text, 1, 0);
    }

    private static void injectiveRulesAreSurjective() {
        Check.sentence("INJECTIVE when a step never makes the same of two different rows: also of those that differ in one cell");
        for (int n = 0; n < 256; n++) {
            LineRules x = Check.with(Model.ofNumber(n).text());
            Check.isTrue("injective " + n, x.injective() <= x.surjective());
        }
        expect("23Eb|a*c", 0, 0);
        expect("44Ea*b+c*d", 0, 0);
    }

    private static void orphanIsMadeOfNoCells() {
        Check.sentence("An ORPHAN is n cells beside each other that the rule makes of no n + W - 1 cells");
        for (String text : new String[] {"23T01110110", "24Ea&b|c*d", "33Ea=2?1:c=1?2:b", "42E!b*a", "34Ea|b&c=d"}) {
            LineRules x = Check.with(text);
            Model model = Texts.modelOf(x, text.charAt(0) - '0', text.charAt(1) - '0');
            int[] due = model.orphanByRows(6);
            Check.due("orphan() of " + text, x.orphan(), due.length);
            for (int i = 0; i < due.length; i++) {
                Check.due("orphanAt(" + i + ") of " + text, x.orphanAt(i), due[i]);
            }
        }
    }

    private static void isOrphan(String text, int... due) {
        LineRules x = Check.with(text);
        Check.due("orphan() of " + text, x.orphan(), due.length);
        for (int i = 0; i < due.length; i++) {
            Check.due("orphanAt(" + i + ") of " + text, x.orphanAt(i), due[i]);
        }
        Check.due("orphanAt(" + due.length + ") of " + text, x.orphanAt(due.length), -1);
    }

    private static void orphanIsShortest() {
        Check.sentence("the one that counts is the shortest");
        // 0 1 0 1 is missed too, and begins with less, but is longer.
        isOrphan("32Ea=1&b=1", 2);
        isOrphan("23Ea*b*c", 1, 0, 1);
        isOrphan("22Ea*b", 1, 0, 1);
        isOrphan(LONG_ORPHAN, LONG_CELLS);
    }

    private static void orphanIsLeast() {
        Check.sentence("of these the least by its first cell, then its second, and so on");
        isOrphan("31T000", 1);
        isOrphan("31T111", 0);
        isOrphan("31T110", 2);
        isOrphan("44E3", 0);
        isOrphan("41T0033", 1);
        // Each state comes before two others alone: of four times two pairs that are missed one is least.
        isOrphan("42E(a<2)?(b<2?0:1):(b<2?2:3)", 0, 2);
        isOrphan("42E(a<2)?(b<2?3:1):(b<2?2:0)", 0, 1);
    }

    private static void orphanIsNoneForSurjectiveRules() {
        Check.sentence("Promise 16: 0 when there is none");
        for (String text : new String[] {"21Ea", "23Ea+c", "44Ed", "33Ea+b*c", "34Ec*b+d", "24Eb=(!!(!c*a*d))"}) {
            isOrphan(text);
        }
    }

    /** A rule that misses nothing, with more sets than are looked at. */
    private static void orphanIsNoneBeyondAllSets() {
        Check.sentence("Promise 16: FULL when the rule is not surjective: 0 when it is, however many sets there are");
        for (String text : new String[] {"44Ed+(b&a)", "34Ed+(a=b|b)", "33T021012012102120021210201120"}) {
            LineRules x = Check.with(text);
            Model model = Texts.modelOf(x, text.charAt(0) - '0', text.charAt(1) - '0');
            Check.isTrue("more than 500 sets of " + text, model.orphanBySets(505).setsMet > 500);
            Check.due("surjective() of " + text, x.surjective(), 1);
            Check.due("orphan() of " + text, x.orphan(), 0);
            Check.due("orphanAt(0) of " + text, x.orphanAt(0), -1);
        }
    }

    private static void orphanOfRulesOneCellWide() {
        Check.sentence("Promise 16: SETS of packed W - 1 cells: the first is that of all (where W is 1, of no cells)");
        for (int states = 2; states <= 4; states++) {
            for (int missed = 0; missed < states; missed++) {
                StringBuilder text = new StringBuilder(states + "1T");
                for (int n = 0; n < states; n++) {
                    text.append(n == missed ? (n + 1) % states : n);
                }
                isOrphan(text.toString(), missed);
            }
            isOrphan(states + "1Ea+1");
        }
    }

    /** With the first, 474 and 499 sets are met before the orphan is found. */
    private static void orphanCountsSetsMet() {
        Check.sentence("Promise 16: each is met, if it was not yet; found before 500 sets were met");
        String[] texts = {"33Ec=b*(c*b-a)?c:a+c", "33T120120021012012112201201210"};
        int[] met = {474, 499};
        for (int i = 0; i < texts.length; i++) {
            Model model = Texts.modelOf(Check.with(texts[i]), 3, 3);
            Model.Search search = model.orphanBySets(600);
            Check.due("sets met by " + texts[i], search.setsMet, met[i]);
            List<Integer> orphan = search.orphan;
            isOrphan(texts[i], orphan.stream().mapToInt(cell -> cell).toArray());
            Check.due("cells of the orphan of " + texts[i], orphan.size(), 11);
        }
    }

    private static void orphanIsFull() {
        Check.sentence("Promise 16: FULL when the rule is not surjective, and 500 sets were met before it was found");
        String[] texts = {"33T210210012201001201102102120", "33T201120012120202120012021201",
            "33T201120200120012012012201102", "44Eb-a*!d", "34Ed*a+c", "44E(a?d+!a:a)"};
        int[] met = {500, 501, 511, 868, 2898, 3375};
        for (int i = 0; i < texts.length; i++) {
            LineRules x = Check.with(texts[i]);
            Model model = Texts.modelOf(x, texts[i].charAt(0) - '0', texts[i].charAt(1) - '0');
            Check.due("sets met by " + texts[i], model.orphanBySets(4000).setsMet, met[i]);
            Check.due("surjective() of " + texts[i], x.surjective(), 0);
            Check.due("orphan() of " + texts[i], x.orphan(), -2);
            Check.due("orphan() again of " + texts[i], x.orphan(), -2);
        }
    }

    private static void orphanAtTellsCells() {
        Check.sentence("Promise 17: Cell i of it, from 0");
        LineRules x = Check.with(LONG_ORPHAN);
        for (int i = 17; i >= 0; i--) {
            Check.due("orphanAt(" + i + "), asked first", x.orphanAt(i), LONG_CELLS[i]);
        }
        Check.due("orphan()", x.orphan(), 18);
    }

    private static void orphanAtRefusesOtherCells() {
        Check.sentence("Promise 17: NONE also when it has no such cell");
        for (int i : new int[] {-1, 18, 19, 499, 500, 501, Check.LEAST, Check.MOST}) {
            Check.due("orphanAt(" + i + ")", Check.with(LONG_ORPHAN).orphanAt(i), -1);
        }
        LineRules x = Check.with("21T00");
        Check.due("the only one", x.orphanAt(0), 1);
        Check.due("behind it", x.orphanAt(1), -1);
        Check.due("before it", x.orphanAt(-1), -1);
    }

    private static void orphanAtIsNoneWhereThereIsNone() {
        Check.sentence("Promise 17: NONE also when there is none");
        LineRules x = Check.with(LONG_ORPHAN);
        Check.due("orphanAt(0)", x.orphanAt(0), 1);
        Check.due("a new rule", Check.read(x, "44Ed+(b&a)"), 4);
        for (int i = -2; i <= 18; i++) {
            Check.due("orphanAt(" + i + ")", x.orphanAt(i), -1);
        }
    }

    private static void orphanAtIsNoneWhereFull() {
        Check.sentence("Promise 17: NONE also when .. (or orphan() is FULL)");
        LineRules x = Check.with(LONG_ORPHAN);
        Check.due("orphanAt(0)", x.orphanAt(0), 1);
        Check.due("a new rule", Check.read(x, "44Eb-a*!d"), 4);
        for (int i = -3; i <= 18; i++) {
            Check.due("orphanAt(" + i + ")", x.orphanAt(i), -1);
        }
        Check.due("orphan()", x.orphan(), -2);
        Check.due("orphanAt(0)", x.orphanAt(0), -1);
    }

    private static void areThoseOfTheRuleAsItIs() {
        Check.sentence("surjective(), injective() and orphan() tell of the rule, and not of the ring");
        LineRules x = Check.with("23T01110110");
        Check.due("orphan()", x.orphan(), 5);
        Check.fill(x, 0, 1, 0, 1, 0, 0, 1, 0);
        x.step(3);
        Check.due("another ring", x.orphan(), 5);
        Check.due("another ring", x.surjective(), 0);
        Check.due("a new rule", Check.read(x, "23Ea+c"), 2);
        Check.due("is asked anew", x.surjective(), 1);
        Check.due("is asked anew", x.injective(), 0);
        Check.due("is asked anew", x.orphan(), 0);
        Check.due("a fault", Check.read(x, "23Ea+"), -15);
        Check.due("leaves it", x.surjective(), 1);
        Check.due("a new rule", Check.read(x, "21Ea"), 2);
        Check.due("is asked anew", x.injective(), 1);
        Check.due("a new rule", Check.read(x, "21T00"), 2);
        Check.due("is asked anew", x.injective(), 0);
        Check.due("is asked anew", x.surjective(), 0);
        Check.due("is asked anew", x.orphan(), 1);
    }
}

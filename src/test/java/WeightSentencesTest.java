/** A test for each sentence about the weights that a rule keeps: of the terms, promises 14 and 15. */
public final class WeightSentencesTest {
    public static void main(String[] args) {
        isZeroForStateZero();
        isKeptByRingsOfAnyNumber();
        isKeptByRingsOfOneCell();
        leadsWhereAllBelowAreZero();
        isZeroAtOtherLeaders();
        hasNoCommonDivisor();
        mayBeBelowZeroBehindItsLeader();
        conservedCounts();
        weightsAreByTheirLeaders();
        weightIsZeroForOtherWeights();
        weightIsZeroForOtherStates();
        areThoseOfTheRuleAsItIs();
        Check.end();
    }

    private static void basis(String text, int[]... due) {
        LineRules x = Check.with(text);
        Check.due("conserved() of " + text, x.conserved(), due.length);
        for (int k = 0; k < due.length; k++) {
            for (int s = 0; s < due[k].length; s++) {
                Check.due("weight(" + k + ", " + s + ") of " + text, x.weight(k, s), due[k][s]);
            }
        }
    }

    private static int[] weight(int... numbers) {
        return numbers;
    }

    /** Rules that keep no number of cells: all become another state, of which none was. */
    private static void isZeroForStateZero() {
        Check.sentence("A WEIGHT is a number for each state, 0 for the state 0");
        basis("21T10");
        basis("31Ea+1");
        basis("41T1000");
        // 0 becomes 1 and 1 becomes 0: so 1 has the weight of 0.
        basis("41T1032", weight(0, 0, 1, 1));
        basis("31T102", weight(0, 0, 1));
        for (String text : new String[] {"44Eb", "32Ea", "24Ec"}) {
            LineRules x = Check.with(text);
            for (int k = 0; k < x.conserved(); k++) {
                Check.due("weight(" + k + ", 0) of " + text, x.weight(k, 0), 0);
            }
        }
    }

    /** Rules that keep the sum for all rings of fewer cells than these, and first fail at so many. */
    private static void isKeptByRingsOfAnyNumber() {
        Check.sentence("KEPT when for rings of any R the sum of the weights of all cells is the same behind a step");
        String[] texts = {"24T0000000000000001", "24T0000010000000001", "24T0010011000010001", "24T0101000101110101"};
        int[] first = {2, 3, 4, 6};
        for (int i = 0; i < texts.length; i++) {
            boolean kept = true;
            for (int count = 1; count <= first[i]; count++) {
                Check.isTrue(texts[i] + " keeps the sum below " + count, kept);
                for (int n = 0; n < 1 << count; n++) {
                    LineRules x = Check.with(texts[i]);
                    Check.fill(x, new Model(2, 4, null).unpack(n, count));
                    int sum = x.population(1);
                    x.step(1);
                    kept &= x.population(1) == sum;
                }
            }
            Check.isTrue(texts[i] + " does not at " + first[i], !kept);
            Check.due("conserved() of " + texts[i], Check.with(texts[i]).conserved(), 0);
        }
    }

    private static void isKeptByRingsOfOneCell() {
        Check.sentence("KEPT when for rings of any R: also shorter ones than W");
        basis("21T01", weight(0, 1));
        basis("21T00");
        basis("21T11");
        basis("24T1000000000000000");
        basis("31T022", weight(0, 1, 1));
    }

    private static void leadsWhereAllBelowAreZero() {
        Check.sentence("A LEADER is a state for which there is a kept weight that is 0 at all states below it, but not at it");
        basis("41T0132", weight(0, 1, 0, 0), weight(0, 0, 1, 1));
        basis("41T0213", weight(0, 1, 1, 0), weight(0, 0, 0, 1));
        basis("41T0231", weight(0, 1, 1, 1));
        basis("41T0032", weight(0, 0, 1, 1));
        basis("41T0003", weight(0, 0, 0, 1));
        basis("41T0321", weight(0, 1, 0, 1), weight(0, 0, 1, 0));
    }

    /** Two halves of each state go different ways: what 3 has is the sum of what 1 and 2 have. */
    private static void isZeroAtOtherLeaders() {
        Check.sentence("THE BASIS: the kept weight that is 0 at all states below it and at all other leaders");
        Model halves = Texts.modelOf(Check.with("42T0101010123232323"), 4, 2);
        basis(halves.renamed(0, 1, 2, 3).text(), weight(0, 1, 0, 1), weight(0, 0, 1, 1));
        basis(halves.renamed(0, 2, 1, 3).text(), weight(0, 1, 0, 1), weight(0, 0, 1, 1));
        basis(halves.renamed(0, 1, 3, 2).text(), weight(0, 1, 0, -1), weight(0, 0, 1, 1));
        basis(halves.renamed(0, 3, 1, 2).text(), weight(0, 1, 0, -1), weight(0, 0, 1, 1));
        basis(halves.renamed(0, 2, 3, 1).text(), weight(0, 1, 0, 1), weight(0, 0, 1, -1));
        basis(halves.renamed(0, 3, 2, 1).text(), weight(0, 1, 0, 1), weight(0, 0, 1, -1));
    }

    /** Heaps of 0 to 3 of which one goes on: the weight is the height, whatever the state is called. */
    private static void hasNoCommonDivisor() {
        Check.sentence("THE BASIS: else has whole numbers without a common divisor, at the leader above 0");
        Model heaps = Texts.modelOf(Check.with("42Ea-(1<a)+(1<b)"), 4, 2);
        int[][] names = {{0, 1, 2, 3}, {0, 1, 3, 2}, {0, 2, 1, 3}, {0, 2, 3, 1}, {0, 3, 1, 2}, {0, 3, 2, 1}};
        for (int[] name : names) {
            int[] due = new int[4];
            for (int s = 0; s < 4; s++) {
                due[name[s]] = s;
            }
            basis(heaps.renamed(name).text(), due);
        }
        basis("33Eb+(0<a&b<2)-(0<b&c<2)", weight(0, 1, 2));
        Model three = Texts.modelOf(Check.with("33Eb+(0<a&b<2)-(0<b&c<2)"), 3, 3);
        basis(three.renamed(0, 2, 1).text(), weight(0, 2, 1));
    }

    private static void mayBeBelowZeroBehindItsLeader() {
        Check.sentence("THE BASIS: at the leader above 0 (and behind it above or below)");
        // 1 goes on, and is lost together with a 2 that it meets.
        basis("32Ea=1?b=2?0:1:b=2?2:0", weight(0, 1, -1));
        Model meeting = Texts.modelOf(Check.with("32Ea=1?b=2?0:1:b=2?2:0"), 3, 2);
        basis(meeting.renamed(0, 2, 1).text(), weight(0, 1, -1));
    }

    private static void conservedCounts() {
        Check.sentence("Promise 14: How many weights the basis has");
        for (int states = 2; states <= 4; states++) {
            for (int width = 1; width <= 4; width++) {
                String head = "" + states + width + "E";
                char last = (char) ('a' + width - 1);
                Check.due(head + "a", Check.with(head + "a").conserved(), states - 1);
                Check.due(head + last, Check.with(head + last).conserved(), states - 1);
                Check.due(head + "0", Check.with(head + "0").conserved(), 0);
                Check.due(head + "1", Check.with(head + "1").conserved(), 0);
                Check.due(head + "a+1", Check.with(head + "a+1").conserved(), 0);
            }
        }
        basis("23T00011101", weight(0, 1));
        basis("41T0231", weight(0, 1, 1, 1));
        basis("41T0213", weight(0, 1, 1, 0), weight(0, 0, 0, 1));
        // Cars that move when the cell ahead is free, of more and more kinds.
        basis("33Eb=0?(a=2?2:0):b=1?1:c=0?0:2", weight(0, 1, 0), weight(0, 0, 1));
        basis("43Eb=0&a<3?a:0<b&b<3&c=0?0:b", weight(0, 1, 0, 0), weight(0, 0, 1, 0), weight(0, 0, 0, 1));
        basis("34Ec=0?b:c=1?1:c=2&d=0?0:2", weight(0, 0, 1));
        basis("43Eb+(0<a&b<3)-(0<b&c<3)", weight(0, 1, 2, 3));
    }

    private static void weightsAreByTheirLeaders() {
        Check.sentence("Promise 15: The k-th weight of the basis, from 0, at state s; for each leader, by number");
        basis("44Eb", weight(0, 1, 0, 0), weight(0, 0, 1, 0), weight(0, 0, 0, 1));
        basis("33Ec", weight(0, 1, 0), weight(0, 0, 1));
        basis("22Eb", weight(0, 1));
        Check.due("asked first", Check.with("44Eb").weight(2, 3), 1);
        Check.due("asked first", Check.with("44Eb").weight(2, 2), 0);
    }

    private static void weightIsZeroForOtherWeights() {
        Check.sentence("Promise 15: 0 when there is no such weight");
        String[] texts = {"21T10", "21Ea", "41T0231", "41T0213", "41Ea", "44Ed"};
        int[] counts = {0, 1, 1, 2, 3, 3};
        for (int i = 0; i < texts.length; i++) {
            LineRules x = Check.with(texts[i]);
            Check.due("conserved() of " + texts[i], x.conserved(), counts[i]);
            for (int k : new int[] {-1, counts[i], counts[i] + 1, 3, 4, -2, Check.LEAST, Check.MOST}) {
                for (int s = 0; s < 4; s++) {
                    Check.due("weight(" + k + ", " + s + ") of " + texts[i], x.weight(k, s), 0);
                }
            }
        }
    }

    private static void weightIsZeroForOtherStates() {
        Check.sentence("Promise 15: 0 when there is no such state");
        for (int states = 2; states <= 4; states++) {
            LineRules x = Check.with("41Ea");
            Check.due("all states have weights", x.weight(2, 3), 1);
            Check.read(x, states + "1Ea");
            for (int k = 0; k < states - 1; k++) {
                for (int s : new int[] {-1, states, states + 1, 4, 5, Check.LEAST, Check.MOST}) {
                    Check.due("weight(" + k + ", " + s + ") of " + states, x.weight(k, s), 0);
                }
            }
            Check.due("the last", x.weight(states - 2, states - 1), 1);
        }
    }

    private static void areThoseOfTheRuleAsItIs() {
        Check.sentence("conserved() and weight() tell of the rule as it is");
        LineRules x = Check.with("41Ea");
        Check.due("all are kept", x.conserved(), 3);
        Check.due("a new rule", Check.read(x, "41T0213"), 4);
        Check.due("is asked anew", x.weight(0, 2), 1);
        Check.due("is asked anew", x.conserved(), 2);
        Check.due("is asked anew", x.weight(2, 3), 0);
        Check.due("a fault", Check.read(x, "41T021"), -16);
        Check.due("leaves it", x.conserved(), 2);
        Check.due("a new rule", Check.read(x, "41E0"), 4);
        Check.due("is asked anew", x.conserved(), 0);
        Check.due("is asked anew", x.weight(0, 2), 0);
        Check.due("a new rule", Check.read(x, "41T0231"), 4);
        Check.due("is asked anew", x.weight(0, 1), 1);
        Check.due("a new rule", Check.read(x, "41T0032"), 4);
        Check.due("nothing is left of the other", x.weight(0, 1), 0);
        Check.due("is asked anew", x.weight(0, 3), 1);
    }
}

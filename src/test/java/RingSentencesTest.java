/** A test for each sentence about the ring that names a boundary: of the terms, and promises 5 to 9. */
public final class RingSentencesTest {
    public static void main(String[] args) {
        isAtFirstOneCell();
        isNumberedFromZero();
        goesRound();
        stepsByCellsToTheLeft();
        stepsAllCellsAtOnce();
        mayBeShorterThanTheRule();
        isClearedByNewRule();
        ringAnswersHowManyItHad();
        ringMakesAllCellsZero();
        ringRefusesOtherNumbers();
        setAnswersWhatWas();
        setRefusesOtherCells();
        setRefusesOtherStates();
        getRefusesOtherCells();
        stepCountsCellsThatAreOther();
        stepTakesNoneToTwoHundred();
        stepRefusesOtherNumbers();
        populationCounts();
        populationRefusesOtherStates();
        Check.end();
    }

    /** Cells that differ from those near them. */
    private static int[] pattern(int count, int states) {
        int[] cells = new int[count];
        for (int i = 0; i < count; i++) {
            cells[i] = (i * i + i / 3 + 1) % states;
        }
        return cells;
    }

    private static void isAtFirstOneCell() {
        Check.sentence("THE RING: at first one cell, 0");
        Check.cells("a new object", new LineRules(), 0);
        Check.due("ring(9)", new LineRules().ring(9), 1);
        LineRules x = Check.with("44Ea");
        Check.cells("the first rule", x, 0);
        Check.due("population(0)", x.population(0), 1);
        Check.due("set(1, 0)", x.set(1, 0), -1);
    }

    private static void isNumberedFromZero() {
        Check.sentence("THE RING has R cells, 1 to 64, numbered from 0");
        for (int count = 1; count <= 64; count++) {
            LineRules x = Check.with("41Ea");
            int[] cells = pattern(count, 4);
            Check.fill(x, cells);
            Check.cells("a ring of " + count, x, cells);
            Check.due("get(-1)", x.get(-1), -1);
            Check.due("set behind the last", x.set(count, 1), -1);
            Check.due("population of all", x.population(0) + x.population(1) + x.population(2) + x.population(3), count);
        }
    }

    private static void goesRound() {
        Check.sentence("THE RING: cell 0 being beside cell R - 1");
        for (int count = 1; count <= 64; count++) {
            LineRules x = Check.with("23Ea");
            x.ring(count);
            x.set(count - 1, 1);
            Check.due("the last moves to cell 0 of " + count, x.step(1), count == 1 ? 0 : 2);
            Check.due("the last moves to cell 0 of " + count, x.get(0), 1);
            LineRules y = Check.with("23Ec");
            y.ring(count);
            y.set(0, 1);
            Check.due("cell 0 moves to the last of " + count, y.step(1), count == 1 ? 0 : 2);
            Check.due("cell 0 moves to the last of " + count, y.get(count - 1), 1);
        }
    }

    /** For each width and each of its cells: where that cell lies beside cell i. */
    private static void stepsByCellsToTheLeft() {
        Check.sentence("TO STEP: the cells i - L, i - L + 1, .., L being (W - 1) / 2, rounded down");
        int[] left = {0, 0, 0, 1, 1};
        for (int width = 1; width <= 4; width++) {
            for (int letter = 0; letter < width; letter++) {
                for (int count : new int[] {1, 2, 3, 4, 5, 9, 63, 64}) {
                    LineRules x = Check.with("4" + width + "E" + (char) ('a' + letter));
                    int[] cells = pattern(count, 4);
                    Check.fill(x, cells);
                    x.step(1);
                    int[] due = new int[count];
                    for (int i = 0; i < count; i++) {
                        due[i] = cells[(i + letter - left[width] + count) % count];
                    }
                    Check.cells("letter " + letter + " of " + width, x, due);
                }
            }
        }
    }

    private static void stepsAllCellsAtOnce() {
        Check.sentence("TO STEP: each cell i becomes what the rule makes of the cells");
        LineRules x = Check.with("23Ea+b+c");
        Check.fill(x, 0, 0, 1, 0, 0);
        Check.due("step(1)", x.step(1), 2);
        Check.cells("by the cells that were", x, 0, 1, 1, 1, 0);
        LineRules y = Check.with("42Ea+b");
        Check.fill(y, 1, 2, 3);
        Check.due("step(1)", y.step(1), 3);
        Check.cells("the last by cell 0 that was", y, 3, 1, 0);
    }

    private static void mayBeShorterThanTheRule() {
        Check.sentence("TO STEP: W of them, going round; a ring may be shorter than W");
        LineRules one = Check.with("34Ea+b+c-d");
        Check.fill(one, 2);
        one.step(1);
        Check.cells("2 + 2 + 2 - 2", one, 1);
        LineRules two = Check.with("34Ea+b-d");
        Check.fill(two, 2, 1);
        two.step(1);
        // Cell 0 is made of the cells 1, 0, 1, 0 and cell 1 of the cells 0, 1, 0, 1.
        Check.cells("1 + 2 - 2 and 2 + 1 - 1", two, 1, 2);
        LineRules three = Check.with("44Ea*d+b");
        Check.fill(three, 1, 2, 3);
        three.step(1);
        // Cell 0 is made of the cells 2, 0, 1, 2; cell 1 of 0, 1, 2, 0; cell 2 of 1, 2, 0, 1.
        Check.cells("9 + 1, 1 + 2 and 4 + 3", three, 2, 3, 3);
        LineRules pair = Check.with("43Ea-b-b+c");
        Check.fill(pair, 1, 3);
        pair.step(1);
        Check.cells("3 - 2 + 3 and 1 - 6 + 1", pair, 0, 0);
        LineRules single = Check.with("42Ea+b");
        Check.fill(single, 3);
        single.step(1);
        Check.cells("3 + 3", single, 2);
        LineRules triple = Check.with("43Ea+b+c");
        Check.fill(triple, 3);
        triple.step(1);
        Check.cells("3 + 3 + 3", triple, 1);
    }

    private static void isClearedByNewRule() {
        Check.sentence("When there is a new rule, all cells become 0");
        for (int count : new int[] {1, 2, 63, 64}) {
            for (String text : new String[] {"44Ea", "21T11", "31S012", "42E3"}) {
                LineRules x = Check.with("44Ea");
                Check.fill(x, pattern(count, 4));
                x.set(0, 3);
                x.set(count - 1, 3);
                Check.read(x, text);
                Check.cells("behind " + text, x, new int[count]);
                Check.due("population(0) behind " + text, x.population(0), count);
                Check.due("as many cells as there were", x.ring(7), count);
            }
        }
    }

    private static void ringAnswersHowManyItHad() {
        Check.sentence("Promise 5: The ring has so many cells then: how many it had");
        LineRules x = new LineRules();
        int had = 1;
        for (int cells = 64; cells >= 1; cells--) {
            Check.due("ring(" + cells + ")", x.ring(cells), had);
            Check.due("the last cell of " + cells, x.get(cells - 1), 0);
            Check.due("none behind it", x.get(cells), -1);
            had = cells;
        }
        Check.due("the same again", x.ring(1), 1);
        Check.due("from 1 to 64", x.ring(64), 1);
        Check.due("the same again", x.ring(64), 64);
    }

    private static void ringMakesAllCellsZero() {
        Check.sentence("Promise 5: all 0");
        LineRules x = Check.with("41Ea");
        for (int count : new int[] {1, 2, 5, 64}) {
            Check.fill(x, pattern(count, 4));
            x.set(count - 1, 3);
            x.ring(count);
            Check.cells("the same number of cells", x, new int[count]);
        }
        x.set(63, 1);
        x.set(0, 2);
        x.ring(1);
        Check.cells("a smaller ring", x, 0);
        x.ring(64);
        Check.cells("a greater ring behind a smaller one", x, new int[64]);
    }

    private static void ringRefusesOtherNumbers() {
        Check.sentence("Promise 5: NONE when cells is not 1 .. 64");
        LineRules x = Check.with("41Ea");
        Check.fill(x, 1, 2, 3);
        for (int cells : new int[] {0, 65, -1, -64, 128, 256 + 3, Check.LEAST, Check.MOST}) {
            Check.due("ring(" + cells + ")", x.ring(cells), -1);
            Check.cells("a refused one changes nothing", x, 1, 2, 3);
        }
        Check.due("ring(1)", x.ring(1), 3);
        Check.due("ring(64)", x.ring(64), 1);
        Check.due("ring(65)", x.ring(65), -1);
        Check.due("it still has 64", x.ring(2), 64);
    }

    private static void setAnswersWhatWas() {
        Check.sentence("Promise 6: Cell i becomes s: what it was");
        for (int states = 2; states <= 4; states++) {
            LineRules x = Check.with(states + "1Ea");
            x.ring(64);
            for (int i : new int[] {0, 31, 63}) {
                int was = 0;
                for (int s : new int[] {states - 1, states - 1, 0, 1, 0}) {
                    Check.due("set(" + i + ", " + s + ")", x.set(i, s), was);
                    Check.due("get(" + i + ")", x.get(i), s);
                    was = s;
                }
            }
            x.set(31, 1);
            Check.due("the cell before stays", x.get(30), 0);
            Check.due("the cell behind stays", x.get(32), 0);
        }
    }

    private static void setRefusesOtherCells() {
        Check.sentence("Promise 6: NONE also when there is no such cell");
        for (int count : new int[] {1, 3, 63, 64}) {
            LineRules x = Check.with("31Ea");
            x.ring(count);
            for (int i : new int[] {-1, count, count + 1, 64, 65, -count, Check.LEAST, Check.MOST}) {
                Check.due("set(" + i + ", 1) of " + count, x.set(i, 1), -1);
            }
            Check.cells("nothing is changed", x, new int[count]);
            Check.due("the first", x.set(0, 1), 0);
            Check.due("the last", x.set(count - 1, 2), count == 1 ? 1 : 0);
        }
    }

    private static void setRefusesOtherStates() {
        Check.sentence("Promise 6: NONE also when there is no such state");
        for (int states = 2; states <= 4; states++) {
            LineRules x = Check.with(states + "1Ea");
            Check.fill(x, 1, 1, 1);
            for (int s : new int[] {-1, states, states + 1, 4, 5, Check.LEAST, Check.MOST}) {
                Check.due("set(1, " + s + ") of " + states, x.set(1, s), -1);
                Check.due("set(3, " + s + ") of " + states, x.set(3, s), -1);
            }
            Check.cells("nothing is changed", x, 1, 1, 1);
            Check.due("the first state", x.set(1, 0), 1);
            Check.due("the last state", x.set(1, states - 1), 0);
        }
    }

    private static void getRefusesOtherCells() {
        Check.sentence("Promise 7: Cell i; NONE when there is no such cell");
        for (int count : new int[] {1, 2, 63, 64}) {
            LineRules x = Check.with("41E3");
            x.ring(count);
            x.step(1);
            for (int i : new int[] {-1, count, count + 1, 64, 65, Check.LEAST, Check.MOST}) {
                Check.due("get(" + i + ") of " + count, x.get(i), -1);
            }
            Check.due("the first of " + count, x.get(0), 3);
            Check.due("the last of " + count, x.get(count - 1), 3);
        }
        LineRules x = Check.with("41E3");
        x.ring(64);
        x.step(1);
        x.ring(2);
        Check.due("no cell is left of a greater ring", x.get(2), -1);
    }

    private static void stepCountsCellsThatAreOther() {
        Check.sentence("Promise 8: n steps: how many cells are other ones than before");
        LineRules x = Check.with("21E!a");
        x.ring(64);
        Check.due("all are other ones", x.step(1), 64);
        Check.due("they come back", x.step(2), 0);
        Check.due("all are other ones behind three", x.step(3), 64);
        LineRules y = Check.with("42Eb");
        Check.fill(y, 1, 2, 3, 0);
        Check.due("all moved", y.step(1), 4);
        Check.due("moved round to where they were", y.step(4), 0);
        Check.cells("moved once in all", y, 2, 3, 0, 1);
        LineRules z = Check.with("41E1");
        Check.fill(z, 1, 0, 1, 3);
        Check.due("two are other ones", z.step(1), 2);
        Check.due("none is", z.step(1), 0);
    }

    private static void stepTakesNoneToTwoHundred() {
        Check.sentence("Promise 8: n steps, 0 .. 200");
        LineRules x = Check.with("42Eb");
        int[] cells = pattern(64, 4);
        for (int n : new int[] {0, 1, 2, 63, 64, 65, 199, 200}) {
            Check.fill(x, cells);
            int changed = 0;
            for (int i = 0; i < 64; i++) {
                changed += cells[i] != cells[(i + n) % 64] ? 1 : 0;
            }
            Check.due("step(" + n + ")", x.step(n), changed);
            Check.due("behind step(" + n + ")", x.get(5), cells[(5 + n) % 64]);
            x = Check.with("42Eb");
        }
    }

    private static void stepRefusesOtherNumbers() {
        Check.sentence("Promise 8: NONE also when n is not 0 .. 200");
        LineRules x = Check.with("41Ea+1");
        Check.fill(x, 1, 2, 3);
        for (int n : new int[] {-1, 201, -200, 202, 1000, Check.LEAST, Check.MOST}) {
            Check.due("step(" + n + ")", x.step(n), -1);
            Check.cells("nothing is changed", x, 1, 2, 3);
        }
        Check.due("step(0)", x.step(0), 0);
        Check.cells("no step", x, 1, 2, 3);
        Check.due("step(200)", x.step(200), 0);
        Check.due("step(199)", x.step(199), 3);
        Check.cells("199 steps", x, 0, 1, 2);
    }

    private static void populationCounts() {
        Check.sentence("Promise 9: How many cells of the ring have a state");
        LineRules x = Check.with("41Ea");
        Check.fill(x, 3, 0, 3, 1, 3);
        int[] due = {1, 1, 0, 3};
        for (int s = 0; s < 4; s++) {
            Check.due("population(" + s + ")", x.population(s), due[s]);
        }
        x.ring(64);
        Check.due("all", x.population(0), 64);
        Check.due("none", x.population(3), 0);
        x.set(0, 3);
        x.set(63, 3);
        Check.due("the first and the last", x.population(3), 2);
        Check.due("all others", x.population(0), 62);
        x.ring(2);
        Check.due("none of a greater ring", x.population(3), 0);
        Check.due("two cells", x.population(0), 2);
    }

    private static void populationRefusesOtherStates() {
        Check.sentence("Promise 9: NONE also when there is no such state");
        for (int states = 2; states <= 4; states++) {
            LineRules x = Check.with(states + "1Ea");
            x.ring(9);
            x.set(4, states - 1);
            for (int s : new int[] {-1, states, states + 1, 4, 64, Check.LEAST, Check.MOST}) {
                Check.due("population(" + s + ") of " + states, x.population(s), -1);
            }
            Check.due("the first state", x.population(0), 8);
            Check.due("the last state", x.population(states - 1), 1);
        }
    }
}

/** The edges in the document's table of the instructions, a test for each row. */
public final class TableTest {
    private static final int MAX = Integer.MAX_VALUE;
    private static final int MIN = Integer.MIN_VALUE;

    // A number c, and what c & 15 is.
    private static final int[][] LOW_FOUR_BITS = {
        {0, 0}, {1, 1}, {14, 14}, {15, 15}, {16, 0}, {17, 1}, {31, 15}, {32, 0}, {-1, 15},
        {-15, 1}, {-16, 0}, {-17, 15}, {MAX, 15}, {MAX - 15, 0}, {MIN, 0}, {MIN + 1, 1},
    };

    private static final Check CHECK = new Check();

    public static void main(String[] args) {
        CHECK.each(
            TableTest::setx, TableTest::sety, TableTest::addc, TableTest::add, TableTest::sub,
            TableTest::mul, TableTest::divTraps, TableTest::divRoundsDown, TableTest::swap,
            TableTest::index, TableTest::read, TableTest::jump, TableTest::jeq, TableTest::jlt,
            TableTest::jz, TableTest::halt, TableTest::numbersWithoutMeaning);
    }

    private static void setx() {
        CHECK.sentence("SETX c: x becomes c & 15");
        for (int[] row : LOW_FOUR_BITS) {
            becomes(Ops.SETX, row[0], 5, 10, row[1], 10);
        }
    }

    private static void sety() {
        CHECK.sentence("SETY c: y becomes c & 15");
        for (int[] row : LOW_FOUR_BITS) {
            becomes(Ops.SETY, row[0], 5, 10, 5, row[1]);
        }
    }

    private static void addc() {
        CHECK.sentence("ADDC c: x becomes (x + c) & 15");
        int[][] rows = {
            {14, 1, 15}, {15, 1, 0}, {0, 15, 15}, {0, 16, 0}, {0, 17, 1}, {15, 15, 14},
            {1, -1, 0}, {0, -1, 15}, {15, -15, 0}, {14, -15, 15}, {0, -16, 0}, {15, -17, 14},
            {0, MAX, 15}, {1, MAX, 0}, {15, MAX, 14}, {0, MIN, 0}, {15, MIN, 15},
        };
        for (int[] row : rows) {
            becomes(Ops.ADDC, row[1], row[0], 9, row[2], 9);
        }
    }

    private static void add() {
        CHECK.sentence("ADD: x becomes (x + y) & 15");
        pairs(Ops.ADD, new int[][] {
            {0, 0, 0}, {7, 8, 15}, {8, 8, 0}, {15, 0, 15}, {15, 1, 0}, {0, 15, 15}, {15, 15, 14},
        });
    }

    private static void sub() {
        CHECK.sentence("SUB: x becomes (x - y) & 15");
        pairs(Ops.SUB, new int[][] {
            {0, 0, 0}, {1, 1, 0}, {0, 1, 15}, {0, 15, 1}, {14, 15, 15}, {15, 15, 0}, {15, 0, 15},
        });
    }

    private static void mul() {
        CHECK.sentence("MUL: x becomes (x * y) & 15");
        pairs(Ops.MUL, new int[][] {
            {3, 5, 15}, {4, 4, 0}, {2, 8, 0}, {15, 0, 0}, {0, 15, 0}, {15, 1, 15}, {1, 15, 15},
            {15, 2, 14}, {15, 15, 1},
        });
    }

    private static void divTraps() {
        CHECK.sentence("DIV: traps if y == 0");
        for (int x = 0; x < 16; x++) {
            trapsOrNot(Ops.DIV, 0, x, 0, true);
            trapsOrNot(Ops.DIV, 0, x, 1, false);
            trapsOrNot(Ops.DIV, 0, x, 15, false);
        }
    }

    private static void divRoundsDown() {
        CHECK.sentence("DIV: else x becomes x / y, rounded down");
        pairs(Ops.DIV, new int[][] {
            {0, 1, 0}, {15, 1, 15}, {15, 15, 1}, {14, 15, 0}, {1, 2, 0}, {15, 2, 7}, {15, 8, 1},
            {11, 4, 2}, {12, 4, 3}, {0, 15, 0},
        });
    }

    private static void swap() {
        CHECK.sentence("SWAP: x and y exchange their values");
        becomes(Ops.SWAP, 0, 0, 15, 15, 0);
        becomes(Ops.SWAP, 0, 15, 0, 0, 15);
        becomes(Ops.SWAP, 0, 6, 6, 6, 6);
    }

    private static void index() {
        CHECK.sentence("INDEX c: traps if x >= (c & 31), else nothing");
        // A number c, and the least x that traps; 16 if none does.
        int[][] rows = {
            {0, 0}, {1, 1}, {2, 2}, {14, 14}, {15, 15}, {16, 16}, {17, 16}, {31, 16}, {32, 0},
            {33, 1}, {47, 15}, {48, 16}, {63, 16}, {64, 0}, {-1, 16}, {-16, 16}, {-17, 15},
            {-31, 1}, {-32, 0}, {-33, 16}, {MAX, 16}, {MIN, 0}, {MIN + 1, 1},
        };
        for (int[] row : rows) {
            for (int x = 0; x < 16; x++) {
                trapsOrNot(Ops.INDEX, row[0], x, 12, x >= row[1]);
                if (x < row[1]) {
                    becomes(Ops.INDEX, row[0], x, 12, x, 12);
                }
            }
        }
    }

    private static void read() {
        CHECK.sentence("READ: y becomes any of 0 to 15");
        for (int y : new int[] {0, 9, 15}) {
            TrapProver prover = Check.from(Check.program(Ops.READ, 0, Ops.HALT, 0), 3, y);
            CHECK.due("READ: possible(1, 3, 0)", prover.possible(1, 3, 0), true);
            CHECK.due("READ: possible(1, 3, 15)", prover.possible(1, 3, 15), true);
            CHECK.due("READ: y", prover.values(1, 1), 0xFFFF);
            CHECK.due("READ: x", prover.values(1, 0), 1 << 3);
            CHECK.due("READ: states(1)", prover.states(1), 16);
        }
    }

    private static void jump() {
        CHECK.sentence("JUMP c: goes to instruction c");
        for (int c = 0; c < 4; c++) {
            goesTo(Ops.JUMP, c, 5, 6, c);
        }
        endsOutside(Ops.JUMP, 5, 6);
    }

    private static void jeq() {
        CHECK.sentence("JEQ c: goes to instruction c if x == y");
        for (int c : new int[] {0, 3}) {
            goesTo(Ops.JEQ, c, 0, 0, c);
            goesTo(Ops.JEQ, c, 15, 15, c);
            goesTo(Ops.JEQ, c, 7, 8, 1);
            goesTo(Ops.JEQ, c, 8, 7, 1);
            goesTo(Ops.JEQ, c, 0, 15, 1);
        }
        endsOutside(Ops.JEQ, 4, 4);
        goesTo(Ops.JEQ, 4, 4, 5, 1);
    }

    private static void jlt() {
        CHECK.sentence("JLT c: goes to instruction c if x < y");
        for (int c : new int[] {0, 3}) {
            goesTo(Ops.JLT, c, 7, 8, c);
            goesTo(Ops.JLT, c, 8, 8, 1);
            goesTo(Ops.JLT, c, 9, 8, 1);
            goesTo(Ops.JLT, c, 0, 15, c);
            goesTo(Ops.JLT, c, 15, 0, 1);
            goesTo(Ops.JLT, c, 0, 0, 1);
        }
        endsOutside(Ops.JLT, 4, 5);
        goesTo(Ops.JLT, 4, 5, 5, 1);
    }

    private static void jz() {
        CHECK.sentence("JZ c: goes to instruction c if x == 0");
        for (int c : new int[] {0, 3}) {
            goesTo(Ops.JZ, c, 0, 0, c);
            goesTo(Ops.JZ, c, 0, 15, c);
            goesTo(Ops.JZ, c, 1, 0, 1);
            goesTo(Ops.JZ, c, 15, 0, 1);
        }
        endsOutside(Ops.JZ, 0, 9);
        goesTo(Ops.JZ, 4, 1, 9, 1);
    }

    private static void halt() {
        CHECK.sentence("HALT: the run ends");
        for (int c : new int[] {0, 1, MIN, MAX}) {
            TrapProver prover = Check.program(Ops.HALT, c, Ops.INDEX, 0);
            CHECK.due("HALT " + c + ": states(0)", prover.states(0), 256);
            CHECK.due("HALT " + c + ": states(1)", prover.states(1), 0);
            CHECK.due("HALT " + c + ": canEnd", prover.canEnd(), true);
            CHECK.due("HALT " + c + ": safe", prover.safe(), true);
            CHECK.due("HALT " + c + ": canRunForever", prover.canRunForever(), false);
        }
    }

    private static void numbersWithoutMeaning() {
        CHECK.sentence("ADD, SUB, MUL, DIV, SWAP, READ and HALT stand in the table without c");
        int[] ops = {Ops.ADD, Ops.SUB, Ops.MUL, Ops.DIV, Ops.SWAP, Ops.READ, Ops.HALT};
        for (int op : ops) {
            for (int c : new int[] {1, 2, 15, 16, 32, -1, MAX, MIN}) {
                TrapProver plain = Check.program(op, 0, Ops.JLT, 0, Ops.HALT, 0);
                TrapProver other = Check.program(op, c, Ops.JLT, 0, Ops.HALT, 0);
                String when = "op " + op + " with " + c;
                CHECK.same(when, Answers.ofQuestions(other), Answers.ofQuestions(plain));
            }
        }
    }

    /** Rows of x, y and the x that is due after them; y stays. */
    private static void pairs(int op, int[][] rows) {
        for (int[] row : rows) {
            becomes(op, 0, row[0], row[1], row[2], row[1]);
        }
    }

    private static String told(int op, int c, int x, int y) {
        return "op " + op + " " + c + " with x " + x + " y " + y;
    }

    private static void becomes(int op, int c, int x, int y, int wantX, int wantY) {
        TrapProver prover = Check.from(Check.program(op, c, Ops.HALT, 0), x, y);
        String call = told(op, c, x, y);
        CHECK.due(call + ": x", prover.values(1, 0), 1 << wantX);
        CHECK.due(call + ": y", prover.values(1, 1), 1 << wantY);
        CHECK.due(call + ": states(1)", prover.states(1), 1);
        CHECK.due(call + ": traps(0)", prover.traps(0), 0);
    }

    private static void trapsOrNot(int op, int c, int x, int y, boolean want) {
        TrapProver prover = Check.from(Check.program(op, c, Ops.HALT, 0), x, y);
        String call = told(op, c, x, y);
        CHECK.due(call + ": traps(0)", prover.traps(0), want ? 1 : 0);
        CHECK.due(call + ": states(1)", prover.states(1), want ? 0 : 1);
        CHECK.due(call + ": safe", prover.safe(), !want);
    }

    /** The jump stands at 0; 1 to 3 are HALTs. */
    private static TrapProver jumpFrom(int op, int c, int x, int y) {
        return Check.from(Check.program(op, c, Ops.HALT, 0, Ops.HALT, 0, Ops.HALT, 0), x, y);
    }

    private static void goesTo(int op, int c, int x, int y, int want) {
        TrapProver prover = jumpFrom(op, c, x, y);
        String call = told(op, c, x, y);
        for (int p = 1; p < 4; p++) {
            CHECK.due(call + ": states(" + p + ")", prover.states(p), p == want ? 1 : 0);
        }
        CHECK.due(call + ": registers stay", prover.possible(want, x, y), true);
        CHECK.due(call + ": canRunForever", prover.canRunForever(), want == 0);
        CHECK.due(call + ": canEnd", prover.canEnd(), want != 0);
    }

    /** With x and y that take the jump: 3 is the last instruction, so 4 is outside, as is -1. */
    private static void endsOutside(int op, int x, int y) {
        for (int c : new int[] {4, -1, 15, 16, 17, 32, 256, 65536, -16, MAX, MIN}) {
            TrapProver prover = jumpFrom(op, c, x, y);
            String call = told(op, c, x, y);
            for (int p = 1; p < 4; p++) {
                CHECK.due(call + ": states(" + p + ")", prover.states(p), 0);
            }
            CHECK.due(call + ": canEnd", prover.canEnd(), true);
            CHECK.due(call + ": safe", prover.safe(), true);
            CHECK.due(call + ": canRunForever", prover.canRunForever(), false);
        }
    }
}

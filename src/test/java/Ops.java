/** The numbers of the instructions, as the document's table has them. */
final class Ops {
    static final int SETX = 0;
    static final int SETY = 1;
    static final int ADDC = 2;
    static final int ADD = 3;
    static final int SUB = 4;
    static final int MUL = 5;
    static final int DIV = 6;
    static final int SWAP = 7;
    static final int INDEX = 8;
    static final int READ = 9;
    static final int JUMP = 10;
    static final int JEQ = 11;
    static final int JLT = 12;
    static final int JZ = 13;
    static final int HALT = 14;

    private Ops() {
    }
}

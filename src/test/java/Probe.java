/** Looks at what a guard knows of register 2 behind some slots, by the ways of a relation that are open then. */
final class Probe {
    private final Checker check;

    Probe(Checker itsCheck) {
        check = itsCheck;
    }

    private static Assembly again(Assembly program) {
        Assembly copy = new Assembly();
        for (int i = 0; i < program.size(); i++) {
            copy.raw(program.word(i));
        }
        return copy;
    }

    /** Whether a relation of register 2 and a number can hold, and whether it can't. */
    void ways(String what, Assembly program, int k, long number, boolean goes, boolean falls) {
        Assembly asked = again(program).wide(9, number).ifFrom(k, 2, 9, 0).leave(0);
        open(what + ": relation " + k + " with " + number, asked, goes, falls);
    }

    void narrowWays(String what, Assembly program, int k, int field, boolean goes, boolean falls) {
        Assembly asked = again(program).ifNarrowField(k, 2, field, 0).leave(0);
        open(what + ": narrow relation " + k + " with " + field, asked, goes, falls);
    }

    /** Of a program whose third last slot is a jump by a relation. */
    void open(String what, Assembly program, boolean goes, boolean falls) {
        FilterGuard guard = new FilterGuard();
        int slot = program.size() - 3;
        check.due(what, program.program(guard), 0);
        check.due(what + " is visited", guard.fact(slot, 0) > 0, true);
        check.due(what + " goes", guard.fact(slot, 1), goes ? 1 : 0);
        check.due(what + " falls", guard.fact(slot, 2), falls ? 1 : 0);
    }

    /** Register 2 is exactly in the unsigned bounds. */
    void unsigned(String what, Assembly program, long least, long greatest) {
        ways(what + ", not below least", program, Assembly.BELOW, least, false, true);
        ways(what + ", not above greatest", program, Assembly.ABOVE, greatest, false, true);
        if (least != greatest) {
            ways(what + ", least", program, Assembly.BELOW, least + 1, true, true);
            ways(what + ", greatest", program, Assembly.ABOVE, greatest - 1, true, true);
        }
    }

    void signed(String what, Assembly program, long least, long greatest) {
        ways(what + ", not less than least", program, Assembly.LESS, least, false, true);
        ways(what + ", not greater than greatest", program, Assembly.GREATER, greatest, false, true);
        if (least != greatest) {
            ways(what + ", least with sign", program, Assembly.LESS, least + 1, true, true);
            ways(what + ", greatest with sign", program, Assembly.GREATER, greatest - 1, true, true);
        }
    }

    /** The bits of register 2 that are known, told by the ones and the zeros among them. */
    void bits(String what, Assembly program, long ones, long zeros) {
        for (int i = 0; i < 64; i++) {
            long bit = 1L << i;
            ways(what + ", bit " + i, program, Assembly.MEET, bit, (zeros & bit) == 0, (ones & bit) == 0);
        }
    }

    /** Register 2 is EXACT behind the last slot, which is ARITHMETIC, or it is not. */
    void exact(String what, Assembly program, boolean isExact, long number) {
        FilterGuard guard = new FilterGuard();
        int slot = program.size() - 1;
        check.due(what, again(program).leave(0).program(guard), 0);
        check.due(what + " is EXACT", guard.fact(slot, 3), isExact ? 1 : 0);
        check.due(what + " is the number", guard.fact(slot, 4), number);
    }
}

/** Promise 4, section D: what instructions do to a state, and their faults 10 to 18. */
public final class StepTest {
    private static final Checker CHECK = new Checker("StepTest");
    private static final int ADD = Assembly.ADD;
    private static final int SUBTRACT = Assembly.SUBTRACT;

    private StepTest() {
    }

    public static void main(String[] args) {
        unread();
        arithmetic();
        places();
        more();
        compared();
        maybe();
        room();
        contextMemory();
        stackMemory();
        savedSlots();
        packetMemory();
        valueMemory();
        addTo();
        arguments();
        readable();
        exits();
        CHECK.end();
    }

    /** Explores with an ARRAY of 8 byte values (0) and a TABLE of 3 byte keys, 5 byte values (1). */
    private static void fault(String what, Assembly program, int want, int slot) {
        FilterGuard guard = new FilterGuard();
        guard.map(0, 4, 8, 4);
        guard.map(1, 3, 5, 4);
        CHECK.due(what, program.program(guard), want);
        CHECK.due(what + ": its slot", guard.about(1), slot);
    }

    private static void fine(String what, Assembly program) {
        fault(what, program, 0, -1);
    }

    private static Assembly a() {
        return new Assembly();
    }

    private static void unread() {
        fault("TO of ADD", a().field(ADD, 0, 1).exit(), 10, 0);
        fault("FROM of ADD", a().move(0, 1).from(ADD, 0, 2).exit(), 10, 1);
        fault("FROM of MOVE", a().copy(0, 2).exit(), 10, 0);
        fault("TO of NEGATE", a().negate(0).exit(), 10, 0);
        fault("TO of CUT", a().cut(0, 16).exit(), 10, 0);
        fault("TO of SWAP", a().swap(0, 16).exit(), 10, 0);
        fault("FROM of LOAD", a().load(8, 0, 2, 0).exit(), 10, 0);
        fault("TO of STORE", a().store(8, 2, 0, 1).exit(), 10, 0);
        fault("FROM of STORE", a().store(8, 10, -8, 2).exit(), 10, 0);
        fault("TO of STORE FIELD", a().storeField(8, 2, 0, 1).exit(), 10, 0);
        fault("TO of ADD TO", a().addTo(8, 2, 0, 1).exit(), 10, 0);
        fault("FROM of ADD TO", a().addTo(8, 10, 0, 2).exit(), 10, 0);
        fault("TO of a relation", a().ifField(Assembly.SAME, 0, 0, 0).exit(), 10, 0);
        fault("FROM of a relation", a().move(0, 0).ifFrom(Assembly.SAME, 0, 2, 0).exit(), 10, 1);
        fault("behind a CALL 1 is NONE", a().call(5).copy(2, 1).exit(), 10, 1);
        fault("behind a CALL 5 is NONE", a().move(5, 1).call(5).copy(0, 5).exit(), 10, 2);
        fine("behind a CALL 6 is as it was", a().move(6, 1).call(5).copy(0, 6).exit());
    }

    private static void arithmetic() {
        fault("narrow MOVE of a pointer", a().narrowFrom(Assembly.MOVE, 0, 1).exit(), 11, 0);
        fine("narrow MOVE of a number", a().move(2, 1).narrowFrom(Assembly.MOVE, 0, 2).exit());
        fault("narrow ADD to a pointer", a().narrowField(ADD, 1, 1).exit(), 11, 0);
        fault("MULTIPLY of a pointer", a().field(Assembly.MULTIPLY, 1, 1).exit(), 11, 0);
        fault("AND of a pointer", a().field(Assembly.AND, 1, -8).exit(), 11, 0);
        fault("NEGATE of a pointer", a().negate(1).exit(), 11, 0);
        fault("CUT of a pointer", a().cut(1, 64).exit(), 11, 0);
        fault("ADD of pointers", a().from(ADD, 1, 10).exit(), 11, 0);
        fault("SUBTRACT of pointers", a().from(SUBTRACT, 1, 10).exit(), 11, 0);
        fault("SUBTRACT of a pointer from a number", a().move(0, 0).from(SUBTRACT, 0, 1).exit(), 11, 1);
        fault("ADD to END", a().load(8, 2, 1, 8).field(ADD, 2, 1).exit(), 11, 1);
        fault("ADD to a MAP", a().mapTo(2, 0).field(ADD, 2, 1).exit(), 11, 2);
        fine("ADD of a number to a pointer", a().move(2, 16).from(ADD, 1, 2).load(8, 0, 1, 0).exit());
        fine("ADD of a pointer to a number", a().move(2, 16).from(ADD, 2, 1).load(8, 0, 2, 0).exit());
        fine("SUBTRACT of a number", a().move(2, -16).from(SUBTRACT, 1, 2).load(8, 0, 1, 0).exit());
        fine("PACKET - END", a().load(8, 0, 1, 0).load(8, 2, 1, 8).from(SUBTRACT, 0, 2).exit());
        fine("END - PACKET", a().load(8, 0, 1, 8).load(8, 2, 1, 0).from(SUBTRACT, 0, 2).exit());
        fine("END - END", a().load(8, 0, 1, 8).from(SUBTRACT, 0, 0).exit());
        fine("PACKET - PACKET", a().load(8, 0, 1, 0).from(SUBTRACT, 0, 0).exit());
        fault("PACKET - STACK", a().load(8, 2, 1, 0).from(SUBTRACT, 2, 10).leave(0), 11, 1);
        fault("STACK - END", a().load(8, 2, 1, 8).copy(3, 10).from(SUBTRACT, 3, 2).leave(0), 11, 2);
        fault("END - a number", a().load(8, 2, 1, 8).field(SUBTRACT, 2, 1).leave(0), 11, 1);
        fault("PACKET - a MAP", a().load(8, 2, 1, 0).mapTo(3, 0).from(SUBTRACT, 2, 3).leave(0), 11, 3);
        fault("PACKET + END", a().load(8, 0, 1, 0).load(8, 2, 1, 8).from(ADD, 0, 2).exit(), 11, 2);
    }

    private static void places() {
        fine("a place of 65535", a().field(ADD, 1, 65535).leave(0));
        fault("a place of 65536 at once", a().field(ADD, 1, 65536).leave(0), 11, 0);
        fault("a place of 65536", a().field(ADD, 1, 65535).field(ADD, 1, 1).leave(0), 11, 1);
        fine("a place of -65535", a().field(SUBTRACT, 1, 65535).leave(0));
        fault("a place of -65536", a().field(ADD, 1, -65535).field(SUBTRACT, 1, 1).leave(0), 11, 1);
        fault("less by -65536", a().field(SUBTRACT, 1, -65536).leave(0), 11, 0);
        fault("more by the least long", a().wide(2, Long.MIN_VALUE).from(SUBTRACT, 1, 2).leave(0), 11, 2);
        fine("forth and back", a().field(ADD, 1, 60000).field(SUBTRACT, 1, 59984).load(8, 0, 1, 0).exit());
    }

    private static void more() {
        fault("CONTEXT and a number not EXACT", a().load(1, 2, 1, 16).from(ADD, 1, 2).leave(0), 11, 1);
        fault("STACK and a number not EXACT", a().load(1, 2, 1, 16).copy(3, 10).from(ADD, 3, 2).leave(0), 11, 2);
        fine("PACKET and 2 bytes", a().load(2, 2, 1, 16).load(8, 3, 1, 0).from(ADD, 3, 2).leave(0));
        fine("2 bytes and PACKET", a().load(2, 2, 1, 16).load(8, 3, 1, 0).from(ADD, 2, 3).leave(0));
        fault("PACKET and 4 bytes", a().load(4, 2, 1, 16).load(8, 3, 1, 0).from(ADD, 3, 2).leave(0), 11, 2);
        fault("PACKET less 1 byte", a().load(1, 2, 1, 16).load(8, 3, 1, 0).from(SUBTRACT, 3, 2).leave(0), 11, 2);
        fault("MORE above 65535", a().load(2, 2, 1, 16).load(1, 4, 1, 16).load(8, 3, 1, 0).from(ADD, 3, 2)
            .from(ADD, 3, 4).leave(0), 11, 4);
        fine("MORE of just 65535", a().load(2, 2, 1, 16).ifField(Assembly.ABOVE, 2, 65280, 4).load(1, 4, 1, 18)
            .load(8, 3, 1, 0).from(ADD, 3, 2).from(ADD, 3, 4).leave(0));
    }

    private static void compared() {
        fault("pointers", a().ifFrom(Assembly.SAME, 1, 10, 0).leave(0), 12, 0);
        fault("a pointer and a number", a().ifField(Assembly.SAME, 1, 0, 0).leave(0), 12, 0);
        fault("a pointer and itself", a().ifFrom(Assembly.SAME, 1, 1, 0).leave(0), 12, 0);
        fault("0 and a pointer", a().move(2, 0).ifFrom(Assembly.SAME, 2, 1, 0).leave(0), 12, 1);
        fault("a pointer and 0", a().move(2, 0).ifFrom(Assembly.NOT_SAME, 1, 2, 0).leave(0), 12, 1);
        fault("a MAP and 0", a().mapTo(2, 0).ifField(Assembly.SAME, 2, 0, 0).leave(0), 12, 2);
        fine("a number and itself", a().move(2, 0).ifFrom(Assembly.NOT_SAME, 2, 2, 0).leave(0));
        Assembly[] ends = new Assembly[14];
        for (int k = 1; k <= 13; k++) {
            if (k != 8 && k != 9) {
                ends[k] = a().load(8, 2, 1, 0).load(8, 3, 1, 8).ifFrom(k, 2, 3, 0).leave(0);
                boolean isOrder = k == Assembly.ABOVE || k == Assembly.NOT_BELOW || k == Assembly.BELOW || k == Assembly.NOT_ABOVE;
                fault("PACKET and END by " + k, ends[k], isOrder ? 0 : 12, isOrder ? -1 : 2);
                fault("narrow PACKET and END by " + k, a().load(8, 2, 1, 0).load(8, 3, 1, 8).ifNarrowFrom(k, 2, 3, 0).leave(0), 12, 2);
                fault("END and PACKET by " + k, a().load(8, 2, 1, 0).load(8, 3, 1, 8).ifFrom(k, 3, 2, 0).leave(0),
                    isOrder ? 0 : 12, isOrder ? -1 : 2);
            }
        }
        fault("PACKET and PACKET", a().load(8, 2, 1, 0).ifFrom(Assembly.ABOVE, 2, 2, 0).leave(0), 12, 1);
        fault("END and END", a().load(8, 2, 1, 8).ifFrom(Assembly.ABOVE, 2, 2, 0).leave(0), 12, 1);
        fault("PACKET and a number", a().load(8, 2, 1, 0).ifField(Assembly.ABOVE, 2, 0, 0).leave(0), 12, 1);
    }

    /** FIND of map 0 with key 0; its MAYBE is in register 0. */
    private static Assembly found() {
        return a().storeField(8, 10, -8, 0).mapTo(1, 0).copy(2, 10).field(ADD, 2, -8).call(1);
    }

    private static void maybe() {
        fault("LOAD of a MAYBE", found().load(8, 0, 0, 0).exit(), 13, 6);
        fault("ADD to a MAYBE", found().field(ADD, 0, 1).exit(), 11, 6);
        fault("EXIT of a MAYBE", found().exit(), 18, 6);
        fine("SAME 0 goes", found().ifField(Assembly.SAME, 0, 0, 1).load(8, 0, 0, 0).exit());
        fault("NOT SAME 0 falls", found().ifField(Assembly.NOT_SAME, 0, 0, 1).load(8, 0, 0, 0).exit(), 13, 7);
        fine("NOT SAME 0 goes", found().ifField(Assembly.NOT_SAME, 0, 0, 1).exit().load(8, 0, 0, 0).exit());
        fine("a register that is 0", found().move(3, 0).ifFrom(Assembly.SAME, 0, 3, 1).load(8, 0, 0, 0).exit());
        fine("0 and a MAYBE", found().move(3, 0).ifFrom(Assembly.SAME, 3, 0, 1).load(8, 0, 0, 0).exit());
        fault("SAME 1", found().ifField(Assembly.SAME, 0, 1, 0).leave(0), 12, 6);
        fault("ABOVE 0", found().ifField(Assembly.ABOVE, 0, 0, 0).leave(0), 12, 6);
        fault("narrow SAME 0", found().ifNarrowField(Assembly.SAME, 0, 0, 0).leave(0), 12, 6);
        fault("a number not EXACT", found().load(8, 3, 10, -8).storeField(4, 10, -8, 0).load(8, 3, 10, -8)
            .ifFrom(Assembly.SAME, 0, 3, 0).leave(0), 12, 9);
        fault("a pointer and a MAYBE", found().ifFrom(Assembly.SAME, 10, 0, 0).leave(0), 12, 6);
        fault("a MAYBE and itself", found().ifFrom(Assembly.SAME, 0, 0, 0).leave(0), 12, 6);
        fine("all of the identity become values", found().copy(6, 0).store(8, 10, -16, 0)
            .ifField(Assembly.SAME, 0, 0, 4).load(8, 7, 6, 0).load(8, 8, 10, -16).load(8, 0, 8, 0).exit().leave(0));
        fine("all of the identity become 0", found().store(8, 10, -16, 0).copy(6, 0)
            .ifField(Assembly.NOT_SAME, 0, 0, 3).from(ADD, 0, 6).load(8, 0, 10, -16).exit().leave(0));
        fault("another identity stays", found().copy(6, 0).storeField(8, 10, -8, 0).mapTo(1, 0).copy(2, 10).field(ADD, 2, -8).call(1)
            .ifField(Assembly.SAME, 0, 0, 1).load(8, 0, 6, 0).exit(), 13, 14);
        fault("a VALUE compared with 0", found().ifField(Assembly.SAME, 0, 0, 1).ifField(Assembly.SAME, 0, 0, 0).leave(0), 12, 7);
    }

    /** 2 is PACKET, 3 END, 4 the PACKET 4 bytes on. */
    private static Assembly ends() {
        return a().load(8, 2, 1, 0).load(8, 3, 1, 8).copy(4, 2).field(ADD, 4, 4);
    }

    private static void room() {
        fault("no room at first", a().load(8, 2, 1, 0).load(1, 0, 2, 0).exit(), 14, 1);
        fine("ABOVE falls", ends().ifFrom(Assembly.ABOVE, 4, 3, 1).load(4, 0, 2, 0).leave(0));
        fault("ABOVE falls, a byte too many", ends().ifFrom(Assembly.ABOVE, 4, 3, 1).load(1, 0, 2, 4).leave(0), 14, 5);
        fault("ABOVE goes", ends().ifFrom(Assembly.ABOVE, 4, 3, 1).jump(1).load(1, 0, 2, 0).leave(0), 14, 6);
        fine("NOT BELOW falls", ends().ifFrom(Assembly.NOT_BELOW, 4, 3, 1).load(1, 0, 2, 4).leave(0));
        fault("NOT BELOW falls, a byte too many", ends().ifFrom(Assembly.NOT_BELOW, 4, 3, 1).load(1, 0, 2, 5).leave(0), 14, 5);
        fault("NOT BELOW goes", ends().ifFrom(Assembly.NOT_BELOW, 4, 3, 1).jump(1).load(1, 0, 2, 0).leave(0), 14, 6);
        fine("BELOW goes", ends().ifFrom(Assembly.BELOW, 4, 3, 1).jump(1).load(1, 0, 2, 4).leave(0));
        fault("BELOW falls", ends().ifFrom(Assembly.BELOW, 4, 3, 1).load(1, 0, 2, 0).leave(0), 14, 5);
        fine("NOT ABOVE goes", ends().ifFrom(Assembly.NOT_ABOVE, 4, 3, 1).jump(1).load(4, 0, 2, 0).leave(0));
        fault("NOT ABOVE goes, a byte too many", ends().ifFrom(Assembly.NOT_ABOVE, 4, 3, 1).jump(1).load(1, 0, 2, 4).leave(0), 14, 6);
        fault("NOT ABOVE falls", ends().ifFrom(Assembly.NOT_ABOVE, 4, 3, 1).load(1, 0, 2, 0).leave(0), 14, 5);
        fine("END BELOW PACKET falls", ends().ifFrom(Assembly.BELOW, 3, 4, 1).load(4, 0, 2, 0).leave(0));
        fault("END BELOW PACKET falls, a byte too many", ends().ifFrom(Assembly.BELOW, 3, 4, 1).load(1, 0, 2, 4).leave(0), 14, 5);
        fine("END NOT ABOVE PACKET falls", ends().ifFrom(Assembly.NOT_ABOVE, 3, 4, 1).load(1, 0, 2, 4).leave(0));
        fine("END ABOVE PACKET goes", ends().ifFrom(Assembly.ABOVE, 3, 4, 1).jump(1).load(1, 0, 2, 4).leave(0));
        fine("END NOT BELOW PACKET goes", ends().ifFrom(Assembly.NOT_BELOW, 3, 4, 1).jump(1).load(4, 0, 2, 0).leave(0));
        fault("END NOT BELOW PACKET goes, a byte too many",
            ends().ifFrom(Assembly.NOT_BELOW, 3, 4, 1).jump(1).load(1, 0, 2, 4).leave(0), 14, 6);
        fine("room of saved slots", ends().store(8, 10, -8, 2).ifFrom(Assembly.ABOVE, 4, 3, 2).load(8, 5, 10, -8).load(4, 0, 5, 0).leave(0));
        fine("less room later takes none away", ends().ifFrom(Assembly.ABOVE, 4, 3, 2).ifFrom(Assembly.ABOVE, 2, 3, 1).load(4, 0, 2, 0).leave(0));
        fine("a new identity has its own room", ends().load(1, 5, 1, 16).from(ADD, 2, 5).copy(4, 2).field(ADD, 4, 2)
            .ifFrom(Assembly.ABOVE, 4, 3, 1).load(2, 0, 2, 0).leave(0));
        fault("a new identity has not the old room", ends().ifFrom(Assembly.ABOVE, 4, 3, 3).load(1, 5, 1, 16).from(ADD, 2, 5)
            .load(1, 0, 2, 0).leave(0), 14, 7);
        fault("the old one has not the new room", ends().load(1, 5, 1, 16).copy(6, 2).from(ADD, 6, 5).field(ADD, 6, 2)
            .ifFrom(Assembly.ABOVE, 6, 3, 1).load(1, 0, 2, 0).leave(0), 14, 9);
    }

    private static void contextMemory() {
        for (int bytes : new int[] {1, 2, 4, 8}) {
            fine("the first number", a().load(bytes, 0, 1, 16).exit());
            fine("the last number", a().load(bytes, 0, 1, 64 - bytes).exit());
            fault("behind the last", a().load(bytes, 0, 1, 64).exit(), 14, 0);
            fault("ahead of the first", a().load(bytes, 0, 1, -bytes).exit(), 14, 0);
            if (bytes > 1) {
                fault("no multiple", a().load(bytes, 0, 1, 17).exit(), 14, 0);
                fault("across the end", a().load(bytes, 0, 1, 64 - bytes / 2).exit(), 14, 0);
            }
            if (bytes < 8) {
                fault("less than 8 bytes of PACKET", a().load(bytes, 0, 1, 0).exit(), 14, 0);
                fault("less than 8 bytes of END", a().load(bytes, 0, 1, 8).exit(), 14, 0);
            }
            fault("STORE", a().move(2, 0).store(bytes, 1, 16, 2).exit(), 14, 1);
            fault("STORE FIELD", a().storeField(bytes, 1, 16, 2).exit(), 14, 0);
        }
        fault("ADD TO", a().move(2, 0).addTo(8, 1, 16, 2).exit(), 14, 1);
        fault("STORE of a pointer: 14 ahead of 16", a().store(8, 1, 16, 10).exit(), 14, 0);
        fault("EXIT of END", a().load(8, 0, 1, 8).exit(), 18, 1);
        fault("memory at END", a().load(8, 2, 1, 8).load(1, 0, 2, 0).exit(), 13, 1);
        fault("memory at a number", a().move(2, 0).load(1, 0, 2, 0).exit(), 13, 1);
        fault("memory at a MAP", a().mapTo(2, 0).storeField(1, 2, 0, 0).exit(), 13, 2);
        fault("13 ahead of 16", a().move(2, 0).store(4, 2, 0, 1).exit(), 13, 1);
    }

    private static void stackMemory() {
        for (int bytes : new int[] {1, 2, 4, 8}) {
            fine("the highest", a().storeField(bytes, 10, -bytes, 1).load(bytes, 0, 10, -bytes).exit());
            fine("the lowest", a().storeField(bytes, 10, -512, 1).load(bytes, 0, 10, -512).exit());
            fault("above the highest", a().storeField(bytes, 10, 0, 1).leave(0), 14, 0);
            fault("below the lowest", a().storeField(bytes, 10, -512 - bytes, 1).leave(0), 14, 0);
            fault("not written", a().load(bytes, 0, 10, -16).exit(), 15, 0);
            if (bytes > 1) {
                fault("no multiple", a().storeField(bytes, 10, -17, 1).leave(0), 14, 0);
            }
            if (bytes < 8) {
                fault("STORE of a pointer", a().store(bytes, 10, -8, 1).leave(0), 16, 0);
                fault("14 ahead of 16", a().store(bytes, 10, 0, 1).leave(0), 14, 0);
            }
        }
        fine("bytes one by one", a().storeField(4, 10, -8, 1).storeField(2, 10, -4, 1).storeField(1, 10, -2, 1)
            .storeField(1, 10, -1, 1).load(8, 0, 10, -8).exit());
        fault("one byte is missing", a().storeField(4, 10, -8, 1).storeField(2, 10, -4, 1).storeField(1, 10, -1, 1)
            .load(8, 0, 10, -8).exit(), 15, 3);
        fault("the byte below", a().storeField(4, 10, -4, 1).load(4, 0, 10, -8).exit(), 15, 1);
        fault("the byte above", a().storeField(4, 10, -8, 1).load(4, 0, 10, -4).exit(), 15, 1);
        fault("the two lowest slots", a().storeField(8, 10, -512, 1).load(8, 0, 10, -504).exit(), 15, 1);
        fault("the two lowest slots turned", a().storeField(8, 10, -504, 1).load(8, 0, 10, -512).exit(), 15, 1);
        fault("the two highest slots", a().storeField(8, 10, -8, 1).load(8, 0, 10, -16).exit(), 15, 1);
        fault("the two highest slots turned", a().storeField(8, 10, -16, 1).load(8, 0, 10, -8).exit(), 15, 1);
        fine("a place and an OFFSET", a().copy(2, 10).field(ADD, 2, -520).storeField(8, 2, 8, 1).load(8, 0, 10, -512).exit());
    }

    private static void savedSlots() {
        fine("a saved pointer", a().store(8, 10, -8, 1).load(8, 2, 10, -8).load(8, 0, 2, 16).exit());
        fault("a part of a saved pointer", a().store(8, 10, -8, 1).load(4, 0, 10, -8).exit(), 15, 1);
        fine("a part of a saved number", a().storeField(8, 10, -8, 1).load(4, 0, 10, -4).exit());
        fine("a number that is broken", a().storeField(8, 10, -8, 1).storeField(1, 10, -8, 2).load(8, 0, 10, -8).exit());
        fault("a pointer that is broken", a().store(8, 10, -8, 1).storeField(4, 10, -8, 2).load(8, 0, 10, -8).exit(), 15, 2);
        fine("the bytes that broke it", a().store(8, 10, -8, 1).storeField(4, 10, -8, 2).load(4, 0, 10, -8).exit());
        fault("the bytes that did not", a().store(8, 10, -8, 1).storeField(4, 10, -8, 2).load(4, 0, 10, -4).exit(), 15, 2);
        fine("a saved FIELD is EXACT", a().storeField(8, 10, -8, -16).load(8, 2, 10, -8).from(SUBTRACT, 1, 2).load(8, 0, 1, 0).exit());
        fault("a broken FIELD is not", a().storeField(8, 10, -8, 16).storeField(1, 10, -1, 0).load(8, 2, 10, -8).from(ADD, 1, 2)
            .load(8, 0, 1, 0).exit(), 11, 3);
        fault("all kinds are saved", a().mapTo(2, 0).store(8, 10, -8, 2).load(8, 0, 10, -8).exit(), 18, 4);
        fine("a slot that is written, then saved", a().storeField(1, 10, -8, 1).store(8, 10, -8, 1).load(8, 2, 10, -8).load(8, 0, 2, 16).exit());
        fault("what was written there is no more", a().storeField(1, 10, -8, 1).store(8, 10, -8, 1).storeField(1, 10, -1, 0)
            .load(1, 0, 10, -8).exit(), 15, 3);
    }

    private static void packetMemory() {
        Assembly ahead = ends().ifFrom(Assembly.ABOVE, 4, 3, 1);
        fault("ahead of the packet", ahead.load(1, 0, 2, -1).leave(0), 14, 5);
        fine("8 bytes in 8 bytes of room", a().load(8, 2, 1, 0).load(8, 3, 1, 8).copy(4, 2).field(ADD, 4, 8)
            .ifFrom(Assembly.ABOVE, 4, 3, 1).load(8, 0, 2, 0).leave(0));
        fine("no multiple", ends().ifFrom(Assembly.ABOVE, 4, 3, 1).load(2, 0, 2, 1).leave(0));
        fine("back from behind", ends().ifFrom(Assembly.ABOVE, 4, 3, 1).load(2, 0, 4, -2).leave(0));
        fine("STORE", ends().move(5, 1).ifFrom(Assembly.ABOVE, 4, 3, 1).store(4, 2, 0, 5).leave(0));
        fine("STORE FIELD", ends().ifFrom(Assembly.ABOVE, 4, 3, 1).storeField(4, 2, 0, 5).leave(0));
        fault("STORE of a pointer", ends().ifFrom(Assembly.ABOVE, 4, 3, 1).store(4, 2, 0, 1).leave(0), 16, 5);
        fault("STORE of a pointer without room", ends().ifFrom(Assembly.ABOVE, 4, 3, 1).store(8, 2, 0, 1).leave(0), 14, 5);
        fault("ADD TO", ends().move(5, 1).ifFrom(Assembly.ABOVE, 4, 3, 1).addTo(4, 2, 0, 5).leave(0), 14, 6);
        fine("MORE does not matter", a().load(8, 2, 1, 0).load(8, 3, 1, 8).load(2, 5, 1, 16).from(ADD, 2, 5).copy(4, 2).field(ADD, 4, 1)
            .ifFrom(Assembly.ABOVE, 4, 3, 1).load(1, 0, 2, 0).leave(0));
    }

    /** A VALUE of map 0 (8 bytes) is in register 0 behind slot 7, where it is. */
    private static Assembly value() {
        return found().ifField(Assembly.NOT_SAME, 0, 0, 1).exit().load(8, 9, 0, 0);
    }

    private static void valueMemory() {
        fine("all 8 bytes", value().leave(0));
        fine("the last byte", value().load(1, 3, 0, 7).leave(0));
        fault("a byte behind", value().load(1, 3, 0, 8).leave(0), 14, 9);
        fault("a byte ahead", value().load(1, 3, 0, -1).leave(0), 14, 9);
        fine("STORE", value().move(3, 1).store(4, 0, 3, 3).leave(0));
        fine("STORE FIELD", value().storeField(2, 0, 6, 3).leave(0));
        fault("STORE of a pointer", value().store(8, 0, 0, 10).leave(0), 16, 9);
        fine("ADD TO", value().move(3, 1).addTo(8, 0, 0, 3).leave(0));
        fault("ADD TO of a pointer", value().addTo(8, 0, 0, 10).leave(0), 16, 9);
        fault("ADD TO behind", value().move(3, 1).addTo(8, 0, 4, 3).leave(0), 14, 10);
        fine("MORE of 0 .. 7", value().call(5).leave(0));
        fine("a byte at MORE 0 .. 7", value().copy(6, 0).field(Assembly.AND, 9, 7).from(ADD, 6, 9).load(1, 0, 6, 0).exit());
        fault("2 bytes at MORE 0 .. 7", value().copy(6, 0).field(Assembly.AND, 9, 7).from(ADD, 6, 9).load(2, 0, 6, 0).exit(), 14, 12);
        fault("a byte ahead of MORE 0 .. 7", value().copy(6, 0).field(Assembly.AND, 9, 7).from(ADD, 6, 9).load(1, 0, 6, -1).exit(), 14, 12);
        fine("a byte ahead of MORE 4 .. 7", value().copy(6, 0).field(Assembly.AND, 9, 3).field(ADD, 9, 4).from(ADD, 6, 9)
            .load(1, 0, 6, -4).exit());
        fault("two bytes behind MORE 4 .. 7", value().copy(6, 0).field(Assembly.AND, 9, 3).field(ADD, 9, 4).from(ADD, 6, 9)
            .load(2, 0, 6, 0).exit(), 14, 13);
        fault("the other map's values have 5 bytes", a().storeField(8, 10, -8, 0).mapTo(1, 1).copy(2, 10).field(ADD, 2, -8).call(1)
            .ifField(Assembly.NOT_SAME, 0, 0, 1).exit().load(2, 3, 0, 4).leave(0), 14, 8);
    }

    private static void addTo() {
        fine("8 bytes saved", a().move(2, 1).storeField(8, 10, -8, 5).addTo(8, 10, -8, 2).load(8, 0, 10, -8).exit());
        fine("4 bytes saved", a().move(2, 1).storeField(8, 10, -8, 5).addTo(4, 10, -4, 2).load(8, 0, 10, -8).exit());
        fine("4 bytes written", a().move(2, 1).storeField(4, 10, -8, 5).addTo(4, 10, -8, 2).load(4, 0, 10, -8).exit());
        fault("bytes not written", a().move(2, 1).storeField(4, 10, -8, 5).addTo(8, 10, -8, 2).leave(0), 15, 2);
        fault("a saved pointer", a().move(2, 1).store(8, 10, -8, 1).addTo(8, 10, -8, 2).leave(0), 16, 2);
        fault("a part of a saved pointer", a().move(2, 1).store(8, 10, -8, 1).addTo(4, 10, -8, 2).leave(0), 15, 2);
        fault("of a pointer", a().storeField(8, 10, -8, 5).addTo(8, 10, -8, 1).leave(0), 16, 1);
        fault("of a pointer where nothing is written", a().addTo(8, 10, -8, 1).leave(0), 16, 0);
        fault("no multiple", a().move(2, 1).addTo(8, 10, -12, 2).leave(0), 14, 1);
        fault("then it is not EXACT", a().move(2, 8).storeField(8, 10, -8, 8).addTo(8, 10, -8, 2).load(8, 3, 10, -8)
            .from(ADD, 1, 3).leave(0), 11, 4);
    }

    private static void arguments() {
        fault("FIND: 1 is no MAP", a().call(1).leave(0), 17, 0);
        fault("FIND: 1 is NONE", a().call(5).call(1).leave(0), 10, 1);
        fault("FIND: 2 is NONE", a().mapTo(1, 0).call(1).leave(0), 10, 2);
        fault("FIND: 2 is a number", a().mapTo(1, 0).move(2, 0).call(1).leave(0), 17, 3);
        fault("FIND: 2 is CONTEXT", a().copy(2, 1).mapTo(1, 0).call(1).leave(0), 17, 3);
        fault("FIND: 2 is a MAP", a().mapTo(2, 0).mapTo(1, 0).call(1).leave(0), 17, 4);
        fault("UPDATE: 3 is NONE", a().storeField(8, 10, -8, 0).mapTo(1, 0).copy(2, 10).field(ADD, 2, -8).call(2).leave(0), 10, 5);
        fault("UPDATE: 3 has too few bytes", a().storeField(8, 10, -8, 0).mapTo(1, 0).copy(2, 10).field(ADD, 2, -8)
            .copy(3, 10).field(ADD, 3, -4).call(2).leave(0), 17, 7);
        fine("UPDATE", a().storeField(8, 10, -8, 0).mapTo(1, 0).copy(2, 10).field(ADD, 2, -8)
            .copy(3, 10).field(ADD, 3, -8).call(2).exit());
        fine("DELETE", a().storeField(8, 10, -8, 0).mapTo(1, 0).copy(2, 10).field(ADD, 2, -8).call(3).exit());
        fault("DELETE: 2 is NONE", a().mapTo(1, 0).call(3).leave(0), 10, 2);
        fault("TELL of a pointer", a().call(4).exit(), 17, 0);
        fault("TELL of NONE", a().call(5).call(4).exit(), 10, 1);
        fine("TELL", a().move(1, 1).call(4).exit());
        fine("TELL gives EXACT 0", a().copy(6, 1).move(1, 1).call(4).from(ADD, 6, 0).load(8, 0, 6, 16).exit());
        fine("CLOCK needs none", a().call(5).call(5).exit());
        fault("CLOCK gives ANY", a().copy(6, 1).call(5).from(ADD, 6, 0).leave(0), 11, 2);
        fault("MIX: 2 is NONE", a().copy(1, 10).call(6).exit(), 10, 1);
        fault("MIX: 2 is a pointer", a().copy(2, 10).copy(1, 10).call(6).exit(), 17, 2);
        fault("MIX: 2 ahead of 1", a().call(5).copy(2, 10).call(6).exit(), 17, 2);
        fault("MIX: 1 is NONE", a().call(5).move(2, 0).call(6).exit(), 10, 2);
        fine("MIX of 0 bytes", a().copy(1, 10).move(2, 0).call(6).exit());
        fault("MIX of 513 bytes", a().copy(1, 10).move(2, 513).call(6).exit(), 17, 2);
        fault("MIX of -1 bytes", a().copy(1, 10).move(2, -1).call(6).exit(), 17, 2);
        fault("MIX of CONTEXT", a().move(2, 0).call(6).exit(), 17, 1);
        fine("MIX of up to 7 bytes", a().load(1, 2, 1, 16).field(Assembly.AND, 2, 7).storeField(8, 10, -8, 1).copy(1, 10)
            .field(ADD, 1, -8).call(6).exit());
        fault("MIX of up to 8 bytes", a().load(1, 2, 1, 16).field(Assembly.AND, 2, 15).storeField(8, 10, -8, 1).copy(1, 10)
            .field(ADD, 1, -8).call(6).exit(), 17, 5);
        fine("MIX gives no more than LOW", a().copy(1, 10).move(2, 0).call(6).field(Assembly.RIGHT, 0, 32)
            .copy(2, 10).from(ADD, 2, 0).exit());
    }

    private static void readable() {
        Assembly whole = a();
        for (int place = -512; place < 0; place += 8) {
            whole.storeField(8, 10, place, 1);
        }
        fine("the whole stack", whole.copy(1, 10).field(ADD, 1, -512).move(2, 512).call(6).exit());
        fault("below the stack", a().copy(1, 10).field(ADD, 1, -513).move(2, 0).call(6).exit(), 17, 3);
        fault("above the stack", a().copy(1, 10).field(ADD, 1, 1).move(2, 0).call(6).exit(), 17, 3);
        fault("across the highest", a().storeField(8, 10, -8, 1).copy(1, 10).field(ADD, 1, -4).move(2, 5).call(6).exit(), 17, 4);
        fine("no multiple", a().storeField(8, 10, -8, 1).storeField(8, 10, -16, 1).copy(1, 10).field(ADD, 1, -13).move(2, 11).call(6).exit());
        fault("a byte that is not written", a().storeField(4, 10, -8, 1).copy(1, 10).field(ADD, 1, -8).move(2, 5).call(6).exit(), 17, 4);
        fine("bytes that are written", a().storeField(4, 10, -8, 1).copy(1, 10).field(ADD, 1, -8).move(2, 4).call(6).exit());
        fault("a saved pointer", a().store(8, 10, -8, 10).copy(1, 10).field(ADD, 1, -8).move(2, 1).call(6).exit(), 17, 4);
        Assembly inRoom = a().load(8, 6, 1, 0).load(8, 7, 1, 8).copy(8, 6).field(ADD, 8, 4).ifFrom(Assembly.ABOVE, 8, 7, 3);
        fine("bytes of the packet", inRoom.copy(1, 6).move(2, 4).call(6).leave(0));
        fault("more than the room", a().load(8, 6, 1, 0).load(8, 7, 1, 8).copy(8, 6).field(ADD, 8, 4).ifFrom(Assembly.ABOVE, 8, 7, 3)
            .copy(1, 6).move(2, 5).call(6).leave(0), 17, 7);
        fine("0 bytes at the room's end", a().load(8, 6, 1, 0).load(8, 7, 1, 8).copy(8, 6).field(ADD, 8, 4).ifFrom(Assembly.ABOVE, 8, 7, 3)
            .copy(1, 8).move(2, 0).call(6).leave(0));
        fault("0 bytes without room", a().load(8, 6, 1, 0).copy(1, 6).field(ADD, 1, 1).move(2, 0).call(6).leave(0), 17, 4);
        fine("0 bytes at the packet's first", a().load(8, 6, 1, 0).copy(1, 6).move(2, 0).call(6).leave(0));
        fine("a value's bytes", value().copy(1, 0).move(2, 8).call(6).exit());
        fault("more than a value's bytes", value().copy(1, 0).move(2, 9).call(6).exit(), 17, 11);
        fine("0 bytes at a value's end", value().copy(1, 0).field(ADD, 1, 8).move(2, 0).call(6).exit());
        fault("0 bytes behind a value's end", value().copy(1, 0).field(ADD, 1, 9).move(2, 0).call(6).exit(), 17, 12);
        fine("a value as a key", value().copy(2, 0).mapTo(1, 0).call(3).exit());
        fault("END", a().load(8, 1, 1, 8).move(2, 0).call(6).exit(), 17, 2);
        fault("a MAYBE", found().copy(1, 0).move(2, 0).call(6).exit(), 17, 8);
    }

    private static void exits() {
        fault("EXIT without a number", a().exit(), 18, 0);
        fault("EXIT with a pointer", a().copy(0, 1).exit(), 18, 1);
        fault("EXIT with a MAP", a().mapTo(0, 0).exit(), 18, 2);
        fine("EXIT with a number", a().move(0, 0).exit());
    }
}

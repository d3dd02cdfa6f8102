/** The example of README.md: its calls and what they answer there. */
public final class ReadmeTest {
    private static final Checker CHECK = new Checker("ReadmeTest");

    private ReadmeTest() {
    }

    public static void main(String[] args) {
        FilterGuard guard = new FilterGuard();
        guard.feed(0x79120000, 0, 0x79130800, 0, 0xBF240000);
        guard.feed(0, 0x07040000, 0x0E000000, 0xB7000000, 0);
        guard.feed(0x2D340100, 0, 0x71200C00, 0, 0x95000000);
        guard.feed(0, 0, 0, 0, 0);
        CHECK.due("program(8, 100)", guard.program(8, 100), 0);
        CHECK.due("about(2)", guard.about(2), 9);
        CHECK.due("fact(5, 1)", guard.fact(5, 1), 1);
        CHECK.due("a packet of 14 bytes", packet(guard, 14), true);
        CHECK.due("run(0)", guard.run(0), 8);
        CHECK.due("ran(0)", guard.ran(0), 8);
        CHECK.due("a packet of 13 bytes", packet(guard, 13), true);
        CHECK.due("run(2)", guard.run(2), 0);
        withoutTheJump();
        CHECK.end();
    }

    private static boolean packet(FilterGuard guard, int bytes) {
        guard.feed(0, 0, 0, 0x08000000, 0);
        return guard.packet(bytes);
    }

    private static void withoutTheJump() {
        FilterGuard guard = new FilterGuard();
        guard.feed(0x79120000, 0, 0x71200C00, 0, 0x95000000);
        guard.feed(0, 0, 0, 0, 0);
        CHECK.due("program(3, 100)", guard.program(3, 100), 14);
        CHECK.due("about(1)", guard.about(1), 1);
    }
}

/**
 * No call ever throws, whatever the arguments, UP or DOWN, and far beyond an object's 512 calls.
 * What the calls answer is for the other tests to tell; here a call that throws ends the run.
 */
public final class AnyArgumentsTest {
    private static final int[] ARGUMENTS = {
        Integer.MIN_VALUE, Integer.MIN_VALUE + 1, -5, -1, 0, 1, 2, 3, 4, 5, 7, 8, 1 << 30, Integer.MAX_VALUE,
    };

    public static void main(String[] args) {
        for (int blocks : ARGUMENTS) {
            CowContainer x = new CowContainer(blocks);
            inEachCondition(x);
        }
        System.out.println("no call threw");
    }

    private static void inEachCondition(CowContainer x) {
        allCalls(x);
        x.sync(0);
        allCalls(x);
        x.sync(0);
        allCalls(x);
        x.crash();
        allCalls(x);
        x.mount();
        for (int argument : ARGUMENTS) {
            x.sync(argument);
            x.crash();
            x.damage(argument);
            x.mount();
            x.damage(argument);
            x.info(argument);
        }
        allCalls(x);
    }

    /** All calls that neither take the container DOWN nor bring it UP. */
    private static void allCalls(CowContainer x) {
        for (int a : ARGUMENTS) {
            x.info(a);
            x.used();
            for (int b : ARGUMENTS) {
                x.move(a, b);
                x.snapshot(a, b);
                x.revert(a, b);
                x.drop(a, b);
                x.snapshot(a, b);
                for (int c : ARGUMENTS) {
                    x.cut(a, b, c);
                    x.copy(a, b, c);
                    x.swap(a, b, c);
                    x.shared(a, b, c);
                    for (int d : ARGUMENTS) {
                        x.write(a, b, c, d);
                        x.read(a, b, c, d);
                    }
                }
            }
        }
    }
}

/** Promises 9 to 13: products, multiply, inverse, order. */
public final class GroupTest {
    private static final String NO_ELEMENT = "throws.IllegalArgumentException";

    public static void main(String[] args) {
        multiply();
        inverse();
        order();
        wrongElements();
        everyPair();
        productOfBids();
        Check.end();
    }

    private static void multiply() {
        GroupBids x = Check.loaded("group 3;");
        Check.due("11: multiply(231, 213)", 132, () -> x.multiply(231, 213));
        Check.due("11: multiply(213, 231)", 321, () -> x.multiply(213, 231));
        Check.due("11: multiply(123, 312)", 312, () -> x.multiply(123, 312));
        GroupBids y = Check.loaded("group 5;");
        Check.due("11: multiply(23451, 21345)", 13452, () -> y.multiply(23451, 21345));
        Check.due("11: multiply(21345, 23451)", 32451, () -> y.multiply(21345, 23451));
        GroupBids z = new GroupBids();
        Check.due("11: multiply(21, 21)", 12, () -> z.multiply(21, 21));
    }

    private static void inverse() {
        GroupBids x = Check.loaded("group 5;");
        Check.due("12: inverse(23451)", 51234, () -> x.inverse(23451));
        Check.due("12: inverse(24153)", 31524, () -> x.inverse(24153));
        Check.due("12: inverse(12345)", 12345, () -> x.inverse(12345));
        GroupBids y = Check.loaded("group 3;");
        Check.due("12: inverse(231)", 312, () -> y.inverse(231));
    }

    private static void order() {
        GroupBids x = Check.loaded("group 5;");
        Check.due("13: order(12345)", 1, () -> x.order(12345));
        Check.due("13: order(21345)", 2, () -> x.order(21345));
        Check.due("13: order(21435)", 2, () -> x.order(21435));
        Check.due("13: order(23145)", 3, () -> x.order(23145));
        Check.due("13: order(23415)", 4, () -> x.order(23415));
        Check.due("13: order(23451)", 5, () -> x.order(23451));
        Check.due("13: order(23154)", 6, () -> x.order(23154));
    }

    private static void wrongElements() {
        GroupBids x = Check.loaded("group 4;");
        int[] wrong = {0, 1, -1, 12, 123, 12345, 1123, 1235, 5123, 1230, 4320, -1234, 12340, 1000000,
            Integer.MAX_VALUE, Integer.MIN_VALUE};
        for (int number : wrong) {
            Check.due("11: multiply(" + number + ", 1234)", NO_ELEMENT, () -> x.multiply(number, 1234));
            Check.due("11: multiply(1234, " + number + ")", NO_ELEMENT, () -> x.multiply(1234, number));
            Check.due("12: inverse(" + number + ")", NO_ELEMENT, () -> x.inverse(number));
            Check.due("13: order(" + number + ")", NO_ELEMENT, () -> x.order(number));
        }
        GroupBids y = Check.loaded("group 5;");
        Check.due("12: inverse(1234) with 5 points", NO_ELEMENT, () -> y.inverse(1234));
        Check.due("12: inverse(12346)", NO_ELEMENT, () -> y.inverse(12346));
        Check.due("12: inverse(112345)", NO_ELEMENT, () -> y.inverse(112345));
    }

    /** Each pair of elements of each group, over as many objects as the limit of calls asks for. */
    private static void everyPair() {
        for (int n = 2; n <= 5; n++) {
            String text = "group " + n + ";";
            GroupBids x = Check.loaded(text);
            int calls = 0;
            for (int[] a : SlowModel.allElements(n)) {
                for (int[] b : SlowModel.allElements(n)) {
                    if (calls++ % 400 == 0) {
                        x = Check.loaded(text);
                    }
                    GroupBids y = x;
                    int first = SlowModel.told(a);
                    int second = SlowModel.told(b);
                    Check.due("11: multiply(" + first + ", " + second + ")",
                            SlowModel.told(SlowModel.times(a, b)), () -> y.multiply(first, second));
                }
                GroupBids z = Check.loaded(text);
                int element = SlowModel.told(a);
                Check.due("12: times inverse(" + element + ")", SlowModel.told(SlowModel.neutral(n)),
                        () -> z.multiply(element, z.inverse(element)));
                Check.due("13: order(" + element + ")", SlowModel.orderOf(a), () -> z.order(element));
            }
        }
    }

    private static void productOfBids() {
        GroupBids x = Check.loaded("group 3;player 99;card 0 231 1;card 0 213 2;card 0 132 3;lot 5;");
        Check.due("9: product() without bids", 123, x::product);
        Check.due("10: productOf(0, 0) without bids", 123, () -> x.productOf(0, 0));
        Check.due("10: productOf(0, 1) without bids", NO_ELEMENT, () -> x.productOf(0, 1));
        x.play(0);
        Check.due("9: product() of one bid", 231, x::product);
        x.play(0);
        Check.due("9: product() of two bids", 132, x::product);
        Check.due("10: productOf(0, 2)", 132, () -> x.productOf(0, 2));
        Check.due("10: productOf(0, 1)", 231, () -> x.productOf(0, 1));
        Check.due("10: productOf(1, 2)", 213, () -> x.productOf(1, 2));
        Check.due("10: productOf(1, 1)", 123, () -> x.productOf(1, 1));
        Check.due("10: productOf(2, 2)", 123, () -> x.productOf(2, 2));
        Check.due("10: productOf(-1, 1)", NO_ELEMENT, () -> x.productOf(-1, 1));
        Check.due("10: productOf(2, 1)", NO_ELEMENT, () -> x.productOf(2, 1));
        Check.due("10: productOf(0, 3)", NO_ELEMENT, () -> x.productOf(0, 3));
        Check.due("10: productOf(3, 3)", NO_ELEMENT, () -> x.productOf(3, 3));
    }
}

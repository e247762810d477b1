/** Promises 14 to 19: what a hand reaches, what it generates, and how it can win. */
public final class HandTest {
    private static final String NO_PLAYER = "throws.IndexOutOfBoundsException";

    public static void main(String[] args) {
        emptyHand();
        oneCard();
        ordersMatter();
        eachCardOnce();
        ways();
        cheapestIsNotFewest();
        openingOfSeveral();
        overAndWithoutTurn();
        fullHand();
        wrongArguments();
        Check.end();
    }

    private static void emptyHand() {
        GroupBids x = Check.loaded("group 3;player 5;lot 5;");
        hand(x, 0, 0, 1, -1, -1, -1);
        Check.due("15: reaches(0, 123) without cards", false, () -> x.reaches(0, 123));
    }

    private static void oneCard() {
        GroupBids x = Check.loaded("group 3;player 5;player 0;card 0 231 4;card 1 123 7;lot 5;");
        hand(x, 0, 1, 3, -1, -1, -1);
        Check.due("15: reaches(0, 231)", true, () -> x.reaches(0, 231));
        Check.due("15: reaches(0, 312), a card used twice", false, () -> x.reaches(0, 312));
        Check.due("15: reaches(0, 123), no card used", false, () -> x.reaches(0, 123));
        // the neutral card wins against a neutral product, also without the money for it
        hand(x, 1, 1, 1, 1, 7, 0);
    }

    private static void ordersMatter() {
        GroupBids x = Check.loaded("group 3;player 5;card 0 213 4;card 0 132 3;lot 5;");
        hand(x, 0, 4, 6, -1, -1, -1);
        Check.due("15: reaches(0, 312), one order", true, () -> x.reaches(0, 312));
        Check.due("15: reaches(0, 231), the other order", true, () -> x.reaches(0, 231));
        Check.due("15: reaches(0, 321)", false, () -> x.reaches(0, 321));
    }

    private static void eachCardOnce() {
        GroupBids x = Check.loaded("group 4;player 5;card 0 2341 4;card 0 2341 3;card 0 2341 2;lot 5;");
        hand(x, 0, 3, 4, -1, -1, -1);
        x.give(0, 2341, 9);
        hand(x, 0, 4, 4, 4, 18, 0);
    }

    private static void ways() {
        GroupBids x = Check.loaded("group 3;player 100;player 50;card 0 231 10;card 0 213 5;card 0 312 7;"
                + "card 0 123 30;card 1 132 20;card 1 312 1;lot 40;");
        hand(x, 0, 6, 6, 1, 17, 3);
        x.play(1);
        // against 213: player 1 has 132 and 312 (213 * 312 = 132), so the second one first
        Check.due("9: product()", 213, x::product);
        hand(x, 1, 4, 6, 2, 21, 1);
        // 231 before 312 would need an odd product: player 0 cannot win
        hand(x, 0, 3, 3, -1, -1, -1);
    }

    private static void cheapestIsNotFewest() {
        GroupBids x = Check.loaded("group 4;player 100;card 0 2143 1;card 0 1234 500;card 0 2143 2;lot 9;");
        hand(x, 0, 2, 2, 1, 3, 1);
    }

    private static void openingOfSeveral() {
        // 213 then 132 gives 312; only 132 then 213 gives 231, which is at the places 1 and 2
        GroupBids x = Check.loaded("group 3;player 9;card 0 312 1;card 0 213 1;card 0 132 1;card 0 213 1;lot 9;");
        x.play(0);
        Check.due("9: product()", 312, x::product);
        Check.due("17: fewest(0)", 2, () -> x.fewest(0));
        Check.due("19: opening(0)", 1, () -> x.opening(0));
        GroupBids y = Check.loaded("group 3;player 9;card 0 231 1;card 0 213 1;card 0 132 1;card 0 213 1;lot 9;");
        y.play(0);
        Check.due("9: product()", 231, y::product);
        Check.due("17: fewest(0)", 2, () -> y.fewest(0));
        Check.due("19: opening(0)", 0, () -> y.opening(0));
        // 213 * 312 = 132, which is its own inverse; 213 * 132 = 312 is not the inverse of 312
        GroupBids z = Check.loaded("group 3;player 9;card 0 213 1;card 0 132 1;card 0 312 1;lot 9;");
        z.play(0);
        Check.due("17: fewest(0)", 2, () -> z.fewest(0));
        Check.due("19: opening(0)", 1, () -> z.opening(0));
    }

    private static void overAndWithoutTurn() {
        GroupBids x = Check.loaded("group 2;player 9;player 3;card 1 21 4;card 1 21 5;");
        Check.due("5: over without lots", -1, () -> x.state(3));
        hand(x, 1, 2, 2, 2, 9, 0);
    }

    private static void fullHand() {
        GroupBids x = Check.loaded("group 5;player 9;card 0 23451 1;card 0 21345 2;card 0 23451 3;card 0 21345 4;"
                + "card 0 13254 5;card 0 34512 6;card 0 52341 7;card 0 12354 8;lot 9;");
        hand(x, 0, 120, 120, 2, 6, 1);
        Check.due("15: reaches(0, 12345)", true, () -> x.reaches(0, 12345));
        GroupBids y = Check.loaded("group 5;player 9;card 0 21345 1;card 0 21345 2;card 0 12354 3;card 0 12354 4;"
                + "card 0 21354 5;card 0 21354 6;card 0 12345 7;card 0 21345 8;lot 9;");
        hand(y, 0, 4, 4, 1, 3, 6);
    }

    private static void wrongArguments() {
        GroupBids x = Check.loaded("group 3;player 5;player 6;card 1 231 4;lot 5;");
        for (int player : new int[] {-1, 2, 5, Integer.MAX_VALUE, Integer.MIN_VALUE}) {
            Check.due("14: reach(" + player + ")", NO_PLAYER, () -> x.reach(player));
            Check.due("15: reaches(" + player + ", 0)", NO_PLAYER, () -> x.reaches(player, 0));
            Check.due("16: generated(" + player + ")", NO_PLAYER, () -> x.generated(player));
            Check.due("17: fewest(" + player + ")", NO_PLAYER, () -> x.fewest(player));
            Check.due("18: cheapest(" + player + ")", NO_PLAYER, () -> x.cheapest(player));
            Check.due("19: opening(" + player + ")", NO_PLAYER, () -> x.opening(player));
        }
        for (int element : new int[] {0, 12, 111, 1234, -123, Integer.MIN_VALUE}) {
            Check.due("15: reaches(1, " + element + ")", "throws.IllegalArgumentException",
                    () -> x.reaches(1, element));
        }
    }

    private static void hand(GroupBids x, int player, int reach, int generated, int fewest, int cheapest,
            int opening) {
        Check.due("14: reach(" + player + ")", reach, () -> x.reach(player));
        Check.due("16: generated(" + player + ")", generated, () -> x.generated(player));
        Check.due("17: fewest(" + player + ")", fewest, () -> x.fewest(player));
        Check.due("18: cheapest(" + player + ")", cheapest, () -> x.cheapest(player));
        Check.due("19: opening(" + player + ")", opening, () -> x.opening(player));
    }
}

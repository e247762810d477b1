/** The edges that "Hands" and the promises 14 to 19 name: a test for each sentence. */
public final class HandsEdgeTest {
    public static void main(String[] args) {
        reaching();
        winning();
        generating();
        fewest();
        cheapest();
        opening();
        askedAgain();
        exceptions();
        Check.end();
    }

    /** A player with these cards, whose base prices are 1, 2, 3 and so on,
            in an auction whose first bid is this one. */
    private static GroupBids hand(int n, int bid, int... elements) {
        GroupBids x = Check.loaded("group " + n + ";player 9;player 0;lot 5;");
        if (bid != Edge.neutral(n)) {
            Edge.bidWith(x, bid, 1, 0);
        }
        for (int i = 0; i < elements.length; i++) {
            Edge.give(x, 1, elements[i], i + 1, i + 1);
        }
        return x;
    }

    private static void reach(GroupBids x, int want) {
        Check.due("reach(1)", want, () -> x.reach(1));
    }

    private static void reaches(GroupBids x, int element, boolean want) {
        Check.due("reaches(1, " + element + ")", want, () -> x.reaches(1, element));
    }

    private static void generated(GroupBids x, int want) {
        Check.due("generated(1)", want, () -> x.generated(1));
    }

    private static void wins(GroupBids x, int fewest, int cheapest, int opening) {
        Check.due("fewest(1)", fewest, () -> x.fewest(1));
        Check.due("cheapest(1)", cheapest, () -> x.cheapest(1));
        Check.due("opening(1)", opening, () -> x.opening(1));
    }

    private static void reaching() {
        Check.sentence("A player reaches an element if it is the product of some of its cards (one or more), each "
                + "used at most once, in some order.", () -> {
            noCards();
            oneCard();
            eachOnce();
            someOrder();
            fullHand();
        });
        Check.sentence("Returns the number of elements that it reaches.", () -> {
            reach(hand(5, 12345), 0);
            reach(hand(5, 12345, 12345), 1);
            reach(hand(2, 12, 21), 1);
            reach(hand(2, 12, 21, 21), 2);
            reach(hand(2, 12, 12, 21), 2);
            reach(hand(5, 12345, 23451, 21345, 23451, 21345, 13254, 34512, 52341, 12354), 120);
            // the bids do not matter
            reach(hand(3, 231, 231), 1);
        });
        Check.sentence("Returns whether the player reaches it.", () -> {
            reaches(hand(5, 12345), 12345, false);
            reaches(hand(5, 12345, 54321), 54321, true);
            reaches(hand(5, 12345, 54321), 12345, false);
            reaches(hand(5, 12345, 54321, 12345), 12345, true);
            reaches(hand(5, 54321, 54321), 12345, false);
        });
    }

    private static void noCards() {
        GroupBids x = hand(3, 123);
        reach(x, 0);
        reaches(x, 123, false);
        reaches(x, 231, false);
    }

    private static void oneCard() {
        GroupBids neutral = hand(3, 123, 123);
        reach(neutral, 1);
        reaches(neutral, 123, true);
        GroupBids x = hand(3, 123, 231);
        reach(x, 1);
        reaches(x, 231, true);
        // no card at all would make the neutral element
        reaches(x, 123, false);
    }

    private static void eachOnce() {
        GroupBids x = hand(3, 123, 231);
        // the card twice would make it
        reaches(x, 312, false);
        GroupBids y = hand(3, 123, 231, 231);
        reach(y, 2);
        reaches(y, 312, true);
        reaches(y, 123, false);
        GroupBids z = hand(3, 123, 231, 231, 231);
        reach(z, 3);
        reaches(z, 123, true);
    }

    private static void someOrder() {
        // 213 before 132 makes 312, and 132 before 213 makes 231
        GroupBids x = hand(3, 123, 213, 132);
        reach(x, 4);
        reaches(x, 312, true);
        reaches(x, 231, true);
        reaches(x, 321, false);
    }

    private static void fullHand() {
        GroupBids x = hand(5, 12345, 23451, 23451, 23451, 23451, 23451, 23451, 23451, 23451);
        reach(x, 5);
        reaches(x, 12345, true);
        GroupBids y = hand(2, 12, 12, 12, 12, 12, 12, 12, 12, 21);
        reach(y, 2);
        reaches(y, 21, true);
        // the neutral one is made with the card at place 7 too, by the other ones
        y.discard(1, 7);
        reach(y, 1);
        reaches(y, 21, false);
    }

    private static void winning() {
        Check.sentence("A player can win with some of its cards (one or more), each used at most once, if in some "
                + "order the product, multiplied by their elements one after the other, is neutral behind the last "
                + "one.", () -> {
            // the product is neutral already, but one card must be used
            wins(hand(3, 123), -1, -1, -1);
            wins(hand(3, 123, 231), -1, -1, -1);
            wins(hand(3, 123, 123), 1, 1, 0);
            wins(hand(3, 123, 213, 213), 2, 3, 0);
            // each used at most once: 231 once more would be needed
            wins(hand(3, 231, 231), -1, -1, -1);
            wins(hand(3, 231, 231, 231), 2, 3, 0);
            // nor does it matter that there is no room for a 21st bid
            GroupBids x = Check.loaded("group 5;player 9;player 0;lot 5;price 0;");
            Edge.bidWith(x, 21345, 1, 0);
            for (int bid = 1; bid < 20; bid++) {
                Edge.pass(x, 0);
                Edge.bidWith(x, 12345, 1, 0);
            }
            Edge.state(x, 5, 20);
            Edge.give(x, 1, 12345, 7, 1);
            wins(x, -1, -1, -1);
            Edge.give(x, 1, 21345, 8, 2);
            wins(x, 1, 8, 1);
            // the product comes first: 213 before 231 is 321, 231 before 213 is 132
            wins(hand(3, 213, 231, 321), 2, 3, 0);
            wins(hand(3, 213, 231, 132), 2, 3, 1);
        });
        Check.sentence("(What players would have to pay does not matter for this, nor whose turn it is.)", () -> {
            GroupBids x = Check.loaded("group 3;player 0;player 0;card 0 231 999;card 0 312 998;card 1 123 999;lot 5;");
            Check.due("fewest(0)", 2, () -> x.fewest(0));
            Check.due("cheapest(0)", 1997, () -> x.cheapest(0));
            Check.due("opening(0)", 0, () -> x.opening(0));
            wins(x, 1, 999, 0);
            Edge.pass(x, 0);
            wins(x, 1, 999, 0);
            Check.due("fewest(0) out of turn", 2, () -> x.fewest(0));
            Edge.pass(x, 1);
            Edge.state(x, 4, -1);
            wins(x, 1, 999, 0);
        });
    }

    private static void generating() {
        Check.sentence("Returns the number of elements that are products of its cards, each used as often as one "
                + "likes (none of them makes the neutral element): 1 without cards.", () -> {
            generated(hand(2, 12), 1);
            generated(hand(5, 12345), 1);
            generated(hand(5, 12345, 12345), 1);
            generated(hand(2, 12, 21), 2);
            // one card, used as often as its order
            generated(hand(5, 12345, 23154), 6);
            generated(hand(5, 12345, 23451), 5);
            generated(hand(5, 12345, 23451, 21345), 120);
            generated(hand(5, 12345, 23145, 12453), 60);
            generated(hand(5, 12345, 21345, 12435), 4);
            generated(hand(5, 12345, 12345, 12345, 12345, 12345, 12345, 12345, 12345, 12354), 2);
            // the bids do not matter
            generated(hand(5, 12354), 1);
        });
    }

    private static void fewest() {
        Check.sentence("Returns the smallest number of cards with which it can win; -1 if it cannot.", () -> {
            fewestIs(hand(5, 13452), -1);
            fewestIs(hand(5, 13452, 13452), -1);
            fewestIs(hand(5, 13452, 15234), 1);
            fewestIs(hand(2, 12, 21), -1);
            fewestIs(hand(2, 12, 21, 21), 2);
            fewestIs(hand(2, 12, 21, 21, 12), 1);
            // eight cards of which each one is needed, and seven of them
            fewestIs(hand(5, 13452, 24135, 24135, 24135, 24135, 53241, 53241, 24135, 53241), 8);
            fewestIs(hand(5, 13452, 24135, 24135, 24135, 24135, 53241, 53241, 24135), -1);
        });
    }

    private static void fewestIs(GroupBids x, int want) {
        Check.due("fewest(1)", want, () -> x.fewest(1));
    }

    private static void cheapest() {
        Check.sentence("Returns the smallest sum of base prices of cards with which it can win; -1 if it "
                + "cannot.", () -> {
            cheapestIs(hand(3, 123), -1);
            cheapestIs(hand(3, 123, 231), -1);
            cheapestIs(hand(3, 123, 123), 1);
            // eight cards with the sum 36
            cheapestIs(hand(5, 13452, 24135, 24135, 24135, 24135, 53241, 53241, 24135, 53241), 36);
            // two cheap cards instead of one, and base prices instead of prices
            GroupBids x = Check.loaded("group 2;player 0;player 0;card 1 12 4;card 1 21 1;card 1 21 2;lot 5;price 7;");
            wins(x, 1, 3, 0);
            // one card instead of two, behind them
            GroupBids y = Check.loaded("group 2;player 0;player 0;card 1 21 2;card 1 21 3;card 1 12 4;lot 5;");
            wins(y, 1, 4, 2);
            GroupBids z = Check.loaded("group 2;player 0;player 0;" + Edge.times(8, "card 1 21 999;") + "lot 5;");
            wins(z, 2, 1998, 0);
        });
    }

    private static void cheapestIs(GroupBids x, int want) {
        Check.due("cheapest(1)", want, () -> x.cheapest(1));
    }

    private static void opening() {
        Check.sentence("Finds how a player can win with the smallest number of cards.", () -> {
            // two cards would begin at place 0, one card stands at place 2
            wins(hand(2, 12, 21, 21, 12), 1, 3, 2);
            wins(hand(3, 231, 231, 231, 312), 1, 3, 2);
        });
        Check.sentence("Returns the place of the card that is to be used first; of several the smallest one; -1 if it "
                + "cannot win.", () -> {
            opens(hand(3, 123), -1);
            opens(hand(3, 123, 231, 231), -1);
            opens(hand(3, 123, 231, 123), 1);
            opens(hand(3, 123, 231, 123, 123), 1);
            // the last of eight, and the first of eight
            opens(hand(2, 21, 12, 12, 12, 12, 12, 12, 12, 21), 7);
            opens(hand(2, 21, 21, 21, 21, 21, 21, 21, 21, 21), 0);
            // in one order only: 132 before 213 is 231, which the product 312 needs
            opens(hand(3, 312, 213, 132), 1);
            opens(hand(3, 312, 132, 213), 0);
            // 321 before 132, 132 before 213, and 213 before 321 are 231: each but the neutral one can be first
            opens(hand(3, 312, 321, 213, 132), 0);
            opens(hand(3, 312, 123, 213, 132, 321), 1);
        });
    }

    private static void opens(GroupBids x, int want) {
        Check.due("opening(1)", want, () -> x.opening(1));
    }

    private static void askedAgain() {
        Check.sentence("what a hand can still reach, and how it can win, is found exactly.", () -> {
            GroupBids x = hand(5, 12345, 23451, 21345, 12345);
            for (int i = 0; i < 2; i++) {
                reach(x, 5);
                generated(x, 120);
                wins(x, 1, 3, 2);
                generated(x, 120);
            }
            // fewer cards than at the question before, and then none
            x.discard(1, 0);
            reach(x, 2);
            generated(x, 2);
            wins(x, 1, 3, 1);
            x.discard(1, 1);
            reach(x, 1);
            reaches(x, 12345, false);
            generated(x, 2);
            wins(x, -1, -1, -1);
            x.discard(1, 0);
            reach(x, 0);
            reaches(x, 21345, false);
            generated(x, 1);
            wins(x, -1, -1, -1);
            // an undo brings back the hand, and one player's hand is none of the other's business
            x.undo();
            generated(x, 2);
            reach(x, 1);
            Check.due("generated(0)", 1, () -> x.generated(0));
            Check.due("reach(0)", 0, () -> x.reach(0));
            generated(x, 2);
        });
    }

    private static void exceptions() {
        Check.sentence("Throws `IndexOutOfBoundsException` if there is no such player", () -> {
            noSuchPlayer(new GroupBids(), 0);
            noSuchPlayer(Check.loaded("group 2;lot 5;"), 0);
            noSuchPlayer(Check.loaded("group 2;player 5;"), 1);
            GroupBids x = Check.loaded("group 2;player 5;player 5;player 5;player 5;player 5;");
            for (int player : new int[] {5, -1, Integer.MAX_VALUE, Integer.MIN_VALUE}) {
                noSuchPlayer(x, player);
            }
        });
        Check.sentence("Throws `IllegalArgumentException` if it is no element", () -> {
            GroupBids x = Check.loaded("group 3;player 5;card 0 123 1;");
            for (int element : new int[] {0, 12, 122, 124, 322, 1234, -123, Integer.MAX_VALUE, Integer.MIN_VALUE}) {
                Edge.keeps(x, "reaches(0, " + element + ")", Edge.WRONG, () -> x.reaches(0, element));
            }
        });
    }

    private static void noSuchPlayer(GroupBids x, int player) {
        String told = "(" + player + ")";
        Edge.keeps(x, "reach" + told, Edge.NO_PLAYER, () -> x.reach(player));
        Edge.keeps(x, "reaches(" + player + ", 12)", Edge.NO_PLAYER, () -> x.reaches(player, 12));
        Edge.keeps(x, "reaches(" + player + ", 0)", Edge.NO_PLAYER, () -> x.reaches(player, 0));
        Edge.keeps(x, "generated" + told, Edge.NO_PLAYER, () -> x.generated(player));
        Edge.keeps(x, "fewest" + told, Edge.NO_PLAYER, () -> x.fewest(player));
        Edge.keeps(x, "cheapest" + told, Edge.NO_PLAYER, () -> x.cheapest(player));
        Edge.keeps(x, "opening" + told, Edge.NO_PLAYER, () -> x.opening(player));
    }
}

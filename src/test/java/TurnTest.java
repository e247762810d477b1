/** Promises 5, 6, 8 and 20 to 22: the state, bids, playing, cancelling and passing. */
public final class TurnTest {
    private static final String OVER = "throws.IllegalStateException";
    private static final String NO_SUCH = "throws.NoSuchElementException";

    public static void main(String[] args) {
        playAndWin();
        playRefused();
        twentyBids();
        cancelForPrice();
        cancelOwnBid();
        cancelRefused();
        cancelWins();
        cancelToEmptyRowWinsNothing();
        greatestPurse();
        passes();
        passesStartAgain();
        overForGood();
        withoutPlayersOrLots();
        wrongArguments();
        Check.end();
    }

    private static void playAndWin() {
        GroupBids x = Check.loaded("group 3;player 100;player 50;player 9;card 0 231 10;card 1 312 20;"
                + "card 2 123 3;lot 30;lot 70;");
        states(x, 3, 3, 2, 0, 0, 0, 0, 0, 0);
        Check.due("20: play(0)", 0, () -> x.play(0));
        states(x, 3, 3, 2, 0, 1, 1, 10, 0, 0);
        players(x, 0, 90, 0, 0);
        bids(x, 0, 0, 231, 10);
        Check.due("20: play(0) wins", 1, () -> x.play(0));
        states(x, 3, 3, 2, 1, 2, 0, 0, 0, 0);
        players(x, 1, 90, 0, 1);
        Check.due("8: the row is empty", NO_SUCH, () -> x.bid(0, 0));
        // a neutral card against an empty row wins as well, and the turn goes on from the winner
        Check.due("20: play(0) wins", 1, () -> x.play(0));
        players(x, 2, 79, 0, 1);
        states(x, 3, 3, 2, -1, -1, 0, 0, 0, 0);
    }

    private static void playRefused() {
        GroupBids x = Check.loaded("group 3;player 9;player 9;card 0 231 10;card 0 231 9;card 1 312 1;lot 30;");
        x.pass();
        x.play(0);
        Check.due("20: play(0) without the money", -1, () -> x.play(0));
        states(x, 3, 2, 1, 0, 0, 1, 1, 0, 0);
        players(x, 0, 9, 2, 0);
        Check.due("22: pass()", 0, x::pass);
        x.pass();
        Check.due("22: withdrawn", -1, () -> x.state(3));
        GroupBids y = Check.loaded("group 3;player 9;player 9;card 0 231 10;card 0 231 9;lot 30;");
        y.pass();
        y.pass();
        Check.due("22: withdrawn", -1, () -> y.state(3));
        GroupBids z = Check.loaded("group 3;player 9;player 9;card 0 231 10;card 0 231 9;lot 30;");
        Check.due("20: the whole purse is enough", 0, () -> z.play(1));
        players(z, 0, 0, 1, 0);
        z.pass();
        Check.due("20: refused", -1, () -> z.play(0));
        states(z, 3, 2, 1, 0, 0, 1, 9, 1, 0);
    }

    private static void twentyBids() {
        GroupBids x = Check.loaded("group 5;player 99999;lot 5;lot 6;");
        // 23451 ten times and once more would be neutral at every fifth, so 21345 comes first
        x.give(0, 21345, 1);
        x.play(0);
        for (int bid = 2; bid <= 20; bid++) {
            x.give(0, 23451, bid);
            Check.due("20: bid " + bid, 0, () -> x.play(0));
        }
        Check.due("5: bids", 20, () -> x.state(5));
        bids(x, 0, 0, 21345, 1);
        bids(x, 19, 0, 23451, 20);
        Check.due("8: bid(20, 0)", NO_SUCH, () -> x.bid(20, 0));
        x.give(0, 51234, 100);
        x.give(0, 21345, 7);
        Check.due("20: a 21st bid", -1, () -> x.play(0));
        Check.due("5: still 20 bids", 20, () -> x.state(5));
        Check.due("6: the purse is as it was", 99999 - 210, () -> x.player(0, 0));
        // the cancelling card costs 7, and the first bid gives back 1
        x.discard(0, 0);
        Check.due("21: cancelling is no 21st bid", 0, () -> x.cancel(0, 0));
        Check.due("5: now 19", 19, () -> x.state(5));
        Check.due("9: product()", 51234, x::product);
        x.give(0, 23451, 8);
        Check.due("20: a 20th bid again, and it wins", 1, () -> x.play(0));
        Check.due("6: the value and all that was in the pot", 99999 + 5, () -> x.player(0, 0));
    }

    private static void cancelForPrice() {
        GroupBids x = Check.loaded("group 3;player 100;player 50;card 0 231 10;card 0 213 5;card 1 312 20;"
                + "card 1 132 6;lot 9;");
        x.play(0);
        x.play(1);
        states(x, 3, 2, 1, 0, 0, 2, 16, 0, 0);
        x.pass();
        Check.due("21: cancel(0, 0)", 0, () -> x.cancel(0, 0));
        // 20 into the pot, 10 back to the player of the bid, and a pass before counts no more
        states(x, 3, 2, 1, 0, 0, 1, 26, 0, 0);
        players(x, 0, 100, 1, 0);
        players(x, 1, 24, 0, 0);
        bids(x, 0, 1, 132, 6);
        Check.due("9: product()", 132, x::product);
    }

    private static void cancelOwnBid() {
        GroupBids x = Check.loaded("group 3;player 30;card 0 132 5;card 0 213 10;card 0 213 11;lot 9;");
        x.play(0);
        x.play(0);
        Check.due("21: cancel the own bid", 0, () -> x.cancel(0, 1));
        players(x, 0, 30 - 5 - 11, 0, 0);
        states(x, 3, 1, 1, 0, 0, 1, 16, 0, 0);
    }

    private static void cancelRefused() {
        GroupBids x = Check.loaded("group 3;player 100;player 19;card 0 231 10;card 1 312 9;card 1 312 20;"
                + "card 1 231 15;card 1 312 10;lot 9;");
        x.play(0);
        Check.due("21: too cheap", -1, () -> x.cancel(0, 0));
        Check.due("21: too dear", -1, () -> x.cancel(1, 0));
        Check.due("21: not the inverse", -1, () -> x.cancel(2, 0));
        states(x, 3, 2, 1, 0, 1, 1, 10, 0, 0);
        players(x, 1, 19, 4, 0);
        Check.due("21: the same price is enough", 0, () -> x.cancel(3, 0));
        players(x, 1, 9, 3, 0);
        players(x, 0, 100, 0, 0);
        states(x, 3, 2, 1, 0, 0, 0, 10, 0, 0);
    }

    private static void cancelWins() {
        GroupBids x = Check.loaded("group 3;player 100;player 50;card 0 231 10;card 1 213 5;card 0 312 4;"
                + "card 1 213 6;lot 9;lot 8;");
        x.play(0);
        x.play(0);
        x.play(0);
        Check.due("9: 231 * 213 * 312", 321, x::product);
        Check.due("21: without the 213, the rest is neutral", 1, () -> x.cancel(0, 1));
        // 50 - 5 - 6 + 5, then 9 and the pot: 10 + 4 + 6
        players(x, 1, 44 + 9 + 20, 0, 1);
        players(x, 0, 86, 0, 0);
        states(x, 3, 2, 2, 1, 0, 0, 0, 0, 0);
    }

    private static void cancelToEmptyRowWinsNothing() {
        GroupBids x = Check.loaded("group 2;player 9;card 0 21 1;card 0 21 2;lot 9;");
        x.play(0);
        Check.due("21: the row is empty behind it", 0, () -> x.cancel(0, 0));
        states(x, 2, 1, 1, 0, 0, 0, 2, 0, 0);
        players(x, 0, 7, 0, 0);
    }

    /** No run can bring a purse to its limit: all players and all lots together hold less than 620000. */
    private static void greatestPurse() {
        StringBuilder text = new StringBuilder("group 2;");
        for (int player = 0; player < 5; player++) {
            text.append("player 99999;");
        }
        for (int lot = 0; lot < 12; lot++) {
            text.append("lot 9999;");
        }
        GroupBids x = Check.loaded(text + "price 9999;");
        // in the first lot the others fill the pot; player 0 makes the product neutral at the 20th bid
        for (int bid = 1; bid <= 20; bid++) {
            int player = x.state(4);
            boolean last = bid == 20;
            if (player == 0 && !last) {
                x.pass();
                player = 1;
            }
            while (last && player != 0) {
                x.pass();
                player = x.state(4);
            }
            x.give(player, bid == 1 || last ? 21 : 12, 1);
            Check.due("20: bid " + bid, last ? 1 : 0, () -> x.play(0));
        }
        Check.due("6: the pot of 20 bids and the value", 99999 - 9999 + 20 * 9999 + 9999, () -> x.player(0, 0));
        while (x.state(3) != -1) {
            while (x.state(4) != 0) {
                x.pass();
            }
            x.give(0, 12, 1);
            Check.due("20: a neutral card", 1, () -> x.play(0));
        }
        Check.due("6: the values of 11 more lots", 299979 + 9999 + 11 * 9999 - 9999, () -> x.player(0, 0));
        Check.due("6: lots", 12, () -> x.player(0, 2));
    }

    private static void passes() {
        GroupBids x = Check.loaded("group 2;player 9;player 8;player 7;card 0 21 4;lot 3;lot 2;");
        x.play(0);
        Check.due("22: pass()", 0, x::pass);
        Check.due("22: pass()", 0, x::pass);
        states(x, 2, 3, 2, 0, 0, 1, 4, 2, 0);
        Check.due("22: the last pass", 1, x::pass);
        // the pot goes to the house, and the turn goes on
        states(x, 2, 3, 2, 1, 1, 0, 0, 0, 4);
        x.pass();
        x.pass();
        Check.due("22: the last pass of the last lot", 1, x::pass);
        states(x, 2, 3, 2, -1, -1, 0, 0, 0, 4);
        GroupBids y = Check.loaded("group 2;player 9;lot 3;lot 2;");
        Check.due("22: one player alone", 1, y::pass);
        states(y, 2, 1, 2, 1, 0, 0, 0, 0, 0);
    }

    private static void passesStartAgain() {
        GroupBids x = Check.loaded("group 2;player 9;player 8;card 1 21 4;card 0 21 5;lot 3;");
        x.pass();
        Check.due("20: play(0)", 0, () -> x.play(0));
        Check.due("5: passes behind a card", 0, () -> x.state(7));
        x.pass();
        GroupBids y = Check.loaded("group 2;player 9;player 8;card 0 21 4;card 0 21 5;lot 3;");
        y.play(0);
        y.pass();
        Check.due("5: passes", 1, () -> y.state(7));
        Check.due("21: cancel(0, 0)", 0, () -> y.cancel(0, 0));
        Check.due("5: passes behind a cancelled bid", 0, () -> y.state(7));
    }

    private static void overForGood() {
        GroupBids x = Check.loaded("group 2;player 9;card 0 21 4;card 0 12 1;lot 3;");
        x.play(1);
        Check.due("20: play(0)", OVER, () -> x.play(0));
        Check.due("20: play(9)", OVER, () -> x.play(9));
        Check.due("21: cancel(0, 0)", OVER, () -> x.cancel(0, 0));
        Check.due("22: pass()", OVER, x::pass);
        Check.due("23: give(0, 21, 5)", 2, () -> x.give(0, 21, 5));
        Check.due("24: discard(0, 1)", 21, () -> x.discard(0, 1));
    }

    private static void withoutPlayersOrLots() {
        GroupBids x = Check.loaded("group 4;lot 3;lot 5;");
        states(x, 4, 0, 2, -1, -1, 0, 0, 0, 0);
        Check.due("22: pass() without players", OVER, x::pass);
        Check.due("20: play(0) without players", OVER, () -> x.play(0));
        GroupBids y = Check.loaded("group 4;player 3;card 0 4321 1;");
        states(y, 4, 1, 0, -1, -1, 0, 0, 0, 0);
        Check.due("22: pass() without lots", OVER, y::pass);
        Check.due("21: cancel(0, 0) without lots", OVER, () -> y.cancel(0, 0));
    }

    private static void wrongArguments() {
        GroupBids x = Check.loaded("group 2;player 9;player 9;card 0 21 4;card 0 21 4;lot 3;");
        x.play(0);
        x.pass();
        int changes = 2;
        for (int card : new int[] {-1, 1, 8, Integer.MAX_VALUE, Integer.MIN_VALUE}) {
            Check.due("20: play(" + card + ")", NO_SUCH, () -> x.play(card));
            Check.due("21: cancel(" + card + ", 0)", NO_SUCH, () -> x.cancel(card, 0));
            Check.due("21: cancel(0, " + card + ")", NO_SUCH, () -> x.cancel(0, card));
            Check.due("8: bid(" + card + ", 9)", NO_SUCH, () -> x.bid(card, 9));
        }
        for (int what : new int[] {-1, 3, 9, Integer.MAX_VALUE, Integer.MIN_VALUE}) {
            Check.due("8: bid(0, " + what + ")", "throws.IllegalArgumentException", () -> x.bid(0, what));
            Check.due("6: player(0, " + what + ")", "throws.IllegalArgumentException", () -> x.player(0, what));
            Check.due("6: player(2, " + what + ")", "throws.IndexOutOfBoundsException", () -> x.player(2, what));
        }
        for (int what : new int[] {-1, 9, Integer.MAX_VALUE, Integer.MIN_VALUE}) {
            Check.due("5: state(" + what + ")", "throws.IllegalArgumentException", () -> x.state(what));
        }
        for (int player : new int[] {-1, 2, 5, Integer.MAX_VALUE, Integer.MIN_VALUE}) {
            Check.due("6: player(" + player + ", 0)", "throws.IndexOutOfBoundsException", () -> x.player(player, 0));
        }
        Check.due("25: calls that throw are no changes", changes, x::undo);
    }

    private static void states(GroupBids x, int... want) {
        for (int what = 0; what < want.length; what++) {
            int asked = what;
            Check.due("5: state(" + what + ")", want[what], () -> x.state(asked));
        }
    }

    private static void players(GroupBids x, int player, int purse, int cards, int wins) {
        Check.due("6: player(" + player + ", 0)", purse, () -> x.player(player, 0));
        Check.due("6: player(" + player + ", 1)", cards, () -> x.player(player, 1));
        Check.due("6: player(" + player + ", 2)", wins, () -> x.player(player, 2));
    }

    private static void bids(GroupBids x, int bid, int player, int element, int price) {
        Check.due("8: bid(" + bid + ", 0)", player, () -> x.bid(bid, 0));
        Check.due("8: bid(" + bid + ", 1)", element, () -> x.bid(bid, 1));
        Check.due("8: bid(" + bid + ", 2)", price, () -> x.bid(bid, 2));
    }
}

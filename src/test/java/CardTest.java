/** Promises 7, 23 and 24: cards and their prices, giving and discarding. */
public final class CardTest {
    private static final String NO_PLAYER = "throws.IndexOutOfBoundsException";
    private static final String NO_SUCH = "throws.NoSuchElementException";
    private static final String WRONG = "throws.IllegalArgumentException";

    public static void main(String[] args) {
        cards();
        wrongCards();
        prices();
        pricesAtThePresentTime();
        give();
        discard();
        Check.end();
    }

    private static void cards() {
        GroupBids x = Check.loaded("group 4;player 50;player 60;card 1 2341 999;card 0 4321 1;card 1 1234 12;"
                + "price base+order;lot 1;");
        card(x, 0, 0, 4321, 1, 3);
        card(x, 1, 0, 2341, 999, 1003);
        card(x, 1, 1, 1234, 12, 13);
    }

    private static void wrongCards() {
        GroupBids x = Check.loaded("group 2;player 50;player 60;card 1 12 4;lot 1;");
        for (int player : new int[] {-1, 2, 5, Integer.MIN_VALUE, Integer.MAX_VALUE}) {
            Check.due("7: card(" + player + ", 9, 9)", NO_PLAYER, () -> x.card(player, 9, 9));
            Check.due("23: give(" + player + ", 9, 0)", NO_PLAYER, () -> x.give(player, 9, 0));
            Check.due("24: discard(" + player + ", 9)", NO_PLAYER, () -> x.discard(player, 9));
        }
        for (int card : new int[] {-1, 1, 8, Integer.MIN_VALUE, Integer.MAX_VALUE}) {
            Check.due("7: card(1, " + card + ", 9)", NO_SUCH, () -> x.card(1, card, 9));
            Check.due("24: discard(1, " + card + ")", NO_SUCH, () -> x.discard(1, card));
        }
        Check.due("7: card(0, 0, 0)", NO_SUCH, () -> x.card(0, 0, 0));
        for (int what : new int[] {-1, 3, Integer.MIN_VALUE, Integer.MAX_VALUE}) {
            Check.due("7: card(1, 0, " + what + ")", WRONG, () -> x.card(1, 0, what));
        }
    }

    /** The price of a card with the base price 7 and the order 3, without bids. */
    private static void prices() {
        price("base", 7);
        price("order", 3);
        price("bids", 0);
        price("pot", 0);
        price("9999", 9999);
        price("9999+1", 9999);
        price("0-1", 0);
        price("1-2-3+9", 5);
        price("100/7/2", 7);
        price("2+3*4", 14);
        price("(2+3)*4", 20);
        price("20-(2-3)*4", 24);
        price("base*order-base/order", 19);
        price("(0-7)/2+10", 7);
        price("7/(0-2)+10", 7);
        price("base/bids", 0);
        price("5+base/(order-3)*9", 5);
        // 9999 * 9999 stops at 1000000, and so does each later result
        price("9999*9999-9999*9999+8", 8);
        price("9999*9999/1000", 1000);
        // the products of two such results are above every int
        price("(9999*9999)*(9999*9999)/1000", 1000);
        price("(9999*9999)*(0-9999*9999)/1000+1001", 1);
        price("(0-9999)*9999/1000+1001", 1);
        price("9999*9999*9999*9999/9999", 100);
        price("9999*9999+9999*9999-9999*100", 100);
        price("0-9999*100-9999*100+9999*100+9", 0);
        price("0-9999*100-9999*100+9999*100+100", 0);
        price("0-9999*100-9999*100+9999*100+101", 1);
        price("2*(3+(4-(5*(1))))", 4);
        price("1-(2-(3-(4-(5))))", 3);
        price("1+2*(1+2*(1+2*(1+2*(1+2*3))))", 127);
        price("9-8/(9-8/(9-8/(9-8/(9-8/4))))", 8);
        price("8/2*2", 8);
        price("8*2/3", 5);
        price("1+2*3+(4+5*6)*(7+8*9)", 2693);
        price("1 + order * base - ( bids + pot ) / 2", 22);
    }

    private static void price(String rule, int want) {
        GroupBids x = Check.loaded("group 3;player 50;card 0 231 7;lot 1;price " + rule + ";");
        Check.due("7: price " + rule, want, () -> x.card(0, 0, 2));
    }

    private static void pricesAtThePresentTime() {
        GroupBids x = Check.loaded("group 3;price base+bids*10+pot*order;player 500;card 0 231 5;card 0 213 6;"
                + "card 0 123 7;lot 1;");
        card(x, 0, 0, 231, 5, 5);
        Check.due("20: play(0)", 0, () -> x.play(0));
        Check.due("8: the price of the bid", 5, () -> x.bid(0, 2));
        card(x, 0, 0, 213, 6, 6 + 10 + 5 * 2);
        card(x, 0, 1, 123, 7, 7 + 10 + 5);
        Check.due("20: play(1)", 0, () -> x.play(1));
        card(x, 0, 0, 213, 6, 6 + 20 + 27 * 2);
        x.pass();
        card(x, 0, 0, 213, 6, 6);
    }

    private static void give() {
        GroupBids x = Check.loaded("group 3;player 50;player 60;card 1 312 4;lot 1;");
        Check.due("23: give", 2, () -> x.give(1, 231, 1));
        Check.due("23: give", 3, () -> x.give(1, 123, 999));
        card(x, 1, 0, 312, 4, 4);
        card(x, 1, 1, 231, 1, 1);
        card(x, 1, 2, 123, 999, 999);
        for (int element : new int[] {0, 12, 124, 1234, -123, Integer.MIN_VALUE}) {
            Check.due("23: give(1, " + element + ", 5)", WRONG, () -> x.give(1, element, 5));
        }
        for (int base : new int[] {0, 1000, -1, Integer.MIN_VALUE, Integer.MAX_VALUE}) {
            Check.due("23: give(1, 123, " + base + ")", WRONG, () -> x.give(1, 123, base));
        }
        for (int cards = 4; cards <= 8; cards++) {
            Check.due("23: give", cards, () -> x.give(1, 213, 2));
        }
        Check.due("23: a ninth card", "throws.IllegalStateException", () -> x.give(1, 213, 2));
        Check.due("23: a ninth card that is no element", WRONG, () -> x.give(1, 214, 2));
        Check.due("23: a ninth card for 0", WRONG, () -> x.give(1, 213, 0));
        Check.due("6: cards", 8, () -> x.player(1, 1));
        Check.due("23: the other player", 1, () -> x.give(0, 213, 2));
    }

    private static void discard() {
        GroupBids x = Check.loaded("group 3;player 50;card 0 312 4;card 0 123 5;card 0 231 6;lot 1;");
        Check.due("24: discard(0, 1)", 123, () -> x.discard(0, 1));
        card(x, 0, 0, 312, 4, 4);
        card(x, 0, 1, 231, 6, 6);
        Check.due("24: discard(0, 2)", NO_SUCH, () -> x.discard(0, 2));
        Check.due("24: discard(0, 0)", 312, () -> x.discard(0, 0));
        card(x, 0, 0, 231, 6, 6);
        Check.due("24: discard(0, 0)", 231, () -> x.discard(0, 0));
        Check.due("24: discard(0, 0)", NO_SUCH, () -> x.discard(0, 0));
        Check.due("6: the purse stays", 50, () -> x.player(0, 0));
    }

    private static void card(GroupBids x, int player, int card, int element, int base, int price) {
        String call = "7: card(" + player + ", " + card + ", ";
        Check.due(call + "0)", element, () -> x.card(player, card, 0));
        Check.due(call + "1)", base, () -> x.card(player, card, 1));
        Check.due(call + "2)", price, () -> x.card(player, card, 2));
    }
}

/** What the tests of the edges ask again and again, told in one line each. */
final class Edge {
    static final String NO_PLAYER = "throws.IndexOutOfBoundsException";
    static final String NO_SUCH = "throws.NoSuchElementException";
    static final String WRONG = "throws.IllegalArgumentException";
    static final String REFUSES = "throws.IllegalStateException";
    static final int SYNTAX = -2;
    static final int RANGE = -3;
    static final int MANY = -4;
    static final int DEEP = -5;
    /** Places and indexes that are none of anything, beside the first one behind the last. */
    static final int[] FAR = {-1, 99, Integer.MAX_VALUE, Integer.MIN_VALUE};

    private Edge() {
    }

    /** A text that the class accepts, with this answer. */
    static GroupBids good(String text, int players) {
        GroupBids x = new GroupBids();
        Check.due("load of " + text, players, () -> Check.load(x, text));
        Check.due("errorOffset() of " + text, -1, x::errorOffset);
        return x;
    }

    /** A text with this error at this offset. */
    static void bad(String text, int error, int offset) {
        GroupBids x = new GroupBids();
        Check.due("load of " + text, error, () -> Check.load(x, text));
        Check.due("errorOffset() of " + text, offset, x::errorOffset);
    }

    /** What state(0), state(1) and so on answer. */
    static void states(GroupBids x, int... want) {
        for (int what = 0; what < want.length; what++) {
            state(x, what, want[what]);
        }
    }

    static void state(GroupBids x, int what, int want) {
        Check.due("state(" + what + ")", want, () -> x.state(what));
    }

    static void purse(GroupBids x, int player, int want) {
        Check.due("player(" + player + ", 0)", want, () -> x.player(player, 0));
    }

    static void wins(GroupBids x, int player, int want) {
        Check.due("player(" + player + ", 2)", want, () -> x.player(player, 2));
    }

    /** The elements of all cards of a player. */
    static void cards(GroupBids x, int player, int... elements) {
        Check.due("player(" + player + ", 1)", elements.length, () -> x.player(player, 1));
        for (int card = 0; card < elements.length; card++) {
            int place = card;
            Check.due("card(" + player + ", " + card + ", 0)", elements[card], () -> x.card(player, place, 0));
        }
        Check.due("card(" + player + ", " + elements.length + ", 0)", NO_SUCH,
                () -> x.card(player, elements.length, 0));
    }

    static void price(GroupBids x, int player, int card, int want) {
        Check.due("card(" + player + ", " + card + ", 2)", want, () -> x.card(player, card, 2));
    }

    /** The elements of all bids. */
    static void row(GroupBids x, int... elements) {
        state(x, 5, elements.length);
        for (int bid = 0; bid < elements.length; bid++) {
            int place = bid;
            Check.due("bid(" + bid + ", 1)", elements[bid], () -> x.bid(place, 1));
        }
        Check.due("bid(" + elements.length + ", 1)", NO_SUCH, () -> x.bid(elements.length, 1));
    }

    static void bid(GroupBids x, int bid, int player, int element, int price) {
        Check.due("bid(" + bid + ", 0)", player, () -> x.bid(bid, 0));
        Check.due("bid(" + bid + ", 1)", element, () -> x.bid(bid, 1));
        Check.due("bid(" + bid + ", 2)", price, () -> x.bid(bid, 2));
    }

    static void play(GroupBids x, int card, int want) {
        Check.due("play(" + card + ")", want, () -> x.play(card));
    }

    static void cancel(GroupBids x, int card, int bid, int want) {
        Check.due("cancel(" + card + ", " + bid + ")", want, () -> x.cancel(card, bid));
    }

    static void pass(GroupBids x, int want) {
        Check.due("pass()", want, x::pass);
    }

    static void give(GroupBids x, int player, int element, int base, int want) {
        Check.due("give(" + player + ", " + element + ", " + base + ")", want, () -> x.give(player, element, base));
    }

    static void undo(GroupBids x, int want) {
        Check.due("undo()", want, x::undo);
    }

    /** A call that throws and leaves all data as they were. */
    static void keeps(GroupBids x, String what, String exception, Check.Call call) {
        long before = x.checksum();
        int offset = x.errorOffset();
        Check.due(what, exception, call);
        Check.due("checksum() behind " + what, before, x::checksum);
        Check.due("errorOffset() behind " + what, offset, x::errorOffset);
    }

    /** Gives a card to the player in turn and plays it at once. */
    static void bidWith(GroupBids x, int element, int base, int want) {
        int player = x.state(4);
        int cards = x.give(player, element, base);
        play(x, cards - 1, want);
    }

    /** The statement, this many times. */
    static String times(int count, String statement) {
        return statement.repeat(count);
    }

    /** The neutral element of n points. */
    static int neutral(int n) {
        return 12345 / (int) Math.pow(10, 5 - n);
    }
}

import java.math.BigInteger;

/** The edges that the promises 1 to 13, 23, 24 and 26 name themselves: a test for each sentence. */
public final class PromisesEdgeTest {
    private static final byte[] LOT = Check.bytesOf("group 3;lot 5;lot 6;");

    public static void main(String[] args) {
        newObject();
        append();
        load();
        errorOffset();
        state();
        playerCardBid();
        products();
        elements();
        give();
        discard();
        checksum();
        Check.end();
    }

    private static void newObject() {
        Check.sentence("Creates an auction without players and lots, with an empty input buffer.", () -> {
            GroupBids x = new GroupBids();
            Edge.states(x, 2, 0, 0, -1, -1, 0, 0, 0, 0);
            Check.due("player(0, 0)", Edge.NO_PLAYER, () -> x.player(0, 0));
            Check.due("bid(0, 0)", Edge.NO_SUCH, () -> x.bid(0, 0));
            Check.due("pass()", Edge.REFUSES, x::pass);
            Check.due("load(1)", Edge.WRONG, () -> x.load(1));
            Check.due("append", 20, () -> Check.append(x, LOT, 0));
            // one object is none of the other's business
            GroupBids y = new GroupBids();
            Check.due("load(1) of another", Edge.WRONG, () -> y.load(1));
            Check.due("load(20)", 0, () -> x.load(20));
            Edge.state(y, 2, 0);
        });
    }

    private static void append() {
        Check.sentence("Appends 20 bytes to the input buffer: the 4 bytes of each argument, the most significant byte "
                + "first.", () -> {
            GroupBids x = new GroupBids();
            // "grou" "p2;l" "ot77" ";lot" "8;  "
            Check.due("append", 20, () -> x.append(0x67726f75, 0x70323b6c, 0x6f743737, 0x3b6c6f74, 0x383b2020));
            Check.due("load(20)", 0, () -> x.load(20));
            Edge.state(x, 2, 2);
            // each of the 20 bytes has its place: a sign that is allowed nowhere is found there
            for (int at = 0; at < 20; at++) {
                signAt(at, 0x3f);
                signAt(at, 0xff);
                signAt(at, 0x80);
            }
        });
        Check.sentence("Returns the new length of the buffer; -1 if it would exceed 700 bytes, and the buffer is "
                + "unchanged then.", () -> {
            GroupBids x = new GroupBids();
            for (int length = 20; length <= 700; length += 20) {
                int from = length - 20;
                Check.due("append to " + length, length, () -> Check.append(x, LOT, from));
            }
            Check.due("append behind 700", -1, () -> x.append(-1, -1, -1, -1, -1));
            Check.due("append behind 700", -1, () -> x.append(-1, -1, -1, -1, -1));
            Check.due("load(701)", Edge.WRONG, () -> x.load(701));
            Check.due("load(720)", Edge.WRONG, () -> x.load(720));
            Check.due("load(700)", 0, () -> x.load(700));
            Edge.state(x, 2, 2);
            Check.due("append to an empty buffer", 20, () -> Check.append(x, LOT, 0));
        });
    }

    private static void signAt(int at, int sign) {
        GroupBids x = new GroupBids();
        byte[] text = Check.bytesOf(" ".repeat(20));
        text[at] = (byte) sign;
        Check.append(x, text, 0);
        Check.due("load of a sign " + sign + " at " + at, Edge.SYNTAX, () -> x.load(20));
        Check.due("errorOffset()", at, x::errorOffset);
    }

    private static void load() {
        Check.sentence("Reads the first bytes of the input buffer as a setup text and replaces all data by it.", () -> {
            GroupBids x = Check.loaded("group 3;player 50;player 60;card 0 231 7;card 1 213 9;lot 9;lot 8;"
                    + "price base*2;");
            Edge.play(x, 0, 0);
            Edge.pass(x, 0);
            Check.append(x, LOT, 0);
            Check.due("load(14)", 0, () -> x.load(14));
            Edge.states(x, 3, 0, 1, -1, -1, 0, 0, 0, 0);
            Check.due("load of players", 1, () -> Check.load(x, "group 3;player 4;card 0 231 7;lot 2;"));
            Edge.states(x, 3, 1, 1, 0, 0, 0, 0, 0, 0);
            Edge.purse(x, 0, 4);
            Edge.wins(x, 0, 0);
            Edge.cards(x, 0, 231);
            Edge.price(x, 0, 0, 7);
            Check.due("player(1, 0)", Edge.NO_PLAYER, () -> x.player(1, 0));
            Edge.bidWith(x, 123, 4, 1);
            Edge.wins(x, 0, 1);
            Check.due("load", 1, () -> Check.load(x, "group 3;player 4;card 0 231 7;lot 2;price 3+base;"));
            Edge.wins(x, 0, 0);
            Edge.price(x, 0, 0, 10);
            Check.due("load", 1, () -> Check.load(x, "group 3;player 4;card 0 231 7;lot 2;price base*3;"));
            Edge.price(x, 0, 0, 21);
        });
        Check.sentence("`length`: the number of bytes to read", PromisesEdgeTest::bytesBehindTheLength);
        Check.sentence("The input buffer is empty afterwards, also if the text has an error.", () -> {
            GroupBids x = new GroupBids();
            Check.append(x, LOT, 0);
            Check.due("load(8), good", 0, () -> x.load(8));
            Check.due("load(1)", Edge.WRONG, () -> x.load(1));
            Check.due("append", 20, () -> Check.append(x, LOT, 0));
            Check.due("load(7), an error", Edge.SYNTAX, () -> x.load(7));
            Check.due("load(1)", Edge.WRONG, () -> x.load(1));
            Check.due("append", 20, () -> Check.append(x, LOT, 0));
            Check.due("load(0), an empty text", Edge.SYNTAX, () -> x.load(0));
            Check.due("load(1)", Edge.WRONG, () -> x.load(1));
            Check.due("append", 20, () -> Check.append(x, LOT, 0));
            Check.due("load(20)", 0, () -> x.load(20));
        });
        Check.sentence("An error leaves all other data unchanged.", PromisesEdgeTest::errorsKeepAll);
        Check.sentence("An empty text has a SYNTAX_ERROR.", () -> {
            GroupBids x = new GroupBids();
            Check.due("load(0) of an empty buffer", Edge.SYNTAX, () -> x.load(0));
            Check.due("errorOffset()", 0, x::errorOffset);
            Check.append(x, LOT, 0);
            Check.due("load(0) of a full one", Edge.SYNTAX, () -> x.load(0));
            Check.due("errorOffset()", 0, x::errorOffset);
            Edge.undo(x, -1);
        });
        Check.sentence("Returns the number of players; or the error code of the first error.", () -> {
            for (int players = 0; players <= 5; players++) {
                Edge.good("group 2;" + Edge.times(players, "player 1;"), players);
            }
            Edge.bad("group 2;" + Edge.times(6, "player 1;"), Edge.MANY, 53);
            Edge.bad("group 2;price (((((0;lot", Edge.DEEP, 18);
            Edge.bad("group 9;lot", Edge.RANGE, 6);
            Edge.bad("group;lot 0;", Edge.SYNTAX, 5);
        });
        Check.sentence("Throws `IllegalArgumentException` if length is negative or greater than the length of the "
                + "buffer; the buffer is unchanged then", () -> {
            GroupBids x = new GroupBids();
            Check.due("load(1) of an empty buffer", Edge.WRONG, () -> x.load(1));
            Check.append(x, LOT, 0);
            for (int length : new int[] {-1, 21, 40, 700, 701, Integer.MAX_VALUE, Integer.MIN_VALUE}) {
                Edge.keeps(x, "load(" + length + ")", Edge.WRONG, () -> x.load(length));
            }
            Check.due("append", 40, () -> Check.append(x, LOT, 8));
            // the two parts together: two lots, and two more
            Check.due("load(40)", 0, () -> x.load(40));
            Edge.state(x, 2, 4);
        });
    }

    /** What stands in the buffer behind the length does not count, although it would go on with a run. */
    private static void bytesBehindTheLength() {
        cut("groups", 5, Edge.SYNTAX, 5);
        cut("group 22;", 7, Edge.SYNTAX, 7);
        cut("group 2;lots 5;", 11, Edge.SYNTAX, 11);
        cut("group 2;lot 56;", 13, Edge.SYNTAX, 13);
        cut("group 2;lot 5;lot 6;", 14, 0, -1);
        cut("group 2;lot 5;?", 14, 0, -1);
        cut("group 2;lot 5;?", 15, Edge.SYNTAX, 14);
        cut("group 2;lot 0;", 13, Edge.RANGE, 12);
        cut("group 2;lot 10000;", 16, Edge.SYNTAX, 16);
        cut("group 2;lot 10000;", 17, Edge.RANGE, 12);
        cut("group 2;   lot 5;", 9, 0, -1);
        cut("     group 2;", 3, Edge.SYNTAX, 3);
        cut("group 2;price 1+base;", 20, Edge.SYNTAX, 20);
        cut("group 2;price 1+base;", 19, Edge.SYNTAX, 16);
        // and nothing at all is read of a text whose length is 0
        cut("     group 2;", 0, Edge.SYNTAX, 0);
        cut("group 2;", 0, Edge.SYNTAX, 0);
    }

    private static void cut(String text, int length, int want, int offset) {
        GroupBids x = new GroupBids();
        byte[] bytes = Check.bytesOf(text);
        for (int from = 0; from < bytes.length; from += 20) {
            Check.append(x, bytes, from);
        }
        Check.due("load(" + length + ") of " + text, want, () -> x.load(length));
        Check.due("errorOffset()", offset, x::errorOffset);
    }

    private static void errorsKeepAll() {
        String[] texts = {"", "group 4", "group 9;", "group 4;player 1;player 2;card 0 1234 5;lot 3;price 4;oops",
            "group 4;" + Edge.times(6, "player 1;"), "group 4;price (((((1)))));", "group 4;price 3;price 4;",
            "group 4;price 3;lot 0;"};
        GroupBids x = Check.loaded("group 3;player 50;player 9;card 0 231 7;card 0 213 8;lot 9;lot 5;price base*2;");
        Edge.play(x, 0, 0);
        Edge.pass(x, 0);
        long before = x.checksum();
        for (String text : texts) {
            Check.due("load of " + text + " fails", true, () -> Check.load(x, text) < 0);
            Check.due("checksum() behind it", before, x::checksum);
        }
        Edge.price(x, 0, 0, 16);
        Check.due("order(231)", 3, () -> x.order(231));
        // no error is a change
        Edge.undo(x, 2);
        Edge.undo(x, 1);
        Edge.undo(x, 0);
    }

    private static void errorOffset() {
        Check.sentence("Returns the offset of the error found by the latest call of load that did not throw; -1 if it "
                + "found none or if there was no such call.", () -> {
            GroupBids x = new GroupBids();
            Check.due("errorOffset() of a new object", -1, x::errorOffset);
            Check.due("load(1)", Edge.WRONG, () -> x.load(1));
            Check.due("errorOffset() behind a load that threw", -1, x::errorOffset);
            Check.due("load(0)", Edge.SYNTAX, () -> x.load(0));
            Check.due("errorOffset() behind an error at 0", 0, x::errorOffset);
            Check.due("load", Edge.RANGE, () -> Check.load(x, "group 6;"));
            Check.due("errorOffset() behind an error at 6", 6, x::errorOffset);
            Check.due("load(1)", Edge.WRONG, () -> x.load(1));
            Check.due("errorOffset() behind a load that threw", 6, x::errorOffset);
            Check.due("load", 0, () -> Check.load(x, "group 5;"));
            Check.due("errorOffset() behind a good load", -1, x::errorOffset);
            Check.due("load(-1)", Edge.WRONG, () -> x.load(-1));
            Check.due("errorOffset() behind a load that threw", -1, x::errorOffset);
        });
    }

    private static void state() {
        Check.sentence("3 the present lot (-1 if the auction is over), 4 the player whose turn it is (-1 if it is "
                + "over),", () -> {
            GroupBids x = Check.loaded("group 2;player 5;player 6;lot 1;lot 2;");
            Edge.states(x, 2, 2, 2, 0, 0);
            Edge.pass(x, 0);
            Edge.states(x, 2, 2, 2, 0, 1);
            Edge.pass(x, 1);
            Edge.states(x, 2, 2, 2, 1, 0);
            Edge.pass(x, 0);
            Edge.pass(x, 1);
            Edge.states(x, 2, 2, 2, -1, -1);
            Edge.undo(x, 4);
            Edge.states(x, 2, 2, 2, 1, 1);
        });
        Check.sentence("5 the number of bids, 6 the pot, 7 the number of passes in a row, 8 what went to the house so "
                + "far", PromisesEdgeTest::fullestLot);
        Check.sentence("Throws `IllegalArgumentException` if what is out of range", () -> {
            GroupBids x = Check.loaded("group 2;player 5;player 6;card 0 21 3;card 0 12 4;lot 1;");
            Edge.play(x, 0, 0);
            for (int what : new int[] {Integer.MIN_VALUE, -1, 9, 10, 32, Integer.MAX_VALUE}) {
                Edge.keeps(x, "state(" + what + ")", Edge.WRONG, () -> x.state(what));
            }
            for (int what : new int[] {Integer.MIN_VALUE, -1, 3, 4, 8, 32, Integer.MAX_VALUE}) {
                Edge.keeps(x, "player(0, " + what + ")", Edge.WRONG, () -> x.player(0, what));
                Edge.keeps(x, "card(0, 0, " + what + ")", Edge.WRONG, () -> x.card(0, 0, what));
                Edge.keeps(x, "bid(0, " + what + ")", Edge.WRONG, () -> x.bid(0, what));
            }
        });
    }

    /** 20 bids of 9999 each, and as many passes as there can be without the lot being withdrawn. */
    private static void fullestLot() {
        GroupBids x = Check.loaded("group 2;" + Edge.times(5, "player 99999;") + "lot 9999;price 9999;");
        for (int bid = 0; bid < 20; bid++) {
            Edge.bidWith(x, bid == 0 ? 21 : 12, 1, 0);
            Edge.state(x, 5, bid + 1);
            Edge.state(x, 6, 9999 * (bid + 1));
        }
        for (int passes = 1; passes <= 4; passes++) {
            Edge.pass(x, 0);
            Edge.states(x, 2, 5, 1, 0, passes, 20, 199980, passes, 0);
        }
        Edge.pass(x, 1);
        Edge.states(x, 2, 5, 1, -1, -1, 0, 0, 0, 199980);
    }

    private static void playerCardBid() {
        Check.sentence("0 its purse, 1 the number of its cards, 2 the number of lots that it won", () -> {
            GroupBids x = Check.loaded("group 2;player 0;player 7;" + Edge.times(8, "card 1 12 1;") + Edge.times(9,
                    "lot 1;"));
            Check.due("player(0, 0)", 0, () -> x.player(0, 0));
            Check.due("player(0, 1)", 0, () -> x.player(0, 1));
            Check.due("player(0, 2)", 0, () -> x.player(0, 2));
            for (int won = 0; won < 8; won++) {
                int lots = won;
                Edge.pass(x, 0);
                Check.due("player(1, 0)", 7 + lots, () -> x.player(1, 0));
                Check.due("player(1, 1)", 8 - lots, () -> x.player(1, 1));
                Check.due("player(1, 2)", lots, () -> x.player(1, 2));
                Edge.play(x, 0, 1);
            }
            Edge.pass(x, 0);
            Edge.pass(x, 1);
            // a lot that is withdrawn is won by nobody
            Edge.wins(x, 0, 0);
            Edge.wins(x, 1, 8);
        });
        Check.sentence("0 its element, 1 its base price, 2 its price", () -> {
            GroupBids x = Check.loaded("group 5;player 0;card 0 54321 999;card 0 12345 1;price base*order;");
            int[][] want = {{54321, 999, 1998}, {12345, 1, 1}};
            for (int card = 0; card < 2; card++) {
                for (int what = 0; what < 3; what++) {
                    int place = card;
                    int asked = what;
                    Check.due("card(0, " + card + ", " + what + ")", want[card][what], () -> x.card(0, place, asked));
                }
            }
        });
        Check.sentence("0 its player, 1 its element, 2 its price", () -> {
            GroupBids x = Check.loaded("group 3;player 99;player 99;player 0;card 0 231 0099;card 1 213 98;"
                    + "card 2 321 5;lot 1;price base-bids*5;");
            Edge.play(x, 0, 0);
            Edge.play(x, 0, 0);
            Edge.play(x, 0, 0);
            Edge.bid(x, 0, 0, 231, 99);
            Edge.bid(x, 1, 1, 213, 93);
            Edge.bid(x, 2, 2, 321, 0);
        });
        Check.sentence("Throws `NoSuchElementException` if there is no such bid", () -> {
            GroupBids x = Check.loaded("group 3;player 99;card 0 231 9;lot 1;");
            Check.due("bid(0, 0) without bids", Edge.NO_SUCH, () -> x.bid(0, 0));
            Edge.play(x, 0, 0);
            Check.due("bid(0, 0)", 0, () -> x.bid(0, 0));
            for (int bid : new int[] {-1, 1, 20, Integer.MAX_VALUE, Integer.MIN_VALUE}) {
                Check.due("bid(" + bid + ", 0)", Edge.NO_SUCH, () -> x.bid(bid, 0));
            }
        });
    }

    private static void products() {
        Check.sentence("Returns the product of all bids.", () -> {
            GroupBids x = Check.loaded("group 5;player 99;lot 1;price 0;");
            Check.due("product() without bids", 12345, x::product);
            // 20 bids: 23451 nineteen times has the product of four of them, and then 21345
            Edge.bidWith(x, 21345, 1, 0);
            Check.due("product() of one bid", 21345, x::product);
            for (int bid = 1; bid < 20; bid++) {
                Edge.bidWith(x, 23451, 1, 0);
            }
            Check.due("product() of 20 bids", 15234, x::product);
        });
        Check.sentence("`from`: place of a bid, or the number of bids - `to`: from to the number of bids", () -> {
            GroupBids x = Check.loaded("group 3;player 99;card 0 231 1;card 0 213 2;lot 5;");
            Check.due("productOf(0, 0) without bids", 123, () -> x.productOf(0, 0));
            Check.due("productOf(0, 1) without bids", Edge.WRONG, () -> x.productOf(0, 1));
            Check.due("productOf(1, 1) without bids", Edge.WRONG, () -> x.productOf(1, 1));
            Edge.play(x, 0, 0);
            Edge.play(x, 0, 0);
            Check.due("productOf(0, 0)", 123, () -> x.productOf(0, 0));
            Check.due("productOf(0, 1)", 231, () -> x.productOf(0, 1));
            Check.due("productOf(0, 2)", 132, () -> x.productOf(0, 2));
            Check.due("productOf(1, 1)", 123, () -> x.productOf(1, 1));
            Check.due("productOf(1, 2)", 213, () -> x.productOf(1, 2));
            Check.due("productOf(2, 2)", 123, () -> x.productOf(2, 2));
        });
        Check.sentence("Returns the product of the elements of the bids at the places from to to - 1.", () -> {
            GroupBids x = Check.loaded("group 4;player 99;card 0 2341 1;card 0 2134 1;card 0 3142 1;card 0 1243 1;"
                    + "lot 5;");
            for (int bid = 0; bid < 4; bid++) {
                Edge.play(x, 0, 0);
            }
            // 2134 takes 1 to 2, which 3142 takes to 1, and so on; the other bids do not count
            Check.due("productOf(1, 3)", 1342, () -> x.productOf(1, 3));
            Check.due("productOf(3, 4)", 1243, () -> x.productOf(3, 4));
            Check.due("productOf(3, 3)", 1234, () -> x.productOf(3, 3));
        });
        Check.sentence("Throws `IllegalArgumentException` if from or to is out of range", () -> {
            GroupBids x = Check.loaded("group 3;player 99;card 0 231 1;card 0 213 2;lot 5;");
            Edge.play(x, 0, 0);
            Edge.play(x, 0, 0);
            int[][] wrong = {{-1, -1}, {-1, 0}, {-1, 2}, {0, -1}, {1, 0}, {2, 1}, {2, 0}, {0, 3}, {2, 3}, {3, 3}, {3,
                    4}, {3, 2},
                {Integer.MIN_VALUE, 0}, {0, Integer.MAX_VALUE}, {0, Integer.MIN_VALUE}, {Integer.MAX_VALUE, 0},
                {Integer.MIN_VALUE, Integer.MAX_VALUE}, {Integer.MAX_VALUE, Integer.MAX_VALUE}};
            for (int[] places : wrong) {
                Edge.keeps(x, "productOf(" + places[0] + ", " + places[1] + ")", Edge.WRONG,
                        () -> x.productOf(places[0], places[1]));
            }
        });
    }

    private static void elements() {
        Check.sentence("Returns the product of first and second.", () -> {
            GroupBids x = Check.loaded("group 5;");
            Check.due("multiply(12345, 12345)", 12345, () -> x.multiply(12345, 12345));
            Check.due("multiply(54321, 12345)", 54321, () -> x.multiply(54321, 12345));
            Check.due("multiply(12345, 54321)", 54321, () -> x.multiply(12345, 54321));
            Check.due("multiply(54321, 54321)", 12345, () -> x.multiply(54321, 54321));
            Check.due("multiply(23451, 21345)", 13452, () -> x.multiply(23451, 21345));
        });
        Check.sentence("Throws `IllegalArgumentException` if first or second is no element", () -> {
            GroupBids x = Check.loaded("group 4;");
            for (int none : new int[] {0, 123, 1233, 1235, 2340, 4322, 12345, -1234, Integer.MAX_VALUE,
                    Integer.MIN_VALUE}) {
                Check.due("multiply(" + none + ", 1234)", Edge.WRONG, () -> x.multiply(none, 1234));
                Check.due("multiply(1234, " + none + ")", Edge.WRONG, () -> x.multiply(1234, none));
                Check.due("multiply(" + none + ", " + none + ")", Edge.WRONG, () -> x.multiply(none, none));
            }
        });
        Check.sentence("Returns its inverse.", () -> {
            GroupBids x = new GroupBids();
            Check.due("inverse(12)", 12, () -> x.inverse(12));
            Check.due("inverse(21)", 21, () -> x.inverse(21));
        });
        Check.sentence("Returns its order.", () -> {
            GroupBids x = new GroupBids();
            Check.due("order(12)", 1, () -> x.order(12));
            Check.due("order(21)", 2, () -> x.order(21));
        });
    }

    private static void give() {
        Check.sentence("Gives a player a card, behind its other ones.", () -> {
            GroupBids x = Check.loaded("group 3;player 5;player 5;");
            Edge.give(x, 1, 231, 9, 1);
            Edge.give(x, 1, 123, 8, 2);
            Edge.give(x, 1, 213, 7, 3);
            x.discard(1, 0);
            Edge.give(x, 1, 321, 6, 3);
            Edge.cards(x, 1, 123, 213, 321);
            Edge.cards(x, 0);
            Check.due("card(1, 2, 1)", 6, () -> x.card(1, 2, 1));
        });
        Check.sentence("`base`: its base price, 1 to 999", () -> {
            GroupBids x = Check.loaded("group 3;player 5;");
            Edge.give(x, 0, 123, 1, 1);
            Edge.give(x, 0, 123, 999, 2);
            Check.due("card(0, 0, 1)", 1, () -> x.card(0, 0, 1));
            Check.due("card(0, 1, 1)", 999, () -> x.card(0, 1, 1));
        });
        Check.sentence("Returns the number of its cards then.", () -> {
            GroupBids x = Check.loaded("group 3;player 5;player 5;card 1 123 1;");
            for (int cards = 1; cards <= 8; cards++) {
                Edge.give(x, 0, 231, 1, cards);
            }
            Edge.give(x, 1, 231, 1, 2);
        });
        Check.sentence("Throws `IllegalArgumentException` if it is no element, or base is out of range", () -> {
            GroupBids x = Check.loaded("group 3;player 5;card 0 231 4;");
            for (int none : new int[] {0, 12, 122, 124, 1234, -123, Integer.MAX_VALUE, Integer.MIN_VALUE}) {
                Edge.keeps(x, "give(0, " + none + ", 1)", Edge.WRONG, () -> x.give(0, none, 1));
            }
            for (int base : new int[] {Integer.MIN_VALUE, -1, 0, 1000, Integer.MAX_VALUE}) {
                Edge.keeps(x, "give(0, 123, " + base + ")", Edge.WRONG, () -> x.give(0, 123, base));
            }
            Edge.undo(x, 0);
        });
        Check.sentence("Throws `IllegalStateException` if the player has 8 cards", () -> {
            GroupBids x = Check.loaded("group 3;player 5;player 5;" + Edge.times(7, "card 0 123 1;") + "lot 5;");
            Edge.give(x, 0, 231, 1, 8);
            Edge.keeps(x, "give(0, 231, 1)", Edge.REFUSES, () -> x.give(0, 231, 1));
            Edge.give(x, 1, 231, 1, 1);
            // a card that went makes room for one
            Edge.play(x, 7, 0);
            Edge.give(x, 0, 231, 1, 8);
            Edge.keeps(x, "give(0, 231, 1)", Edge.REFUSES, () -> x.give(0, 231, 1));
            Check.due("discard(0, 0)", 123, () -> x.discard(0, 0));
            Edge.give(x, 0, 231, 1, 8);
        });
    }

    private static void discard() {
        Check.sentence("Takes a card from a player; it goes.", () -> {
            GroupBids x = Check.loaded("group 3;player 5;player 6;card 0 231 4;card 0 213 3;card 1 123 3;lot 5;");
            Check.due("discard(0, 1)", 213, () -> x.discard(0, 1));
            Edge.cards(x, 0, 231);
            Check.due("discard(0, 0)", 231, () -> x.discard(0, 0));
            Edge.cards(x, 0);
            Edge.cards(x, 1, 123);
            // it costs nothing, is nobody's turn, and no bid
            Edge.purse(x, 0, 5);
            Edge.states(x, 3, 2, 1, 0, 0, 0, 0, 0, 0);
        });
        Check.sentence("Returns its element.", () -> {
            GroupBids x = Check.loaded("group 5;player 5;card 0 54321 4;card 0 12345 3;");
            Check.due("discard(0, 1)", 12345, () -> x.discard(0, 1));
            Check.due("discard(0, 0)", 54321, () -> x.discard(0, 0));
        });
        Check.sentence("Throws `IndexOutOfBoundsException` if there is no such player Throws `NoSuchElementException` "
                + "if there is no such card", () -> {
            GroupBids x = Check.loaded("group 3;player 5;player 6;" + Edge.times(8, "card 0 231 4;") + "card 1 123 3;");
            for (int far : new int[] {-1, 8, 9, Integer.MAX_VALUE, Integer.MIN_VALUE}) {
                Edge.keeps(x, "discard(0, " + far + ")", Edge.NO_SUCH, () -> x.discard(0, far));
                Edge.keeps(x, "discard(" + far + ", 0)", Edge.NO_PLAYER, () -> x.discard(far, 0));
                Edge.keeps(x, "card(0, " + far + ", 0)", Edge.NO_SUCH, () -> x.card(0, far, 0));
                Edge.keeps(x, "card(" + far + ", 0, 0)", Edge.NO_PLAYER, () -> x.card(far, 0, 0));
            }
            Edge.keeps(x, "discard(1, 1)", Edge.NO_SUCH, () -> x.discard(1, 1));
            Check.due("discard(1, 0)", 123, () -> x.discard(1, 0));
            Edge.keeps(x, "discard(1, 0) without cards", Edge.NO_SUCH, () -> x.discard(1, 0));
            Edge.keeps(x, "card(1, 0, 0) without cards", Edge.NO_SUCH, () -> x.card(1, 0, 0));
        });
    }

    private static void checksum() {
        Check.sentence("It starts at 0; each number n in the following order replaces it by 31 * checksum + n, "
                + "wrapping around on overflow of a long:", () -> {
            sum(new GroupBids(), 2, 0, 0, -1, -1, 0, 0, 0, 0, 12);
            sum(Check.loaded("group 5;"), 5, 0, 0, -1, -1, 0, 0, 0, 0, 12345);
            // 13 numbers and more are above a long
            sum(Check.loaded("group 5;player 99999;lot 9999;"), 5, 1, 1, 0, 0, 0, 0, 0, 0, 99999, 0, 0, 12345);
            sum(Check.loaded("group 5;player 1;player 2;lot 9999;"), 5, 2, 1, 0, 0, 0, 0, 0, 0, 1, 0, 0, 2, 0, 0,
                    12345);
            sum(Check.loaded("group 4;" + Edge.times(5, "player 99999;")), 4, 5, 0, -1, -1, 0, 0, 0, 0, 99999, 0, 0,
                    99999, 0, 0,
                    99999, 0, 0, 99999, 0, 0, 99999, 0, 0, 1234);
        });
        Check.sentence("state(0) to state(8); for each player what player(int, int) tells of it for 0 to 2, and then, "
                + "for each of its cards, what card(int, int, int) tells for 0 to 2; for each bid what bid(int, int) "
                + "tells for 0 to 2; then product().", () -> {
            GroupBids x = Check.loaded("group 3;player 20;player 30;card 0 231 5;card 0 132 4;card 1 213 6;"
                    + "card 0 321 7;lot 9;lot 8;price base+bids;");
            Edge.pass(x, 0);
            Edge.pass(x, 1);
            sum(x, 3, 2, 2, 1, 0, 0, 0, 0, 0, 20, 3, 0, 231, 5, 5, 132, 4, 4, 321, 7, 7, 30, 1, 0, 213, 6, 6, 123);
            Edge.play(x, 0, 0);
            Edge.play(x, 0, 0);
            Edge.pass(x, 0);
            sum(x, 3, 2, 2, 1, 1, 2, 12, 1, 0, 15, 2, 0, 132, 4, 6, 321, 7, 9, 23, 0, 0, 0, 231, 5, 1, 213, 7, 132);
            Edge.pass(x, 1);
            sum(x, 3, 2, 2, -1, -1, 0, 0, 0, 12, 15, 2, 0, 132, 4, 4, 321, 7, 7, 23, 0, 0, 123);
        });
    }

    private static void sum(GroupBids x, int... numbers) {
        BigInteger sum = BigInteger.ZERO;
        for (int number : numbers) {
            sum = sum.multiply(BigInteger.valueOf(31)).add(BigInteger.valueOf(number));
        }
        Check.due("checksum()", sum.longValue(), x::checksum);
    }
}

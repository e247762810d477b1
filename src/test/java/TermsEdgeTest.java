import java.util.Arrays;

/** The edges that "What it is" and the terms up to "Prices" name: a test for each sentence. */
public final class TermsEdgeTest {
    private static final String[] GROUPS = {"", "", "group 2;", "group 3;", "group 4;", "group 5;"};

    public static void main(String[] args) {
        whatItIs();
        conventions();
        groups();
        neutralInverseOrder();
        players();
        purses();
        cards();
        cardsThatGo();
        lots();
        over();
        row();
        prices();
        limitedResults();
        Check.end();
    }

    private static void whatItIs() {
        Check.sentence("An object is used for at most 512 calls after it has been made", () -> {
            cardsUpToTheLastCall();
            loadsUpToTheLastCall();
            handsUpToTheLastCall();
        });
    }

    private static void cardsUpToTheLastCall() {
        GroupBids x = new GroupBids();
        Check.due("call 1: append", 20, () -> Check.append(x, Check.bytesOf("group2;player9;lot9;"), 0));
        Check.due("call 2: load(20)", 1, () -> x.load(20));
        for (int call = 3; call <= 511; call += 2) {
            Check.due("call " + call + ": give", 1, () -> x.give(0, 21, 5));
            Check.due("call " + (call + 1) + ": discard", 21, () -> x.discard(0, 0));
        }
    }

    private static void loadsUpToTheLastCall() {
        GroupBids x = new GroupBids();
        byte[] text = Check.bytesOf("group5;price 1+base;");
        for (int call = 1; call <= 511; call += 2) {
            Check.due("call " + call + ": append", 20, () -> Check.append(x, text, 0));
            Check.due("call " + (call + 1) + ": load(20)", 0, () -> x.load(20));
        }
    }

    private static void handsUpToTheLastCall() {
        GroupBids x = new GroupBids();
        Check.due("call 1: append", 20, () -> Check.append(x, Check.bytesOf("group5;player9;lot9;"), 0));
        Check.due("call 2: load(20)", 1, () -> x.load(20));
        int[] hand = {23451, 21345, 23451, 21345, 13254, 34512, 52341, 12354};
        for (int i = 0; i < 8; i++) {
            int element = hand[i];
            Check.due("call " + (3 + i) + ": give", i + 1, () -> x.give(0, element, 1));
        }
        for (int call = 11; call <= 512; call++) {
            Check.due("call " + call + ": reach(0)", 120, () -> x.reach(0));
        }
    }

    private static void conventions() {
        Check.sentence("Division truncates toward zero.", () -> {
            priced("7/2", 3);
            priced("5+(0-7)/2", 2);
            priced("5+7/(0-2)", 2);
            priced("(0-7)/(0-2)", 3);
            priced("5+(0-1)/2", 5);
            priced("5+1/(0-2)", 5);
        });
        Check.sentence("A number that is limited to a range becomes the nearer bound if it is outside of it.", () -> {
            priced("0-1", 0);
            priced("9999+1", 9999);
            priced("0-9999*9999", 0);
            priced("9999*9999", 9999);
        });
    }

    /** The price of a card with the base price 7 and the order 3, without bids. */
    private static void priced(String rule, int want) {
        GroupBids x = Check.loaded("group 3;player 50;card 0 231 7;lot 1;price " + rule + ";");
        Check.due("price " + rule, want, () -> x.card(0, 0, 2));
    }

    private static void groups() {
        Check.sentence("The group consists of all permutations of the points 1 to n (n is 2 to 5).", () -> {
            Edge.bad("group 1;", Edge.RANGE, 6);
            everyElement(2, 2, 21, 21);
            everyElement(3, 6, 231, 213);
            everyElement(4, 24, 2341, 2134);
            everyElement(5, 120, 23451, 21345);
            Edge.bad("group 6;", Edge.RANGE, 6);
        });
        Check.sentence("An element is told as a number with n digits, in which each of the digits 1 to n stands "
                + "once", () -> {
            for (int n = 2; n <= 5; n++) {
                everyNumber(n, -1, (int) Math.pow(10, n) * 6 / 5 + 2);
                everyNumber(n, -Edge.neutral(n) - 1, -Edge.neutral(n) + 1);
                everyNumber(n, -54321, -54321);
                everyNumber(n, 1234567890, 1234567890);
                everyNumber(n, Integer.MAX_VALUE, Integer.MAX_VALUE);
                everyNumber(n, Integer.MIN_VALUE, Integer.MIN_VALUE);
            }
        });
        Check.sentence("its k-th digit is the point to which the point k goes.", () -> {
            // 2341 takes 1 to 2, 2 to 3, 3 to 4 and 4 to 1: written twice, it takes 1 to 3 and 4 to 2
            GroupBids x = Check.loaded("group 4;");
            Check.due("multiply(2341, 2341)", 3412, () -> x.multiply(2341, 2341));
            Check.due("inverse(2341)", 4123, () -> x.inverse(2341));
        });
        Check.sentence("The product of a and b (in this order) takes each point where b takes the point to which a "
                + "takes it.", () -> {
            GroupBids x = Check.loaded("group 3;");
            Check.due("multiply(231, 213)", 132, () -> x.multiply(231, 213));
            Check.due("multiply(213, 231)", 321, () -> x.multiply(213, 231));
        });
    }

    /** Both generators make the whole group, and no element beside it. */
    private static void everyElement(int n, int count, int first, int second) {
        GroupBids x = Check.loaded(GROUPS[n] + "player 1;");
        Check.due("state(0)", n, () -> x.state(0));
        x.give(0, first, 1);
        x.give(0, second, 1);
        Check.due("generated(0) in " + GROUPS[n], count, () -> x.generated(0));
    }

    private static void everyNumber(int n, int from, int to) {
        GroupBids x = Check.loaded(GROUPS[n]);
        for (long number = from; number <= to; number++) {
            if ((number - from) % 500 == 499) {
                x = Check.loaded(GROUPS[n]);
            }
            GroupBids y = x;
            int told = (int) number;
            boolean known = isElement(told, n);
            Check.due(GROUPS[n] + " multiply(" + told + ", neutral)", known ? told : Edge.WRONG,
                    () -> y.multiply(told, Edge.neutral(n)));
        }
    }

    private static boolean isElement(int number, int n) {
        char[] digits = String.valueOf(number).toCharArray();
        Arrays.sort(digits);
        return new String(digits).equals("12345".substring(0, n));
    }

    private static void neutralInverseOrder() {
        Check.sentence("The neutral element takes each point to itself.", () -> {
            for (int n = 2; n <= 5; n++) {
                GroupBids x = Check.loaded(GROUPS[n]);
                Check.due("product() in " + GROUPS[n], Edge.neutral(n), x::product);
            }
        });
        Check.sentence("The inverse of an element is the one with which its product is neutral.", () -> {
            inverse(2, 12, 12);
            inverse(2, 21, 21);
            inverse(3, 231, 312);
            inverse(4, 1234, 1234);
            inverse(4, 4321, 4321);
            inverse(5, 12345, 12345);
            inverse(5, 54321, 54321);
            inverse(5, 23451, 51234);
            inverse(5, 23154, 31254);
        });
        Check.sentence("The order of an element is the smallest number of times, 1 or more, that it must be written "
                + "to have a neutral product.", () -> {
            order(2, 12, 1);
            order(2, 21, 2);
            order(3, 123, 1);
            order(3, 312, 3);
            order(4, 1234, 1);
            order(4, 4123, 4);
            order(5, 12345, 1);
            order(5, 12354, 2);
            order(5, 51234, 5);
            order(5, 31254, 6);
        });
    }

    private static void inverse(int n, int element, int want) {
        GroupBids x = Check.loaded(GROUPS[n]);
        Check.due("inverse(" + element + ")", want, () -> x.inverse(element));
        Check.due("multiply with " + want, Edge.neutral(n), () -> x.multiply(element, want));
    }

    private static void order(int n, int element, int want) {
        GroupBids x = Check.loaded(GROUPS[n]);
        Check.due("order(" + element + ")", want, () -> x.order(element));
    }

    private static void players() {
        Check.sentence("There are at most 5 players, with indexes from 0.", () -> {
            GroupBids none = Edge.good("group 2;lot 1;", 0);
            Check.due("player(0, 0) of none", Edge.NO_PLAYER, () -> none.player(0, 0));
            String five = "group 2;player 10;player 11;player 12;player 13;player 14;";
            GroupBids x = Edge.good(five, 5);
            for (int player = 0; player < 5; player++) {
                Edge.purse(x, player, 10 + player);
            }
            Check.due("player(5, 0)", Edge.NO_PLAYER, () -> x.player(5, 0));
            Check.due("player(-1, 0)", Edge.NO_PLAYER, () -> x.player(-1, 0));
            Edge.bad(five + "player 15;", Edge.MANY, 58);
        });
        Check.sentence("a player whose turn it is (player 0 for lot 0)", () -> {
            String text = "group 2;player 1;player 2;player 3;lot 1;lot 2;";
            GroupBids x = Edge.good(text, 3);
            Edge.states(x, 2, 3, 2, 0, 0);
            Edge.pass(x, 0);
            Edge.state(x, 4, 1);
            Check.load(x, text);
            Edge.states(x, 2, 3, 2, 0, 0);
        });
    }

    private static void purses() {
        Check.sentence("A player has a purse (0 to 99999 at first;", () -> {
            GroupBids x = Edge.good("group 2;player 0;player 99999;", 2);
            Edge.purse(x, 0, 0);
            Edge.purse(x, 1, 99999);
            Edge.bad("group 2;player 100000;", Edge.RANGE, 15);
        });
        Check.sentence("limited to 0 to 999999 whenever something is paid into it)", () -> {
            // an empty purse, and one that holds nearly all the money that there can be in an auction: the upper
            // limit stands above all money, so what is to be seen is that nothing below it is cut
            GroupBids x = Check.loaded("group 2;player 5;card 0 12 5;lot 1;lot 1;price base;");
            Edge.play(x, 0, 1);
            Edge.purse(x, 0, 6);
            GroupBids y = Check.loaded("group 2;player 5;player 5;card 0 21 5;card 1 21 5;lot 1;");
            Edge.play(y, 0, 0);
            Edge.purse(y, 0, 0);
            Edge.cancel(y, 0, 0, 0);
            Edge.purse(y, 0, 5);
            Edge.purse(y, 1, 0);
            // what is paid may be nothing
            GroupBids z = Check.loaded("group 2;player 0;card 0 21 5;card 0 21 5;lot 1;price 0;");
            Edge.play(z, 0, 0);
            Edge.cancel(z, 0, 0, 0);
            Edge.purse(z, 0, 0);
            nearlyAllMoney();
        });
    }

    /** Player 0 wins all lots; the other four pay all that they can into the pots of the first three, 9999 a bid. */
    private static void nearlyAllMoney() {
        GroupBids x = Check.loaded("group 2;price 9999;" + Edge.times(5, "player 99999;")
                + Edge.times(12, "lot 9999;"));
        int[] purses = {99999, 99999, 99999, 99999, 99999};
        int turn = 0;
        for (int lot = 0; lot < 12; lot++) {
            int bids = 0;
            for (boolean sold = false; !sold; turn = (turn + 1) % 5) {
                boolean ends = bids == 19 || Arrays.stream(purses, 1, 5).max().getAsInt() < 9999;
                if (turn == 0 && ends) {
                    x.give(0, bids == 0 ? 12 : 21, 1);
                    Edge.play(x, 0, 1);
                    sold = true;
                } else if (turn != 0 && !ends && purses[turn] >= 9999) {
                    x.give(turn, bids == 0 ? 21 : 12, 1);
                    Edge.play(x, 0, 0);
                    purses[turn] -= 9999;
                    bids++;
                } else {
                    Edge.pass(x, 0);
                }
            }
        }
        Edge.state(x, 3, -1);
        Edge.wins(x, 0, 12);
        Edge.purse(x, 0, 5 * 99999 + 12 * 9999 - 4 * 9);
        for (int player = 1; player < 5; player++) {
            Edge.purse(x, player, 9);
        }
    }

    private static void cards() {
        Check.sentence("at most 8 cards, which have places from 0.", () -> {
            String eight = "card 0 123 1;card 0 132 2;card 0 213 3;card 0 231 4;card 0 312 5;card 0 321 6;"
                    + "card 0 123 7;card 0 132 8;";
            GroupBids x = Edge.good("group 3;player 1;" + eight, 1);
            Edge.cards(x, 0, 123, 132, 213, 231, 312, 321, 123, 132);
            for (int card : new int[] {-1, 8, 9, Integer.MAX_VALUE, Integer.MIN_VALUE}) {
                Check.due("card(0, " + card + ", 0)", Edge.NO_SUCH, () -> x.card(0, card, 0));
            }
            Check.due("give(0, 123, 1)", Edge.REFUSES, () -> x.give(0, 123, 1));
            Edge.bad("group 3;player 1;" + eight + "card 0 123 9;", Edge.MANY, 17 + 8 * 13 + 5);
        });
        Check.sentence("A card has an element and a base price (1 to 999).", () -> {
            GroupBids x = Edge.good("group 2;player 1;card 0 12 1;card 0 21 999;", 1);
            Check.due("card(0, 0, 1)", 1, () -> x.card(0, 0, 1));
            Check.due("card(0, 1, 1)", 999, () -> x.card(0, 1, 1));
            Edge.bad("group 2;player 1;card 0 12 0;", Edge.RANGE, 27);
            Edge.bad("group 2;player 1;card 0 12 1000;", Edge.RANGE, 27);
        });
    }

    private static void cardsThatGo() {
        Check.sentence("If a card goes, the places of the cards behind it become smaller by 1.", () -> {
            String text = "group 3;player 99;card 0 231 1;card 0 132 2;card 0 213 3;card 0 312 4;card 0 321 5;lot 9;";
            GroupBids x = Check.loaded(text);
            Check.due("discard(0, 0), the first", 231, () -> x.discard(0, 0));
            Edge.cards(x, 0, 132, 213, 312, 321);
            Check.due("card(0, 0, 1)", 2, () -> x.card(0, 0, 1));
            Check.due("discard(0, 3), the last", 321, () -> x.discard(0, 3));
            Edge.cards(x, 0, 132, 213, 312);
            GroupBids y = Check.loaded(text);
            Edge.play(y, 2, 0);
            Edge.cards(y, 0, 231, 132, 312, 321);
            Check.due("card(0, 2, 1)", 4, () -> y.card(0, 2, 1));
            Edge.play(y, 0, 0);
            Edge.cards(y, 0, 132, 312, 321);
            Edge.cancel(y, 1, 1, 0);
            Edge.cards(y, 0, 132, 321);
            Check.due("card(0, 1, 1)", 5, () -> y.card(0, 1, 1));
        });
    }

    private static void lots() {
        Check.sentence("There are at most 12 lots, with indexes from 0, each with a value (1 to 9999).", () -> {
            String twelve = "lot 9999;lot 1;lot 9998;" + Edge.times(9, "lot 2;");
            GroupBids x = Edge.good("group 2;player 0;" + twelve, 1);
            Edge.state(x, 2, 12);
            for (int lot = 0; lot < 12; lot++) {
                Edge.state(x, 3, lot);
                Edge.pass(x, 1);
            }
            Edge.state(x, 3, -1);
            Edge.bad("group 2;player 0;" + twelve + "lot 3;", Edge.MANY, 17 + 24 + 54);
            Edge.bad("group 2;lot 0;", Edge.RANGE, 12);
            Edge.bad("group 2;lot 10000;", Edge.RANGE, 12);
        });
        Check.sentence("They are sold in this order; the present lot is lot 0 at first.", () -> {
            GroupBids x = Edge.good("group 2;player 0;lot 9999;lot 1;lot 20;price 0;", 1);
            int[] purses = {9999, 10000, 10020};
            for (int lot = 0; lot < 3; lot++) {
                Edge.state(x, 3, lot);
                Edge.bidWith(x, 12, 1, 1);
                Edge.purse(x, 0, purses[lot]);
            }
            Edge.state(x, 3, -1);
        });
    }

    private static void over() {
        Check.sentence("The auction is over if there is no present lot any more, or if there are no players.", () -> {
            Edge.states(Edge.good("group 2;", 0), 2, 0, 0, -1, -1, 0, 0, 0, 0);
            Edge.states(Edge.good("group 2;lot 5;", 0), 2, 0, 1, -1, -1, 0, 0, 0, 0);
            Edge.states(Edge.good("group 2;player 5;", 1), 2, 1, 0, -1, -1, 0, 0, 0, 0);
            GroupBids sold = Edge.good("group 2;player 5;card 0 12 5;lot 5;", 1);
            Edge.states(sold, 2, 1, 1, 0, 0, 0, 0, 0, 0);
            Edge.play(sold, 0, 1);
            Edge.states(sold, 2, 1, 1, -1, -1, 0, 0, 0, 0);
            GroupBids withdrawn = Edge.good("group 2;player 5;player 6;lot 5;", 2);
            Edge.pass(withdrawn, 0);
            Edge.states(withdrawn, 2, 2, 1, 0, 1, 0, 0, 1, 0);
            Edge.pass(withdrawn, 1);
            Edge.states(withdrawn, 2, 2, 1, -1, -1, 0, 0, 0, 0);
        });
    }

    private static void row() {
        Check.sentence("For the present lot there is a row of at most 20 bids, with places from 0,", () -> {
            GroupBids x = Check.loaded("group 5;player 9999;lot 1;price 0;");
            Edge.bidWith(x, 21345, 1, 0);
            for (int bid = 1; bid < 20; bid++) {
                Check.due("bid(" + bid + ", 0)", Edge.NO_SUCH, () -> x.bid(x.state(5), 0));
                Edge.bidWith(x, 12345, 1, 0);
                Edge.state(x, 5, bid + 1);
            }
            Edge.bid(x, 0, 0, 21345, 0);
            Edge.bid(x, 19, 0, 12345, 0);
            for (int bid : new int[] {-1, 20, 21, Integer.MAX_VALUE, Integer.MIN_VALUE}) {
                Check.due("bid(" + bid + ", 0)", Edge.NO_SUCH, () -> x.bid(bid, 0));
            }
            Edge.bidWith(x, 12345, 1, -1);
            Edge.state(x, 5, 20);
        });
        Check.sentence("At first the row is empty, the pot is 0, and there are no passes.", () -> {
            GroupBids x = Check.loaded("group 3;player 9;player 9;card 0 231 2;lot 1;");
            Edge.states(x, 3, 2, 1, 0, 0, 0, 0, 0, 0);
            Edge.row(x);
            Edge.play(x, 0, 0);
            Edge.pass(x, 0);
            Check.load(x, "group 2;player 9;lot 1;");
            Edge.states(x, 2, 1, 1, 0, 0, 0, 0, 0, 0);
            Edge.row(x);
        });
        Check.sentence("The product is that of the elements of all bids, in the order of their places (neutral "
                + "without bids).", () -> {
            GroupBids x = Check.loaded("group 3;player 9;card 0 231 1;card 0 213 1;card 0 231 1;lot 1;");
            Check.due("product() without bids", 123, x::product);
            Edge.play(x, 0, 0);
            Check.due("product() of one bid", 231, x::product);
            Edge.play(x, 0, 0);
            Check.due("product() of two bids", 132, x::product);
            Edge.play(x, 0, 0);
            Check.due("product() of three bids", 213, x::product);
        });
    }

    private static void prices() {
        Check.sentence("The price of a card is the value of the price expression at the present time, limited to the "
                + "range 0 to 9999.", () -> {
            priced("0", 0);
            priced("0-1", 0);
            priced("9999", 9999);
            priced("9998+1", 9999);
            priced("9999+1", 9999);
            GroupBids x = Check.loaded("group 3;player 99;card 0 231 7;card 0 132 8;lot 1;price base+10*bids+pot;");
            Edge.price(x, 0, 1, 8);
            Edge.play(x, 0, 0);
            Edge.price(x, 0, 0, 8 + 10 + 7);
            Edge.undo(x, 1);
            Edge.price(x, 0, 1, 8);
        });
        Check.sentence("In the expression, base is its base price, order the order of its element, bids the number of "
                + "bids, and pot the pot.", TermsEdgeTest::variables);
        Check.sentence("Division by 0 gives 0.", () -> {
            priced("base/0", 0);
            priced("0/0", 0);
            priced("(0-7)/0+3", 3);
            priced("5+base/bids", 5);
            priced("5+9999*9999/pot", 5);
            priced("base/(order-3)*9+4", 4);
        });
        Check.sentence("Without a price statement the value is base.", () -> {
            GroupBids x = Check.loaded("group 3;player 99;card 0 231 1;card 0 132 999;lot 1;");
            Edge.price(x, 0, 0, 1);
            Edge.price(x, 0, 1, 999);
            Check.load(x, "group 3;player 99;card 0 231 1;lot 1;price 50;");
            Edge.price(x, 0, 0, 50);
            Check.load(x, "group 3;player 99;card 0 231 999;lot 1;");
            Edge.price(x, 0, 0, 999);
        });
    }

    private static void variables() {
        Edge.price(Check.loaded("group 5;player 1;card 0 12345 999;price base;"), 0, 0, 999);
        Edge.price(Check.loaded("group 5;player 1;card 0 12345 9;price order;"), 0, 0, 1);
        Edge.price(Check.loaded("group 5;player 1;card 0 23154 9;price order;"), 0, 0, 6);
        GroupBids x = Check.loaded("group 2;player 190;lot 1;price bids;");
        x.give(0, 21, 9);
        for (int bids = 0; bids < 20; bids++) {
            Edge.price(x, 0, 0, bids);
            Edge.play(x, 0, 0);
            x.give(0, 12, 9);
        }
        Edge.price(x, 0, 0, 20);
        Edge.purse(x, 0, 0);
        GroupBids y = Check.loaded("group 3;player 99;lot 1;price pot+base;card 0 231 3;card 0 132 4;card 0 213 5;");
        Edge.price(y, 0, 0, 3);
        Edge.play(y, 0, 0);
        Edge.price(y, 0, 0, 7);
        Edge.play(y, 0, 0);
        Edge.price(y, 0, 0, 3 + 7 + 5);
    }

    private static void limitedResults() {
        Check.sentence("The operations of one sum or term are made from the left to the right;", () -> {
            priced("10-3-2", 5);
            priced("10-3+2", 9);
            priced("100/10/5", 2);
            priced("100/10*5", 50);
            priced("7/2*2", 6);
            priced("2*7/2", 7);
            priced("10-(3-2)", 9);
            priced("100/(10/5)", 50);
        });
        Check.sentence("the result of each one is limited to the range -1000000 to 1000000.", () -> {
            // 1000000 - 999900 is 100
            priced("1000*1000-9999*100", 100);
            priced("1000*1000-1-9999*100", 99);
            priced("1000*1000+1-9999*100", 100);
            priced("1001*1000-9999*100", 100);
            priced("1000*1000-(0-1)-9999*100", 100);
            priced("(0-1000)*1000+9999*100+101", 1);
            priced("0-1000*1000+1+9999*100+101", 2);
            priced("0-1000*1000-1+9999*100+101", 1);
            priced("(0-1001)*1000+9999*100+101", 1);
            priced("0-1000*1000+(0-1)+9999*100+101", 1);
            // such a result times such a result is above every int
            priced("1000*1000*(1000*1000)/1000", 1000);
            priced("(0-1000*1000)*(1000*1000)/1000+1001", 1);
            priced("(0-1000*1000)*(0-1000*1000)/1000", 1000);
        });
    }
}

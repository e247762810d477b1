/** The edges that "Setup text" names: a test for each sentence. */
public final class SetupEdgeTest {
    private static final int SYNTAX = Edge.SYNTAX;
    private static final int RANGE = Edge.RANGE;
    private static final int MANY = Edge.MANY;
    private static final int DEEP = Edge.DEEP;
    private static final String FIVE = "group 2;" + Edge.times(5, "player 1;");
    private static final String TWELVE = "group 2;" + Edge.times(12, "lot 1;");
    private static final String EIGHT = "group 2;player 1;player 1;" + Edge.times(8, "card 0 21 1;");

    public static void main(String[] args) {
        buffer();
        grammar();
        runs();
        spaces();
        numbers();
        parentheses();
        onePrice();
        firstError();
        Check.sentence("SYNTAX_ERROR: a token or byte that the grammar does not allow here, at its first byte;",
                SetupEdgeTest::wrongTokens);
        Check.sentence("the end of the text, at its length, if the text ends too early;", SetupEdgeTest::earlyEnds);
        Check.sentence("a second price, at its first letter.", () -> {
            Edge.bad("group 2;price 1;price 2;", SYNTAX, 16);
            Edge.bad("group 2;price 1;   price 2;", SYNTAX, 19);
            Edge.bad("group 2;price 1;lot 1;player 1;price", SYNTAX, 31);
        });
        Check.sentence("OUT_OF_RANGE: a number outside its range, or one that is no element where an element must "
                + "stand, at its first digit.", SetupEdgeTest::wrongNumbers);
        tooMany();
        Check.sentence("TOO_DEEP: an opening parenthesis inside 4 others, at that parenthesis.", () -> {
            Edge.bad("group 2;price (((((1)))));", DEEP, 18);
            Edge.bad("group 2;price (((( (", DEEP, 19);
            Edge.bad("group 2;price 1+(2*(3-(4/(5+(6)))));", DEEP, 28);
            Edge.bad("group 2;price ((((1))))*((((1+(2)))));", DEEP, 30);
            Edge.bad("group 2;price (((((", DEEP, 18);
        });
        Check.end();
    }

    private static void buffer() {
        Check.sentence("The setup text is read from an input buffer of at most 700 bytes.", () -> {
            // the last byte of 700 is read, and counts
            String text = "group 2;lot 1;";
            Edge.state(Edge.good(text + " ".repeat(679) + "lot 12;", 0), 2, 2);
            Edge.good(text + " ".repeat(686), 0);
            Edge.bad(text + " ".repeat(685) + "?", SYNTAX, 699);
            Edge.bad(text + " ".repeat(679) + "lot 12 ", SYNTAX, 700);
            Edge.bad(text + " ".repeat(679) + "lot 123", SYNTAX, 700);
            Edge.bad(text + " ".repeat(681) + "playe", SYNTAX, 695);
            Edge.bad(" ".repeat(700), SYNTAX, 700);
            Edge.bad("z".repeat(700), SYNTAX, 0);
            Edge.bad("9".repeat(700), SYNTAX, 0);
            Edge.bad("group" + "0".repeat(694) + "2", SYNTAX, 700);
            Edge.bad("group" + "9".repeat(695), RANGE, 5);
            Edge.bad("group 2;price " + "(".repeat(686), DEEP, 18);
            // as many operations as there is room for, and as many statements
            String sum = "group2;price " + "1+".repeat(342) + "1;";
            Check.due("length", 699, sum::length);
            Edge.good(sum, 0);
            GroupBids x = Edge.good("group2;player0;card0 12 1;price " + "1+".repeat(333) + "1;", 1);
            Edge.price(x, 0, 0, 334);
        });
    }

    private static void grammar() {
        Check.sentence("setup = \"group\" number \";\" { statement \";\" }", () -> {
            Edge.states(Edge.good("group 2;", 0), 2, 0, 0);
            Edge.good("group 3;lot 1;player 1;price 1;card 0 123 1;lot 2;player 2;card 1 321 1;card 0 132 1;", 2);
            Edge.bad("", SYNTAX, 0);
            Edge.bad(";", SYNTAX, 0);
            Edge.bad("lot 1;", SYNTAX, 0);
            Edge.bad("group;", SYNTAX, 5);
            Edge.bad("group 2", SYNTAX, 7);
            Edge.bad("group 2;;", SYNTAX, 8);
            Edge.bad("group 2;lot 1", SYNTAX, 13);
            Edge.bad("group 2;lot 1;;", SYNTAX, 14);
            Edge.bad("group 2;group 2;", SYNTAX, 8);
            Edge.bad("group 2 lot 1;", SYNTAX, 8);
        });
        Check.sentence("statement = \"player\" number | \"card\" number element number | \"lot\" number | \"price\" "
                + "sum", () -> {
            Edge.bad("group 2;player;", SYNTAX, 14);
            Edge.bad("group 2;player 1 1;", SYNTAX, 17);
            Edge.bad("group 2;player 1;card 0 12;", SYNTAX, 26);
            Edge.bad("group 2;player 1;card 0;", SYNTAX, 23);
            Edge.bad("group 2;player 1;card;", SYNTAX, 21);
            Edge.bad("group 2;player 1;card 0 12 1 1;", SYNTAX, 29);
            Edge.bad("group 2;lot;", SYNTAX, 11);
            Edge.bad("group 2;lot 1 1;", SYNTAX, 14);
            Edge.bad("group 2;price;", SYNTAX, 13);
            Edge.bad("group 2;base;", SYNTAX, 8);
            Edge.bad("group 2;1;", SYNTAX, 8);
        });
        Check.sentence("sum = term { ( \"+\" | \"-\" ) term } term = factor { ( \"*\" | \"/\" ) factor } factor = "
                + "number | \"base\" | \"order\" | \"bids\" | \"pot\" | \"(\" sum \")\"", () -> {
            Edge.good("group 2;price 1;", 0);
            Edge.good("group 2;price (1);", 0);
            Edge.good("group 2;price base+order-bids*pot/(1);", 0);
            Edge.bad("group 2;price +1;", SYNTAX, 14);
            Edge.bad("group 2;price -1;", SYNTAX, 14);
            Edge.bad("group 2;price 1+;", SYNTAX, 16);
            Edge.bad("group 2;price 1-+1;", SYNTAX, 16);
            Edge.bad("group 2;price *1;", SYNTAX, 14);
            Edge.bad("group 2;price 1*;", SYNTAX, 16);
            Edge.bad("group 2;price 1*/1;", SYNTAX, 16);
            Edge.bad("group 2;price 1 1;", SYNTAX, 16);
            Edge.bad("group 2;price base base;", SYNTAX, 19);
            Edge.bad("group 2;price ();", SYNTAX, 15);
            Edge.bad("group 2;price (1;", SYNTAX, 16);
            Edge.bad("group 2;price 1);", SYNTAX, 15);
            Edge.bad("group 2;price (1));", SYNTAX, 17);
            Edge.bad("group 2;price (1)(1);", SYNTAX, 17);
            Edge.bad("group 2;price 1(1);", SYNTAX, 15);
            Edge.bad("group 2;price lot;", SYNTAX, 14);
            Edge.bad("group 2;price n;", SYNTAX, 14);
        });
    }

    private static void runs() {
        Check.sentence("A number is a run of decimal digits, of any length (leading zeros do not matter);", () -> {
            String zeros = "0".repeat(100);
            GroupBids x = Edge.good("group" + zeros + "3;player" + zeros + "99999;card" + zeros + " " + zeros + "231 "
                    + zeros
                    + "999;lot 00009999;price " + zeros + "9999;", 1);
            Edge.states(x, 3, 1, 1);
            Edge.purse(x, 0, 99999);
            Edge.cards(x, 0, 231);
            Check.due("card(0, 0, 1)", 999, () -> x.card(0, 0, 1));
            Edge.price(x, 0, 0, 9999);
            Edge.good("group 2;player " + "0".repeat(600) + ";", 1);
            // so long that no int and no long holds it, and one that would be small if it wrapped around
            Edge.bad("group 2;player " + "9".repeat(600) + ";", RANGE, 15);
            Edge.bad("group 2;player 4294967297;", RANGE, 15);
            Edge.bad("group 2;player 18446744073709551617;", RANGE, 15);
            Edge.bad("group 2;player 340282366920938463463374607431768211457;", RANGE, 15);
            Edge.bad("group 2;lot 1" + "0".repeat(600) + ";", RANGE, 12);
            Edge.bad("group 2;player 1;card 0 4294967308 1;", RANGE, 24);
        });
        Check.sentence("a word is a run of the letters a to z.", () -> {
            Edge.bad("Group 2;", SYNTAX, 0);
            Edge.bad("grouP 2;", SYNTAX, 0);
            Edge.bad("group 2;loT 1;", SYNTAX, 8);
            Edge.bad("group` 2;", SYNTAX, 5);
            Edge.bad("group{ 2;", SYNTAX, 5);
            Edge.bad("group\u00e9 2;", SYNTAX, 5);
            Edge.bad("group_ 2;", SYNTAX, 5);
            Edge.bad("groupA 2;", SYNTAX, 5);
            Edge.bad("groupZ 2;", SYNTAX, 5);
            // the letters a and z belong to a run
            Edge.bad("groupa 2;", SYNTAX, 0);
            Edge.bad("groupz 2;", SYNTAX, 0);
        });
        Check.sentence("Each run is as long as possible.", () -> {
            Edge.bad("groups 2;", SYNTAX, 0);
            Edge.bad("group 2;lotlot 1;", SYNTAX, 8);
            Edge.bad("group 2;price basepot;", SYNTAX, 14);
            Edge.bad("group 2;pricebase;", SYNTAX, 8);
            Edge.bad("group 2;price base+potbids;", SYNTAX, 19);
            Edge.bad("group 22;", RANGE, 6);
            Edge.bad("group 2;player 1;card 012 1;", RANGE, 22);
            Edge.bad("group 2;player 1;card 0 121;", RANGE, 24);
            Edge.bad("group 2;lo t 1;", SYNTAX, 8);
            Edge.bad("group 2;lot 1 2;", SYNTAX, 14);
        });
        Check.sentence("An element is a number, too.", () -> {
            GroupBids x = Edge.good("group 2;player 1;card 0 0000000012 1;card 0 021 1;", 1);
            Edge.cards(x, 0, 12, 21);
            Edge.bad("group 2;player 1;card 0 base 1;", SYNTAX, 24);
        });
    }

    private static void spaces() {
        Check.sentence("Spaces (byte 32) may precede any token and may follow the last one;", () -> {
            GroupBids x = Edge.good("   group   3   ;   player   9   ;   card   0   231   4   ;   lot   5   ;"
                    + "   price   (   base   +   order   )   *   2   -   bids   /   pot   ;   ", 1);
            Edge.cards(x, 0, 231);
            Edge.price(x, 0, 0, 14);
            Edge.good(" group 2;", 0);
            Edge.good("group 2; ", 0);
        });
        Check.sentence("a word and a number side by side need none between them.", () -> {
            GroupBids x = Edge.good("group3;player9;card0 231 4;lot5;price5;", 1);
            Edge.states(x, 3, 1, 1);
            Edge.price(x, 0, 0, 5);
            // two tokens all the same
            Edge.bad("group 2;price 5base;", SYNTAX, 15);
            Edge.bad("group 2;price base5;", SYNTAX, 18);
            Edge.bad("group 2;price 1;lot1price2;", SYNTAX, 20);
        });
        Check.sentence("No other byte separates tokens.", () -> {
            for (int b = 0; b < 256; b++) {
                String sign = String.valueOf((char) b);
                boolean digit = b >= '0' && b <= '9';
                boolean letter = b >= 'a' && b <= 'z';
                allowed("group 2;" + sign + "lot 5;", b == ' ', 8);
                allowed("group 2;lot" + sign + "5;", b == ' ' || digit, letter ? 8 : 11);
                allowed("group 2;lot 5" + sign + ";", b == ' ' || digit, b == ';' ? 14 : 13);
                allowed("group 2;lot 5;" + sign, b == ' ', 14);
                allowed(sign + "group 2;", b == ' ', 0);
            }
        });
    }

    private static void allowed(String text, boolean allowed, int offset) {
        if (allowed) {
            Edge.good(text, 0);
        } else {
            Edge.bad(text, SYNTAX, offset);
        }
    }

    private static void numbers() {
        Check.sentence("The number of group is n, that of player its purse, that of lot its value.", () -> {
            Edge.bad("group 0;", RANGE, 6);
            Edge.bad("group 1;", RANGE, 6);
            Edge.state(Edge.good("group 2;", 0), 0, 2);
            Edge.state(Edge.good("group 5;", 0), 0, 5);
            Edge.bad("group 6;", RANGE, 6);
            Edge.purse(Edge.good("group 2;player 0;", 1), 0, 0);
            Edge.purse(Edge.good("group 2;player 99999;", 1), 0, 99999);
            Edge.bad("group 2;player 100000;", RANGE, 15);
            Edge.bad("group 2;lot 0;", RANGE, 12);
            Edge.good("group 2;lot 1;", 0);
            Edge.good("group 2;lot 9999;", 0);
            Edge.bad("group 2;lot 10000;", RANGE, 12);
        });
        Check.sentence("The numbers of card are a player that was told before, and, behind the element, its base "
                + "price.", () -> {
            Edge.bad("group 2;card 0 12 1;player 1;", RANGE, 13);
            Edge.good("group 2;player 1;card 0 12 1;", 1);
            Edge.bad("group 2;player 1;card 1 12 1;player 1;", RANGE, 22);
            Edge.good("group 2;player 1;player 1;card 1 12 1;", 2);
            Edge.good(FIVE + "card 4 12 1;", 5);
            Edge.bad(FIVE + "card 5 12 1;", RANGE, 58);
            Edge.bad("group 2;player 1;card 0 12 0;", RANGE, 27);
            Edge.good("group 2;player 1;card 0 12 999;", 1);
            Edge.bad("group 2;player 1;card 0 12 1000;", RANGE, 27);
        });
        Check.sentence("A number as a factor is 0 to 9999.", () -> {
            Edge.good("group 2;price 0;", 0);
            Edge.good("group 2;price 9999;", 0);
            Edge.bad("group 2;price 10000;", RANGE, 14);
            Edge.bad("group 2;price 1*(base-10000);", RANGE, 22);
        });
    }

    private static void parentheses() {
        Check.sentence("Parentheses nest at most 4 deep.", () -> {
            Edge.good("group 2;price ((((1))));", 0);
            Edge.good("group 2;price ((((base+1)*2)-order)/2);", 0);
            // side by side they are not inside each other
            Edge.good("group 2;price ((((1)+(1))+(1))+(1))*((((2))))+(1)+(1)+(1)+(1)+(1);", 0);
            Edge.bad("group 2;price (((((1)))));", DEEP, 18);
            GroupBids x = Edge.good("group 2;player 1;card 0 21 9;price 1+2*(1+2*(1+2*(1+2*(1+2*base))));", 1);
            Edge.price(x, 0, 0, 31 + 32 * 9);
        });
    }

    private static void onePrice() {
        Check.sentence("The statement price may occur once.", () -> {
            Edge.good("group 2;", 0);
            Edge.good("group 2;price 1;", 0);
            Edge.good("group 2;lot 1;price 1;lot 1;", 0);
            Edge.bad("group 2;price 1;price 1;", SYNTAX, 16);
            // once in each text: neither an earlier text counts, nor one with an error
            GroupBids x = Check.loaded("group 2;price 1;player 1;card 0 21 9;");
            Edge.price(x, 0, 0, 1);
            Check.due("load of a second text with a price", 1,
                    () -> Check.load(x, "group 2;price 2;player 1;card 0 21 9;"));
            Edge.price(x, 0, 0, 2);
            Check.due("load of a text with two prices", SYNTAX, () -> Check.load(x, "group 2;price 2;price 3;"));
            Check.due("load behind that", 1, () -> Check.load(x, "group 2;price 4;player 1;card 0 21 9;"));
            Edge.price(x, 0, 0, 4);
        });
    }

    private static void firstError() {
        Check.sentence("The first error in the text is the one with the smallest offset.", () -> {
            Edge.bad("group 9;lot 0;?", RANGE, 6);
            Edge.bad("group 2;lot 0;?", RANGE, 12);
            Edge.bad("group 2;?;lot 0;", SYNTAX, 8);
            Edge.bad("group 2;lot 0", RANGE, 12);
            Edge.bad(FIVE + "player 100000;", MANY, 53);
            Edge.bad("group 2;player 100000;" + Edge.times(5, "player 1;"), RANGE, 15);
            Edge.bad(EIGHT + "card 0 99 0;", MANY, 127);
            Edge.bad(EIGHT + "card 1 99 0;", RANGE, 129);
            Edge.bad("group 2;price (((((10000;", DEEP, 18);
            Edge.bad("group 2;price ((((10000(", RANGE, 18);
            Edge.bad("group 2;price 10000;price 1;", RANGE, 14);
            Edge.bad("group 2;price 1;price 10000;", SYNTAX, 16);
        });
        Check.sentence("If several kinds of error have the same offset, the first one in this list counts:", () -> {
            // a fifth parenthesis, a number and a word where none of them may stand
            Edge.bad("group 2;price ((((1(", SYNTAX, 19);
            Edge.bad("group 2;price ((((base(", SYNTAX, 22);
            Edge.bad("group 2;price ((((1)(", SYNTAX, 20);
            Edge.bad("group 2;price 1 10000;", SYNTAX, 16);
            Edge.bad("group 2;lot 1 0;", SYNTAX, 14);
            Edge.bad(FIVE + "players 1;", SYNTAX, 53);
            Edge.bad(FIVE + "lot 1 player 1;", SYNTAX, 59);
            Edge.bad(TWELVE + "lots 1;", SYNTAX, 80);
            Edge.bad(TWELVE + "player 1 lot 1;", SYNTAX, 89);
            Edge.bad(EIGHT + "card player 1;", SYNTAX, 127);
            // a player who is none has no cards, so there is no third kind
            Edge.bad(EIGHT + "card 2 21 1;", RANGE, 127);
        });
    }

    private static void wrongTokens() {
        Edge.bad("?", SYNTAX, 0);
        Edge.bad("   ?", SYNTAX, 3);
        Edge.bad("12 group 2;", SYNTAX, 0);
        Edge.bad("   grouped 2;", SYNTAX, 3);
        Edge.bad("group word;", SYNTAX, 6);
        Edge.bad("group -2;", SYNTAX, 6);
        Edge.bad("group 2.0;", SYNTAX, 7);
        Edge.bad("group 2;   lots 1;", SYNTAX, 11);
        Edge.bad("group 2;player 1;card 0 12 1000 ;", RANGE, 27);
        Edge.bad("group 2;player 1;card 0 12,1;", SYNTAX, 26);
        Edge.bad("group 2;player 1;card 0 12 one;", SYNTAX, 27);
        Edge.bad("group 2;price 1+   words;", SYNTAX, 19);
        Edge.bad("group 2;price 1   words;", SYNTAX, 18);
        Edge.bad("group 2;price 1   234;", SYNTAX, 18);
        Edge.bad("group 2;price 1%2;", SYNTAX, 15);
        Edge.bad("group 2;price \u00ff;", SYNTAX, 14);
    }

    /** Every beginning of a text: cut behind a statement it is good, cut inside a word the word is wrong. */
    private static void earlyEnds() {
        String text = "group 2;player 10;lot 10 ;card 0 12 1;price (base+10)*2 ; ";
        for (int length = 0; length < text.length(); length++) {
            String cut = text.substring(0, length);
            String told = cut.stripTrailing();
            if (told.endsWith(";")) {
                Edge.good(cut, told.contains("player") ? 1 : 0);
            } else if (isInsideWord(text, length)) {
                Edge.bad(cut, SYNTAX, startOfWord(cut));
            } else if (cut.endsWith("card 0 1")) {
                Edge.bad(cut, RANGE, length - 1);
            } else {
                Edge.bad(cut, SYNTAX, length);
            }
        }
        Edge.good(text, 1);
    }

    private static boolean isInsideWord(String text, int at) {
        return at > 0 && Character.isLetter(text.charAt(at - 1)) && Character.isLetter(text.charAt(at));
    }

    private static int startOfWord(String cut) {
        int at = cut.length();
        while (at > 0 && Character.isLetter(cut.charAt(at - 1))) {
            at--;
        }
        return at;
    }

    private static void wrongNumbers() {
        Edge.bad("group 6;", RANGE, 6);
        Edge.bad("group   0001;", RANGE, 8);
        Edge.bad("group1;", RANGE, 5);
        Edge.bad("group 2;player 000100000;", RANGE, 15);
        Edge.bad("group 2;lot   0000;", RANGE, 14);
        Edge.bad("group 2;price 5*00010000;", RANGE, 16);
        Edge.bad("group 2;player 1;card 01 12 1;", RANGE, 22);
        Edge.bad("group 2;player 1;card 0 12 01000;", RANGE, 27);
        for (String none : new String[] {"0", "1", "2", "10", "11", "13", "20", "22", "31", "012345", "112", "120",
                "212"}) {
            Edge.bad("group 2;player 1;card 0 " + none + " 1;", RANGE, 24);
        }
        for (String none : new String[] {"12", "012", "122", "124", "320", "1230", "1234", "3210", "333", "1023"}) {
            Edge.bad("group 3;player 1;card 0  " + none + " 1;", RANGE, 25);
        }
        for (String none : new String[] {"1234", "12340", "12346", "12344", "02345", "65432", "123451", "012346",
                "112345"}) {
            Edge.bad("group 5;player 1;card 0 " + none + " 1;", RANGE, 24);
        }
    }

    private static void tooMany() {
        Check.sentence("TOO_MANY: a 6th player or a 13th lot, at the first letter of its statement;", () -> {
            Edge.good(FIVE, 5);
            Edge.bad(FIVE + "player 1;", MANY, 53);
            Edge.bad(FIVE + "  player", MANY, 55);
            Edge.bad(FIVE + "lot 1;card 0 12 1;player;", MANY, 71);
            Edge.state(Edge.good(TWELVE, 0), 2, 12);
            Edge.bad(TWELVE + "lot 1;", MANY, 80);
            Edge.bad(TWELVE + "   lot;", MANY, 83);
            Edge.bad(TWELVE + "price 1;lot 0;", MANY, 88);
            // the players and lots of a text before do not count
            GroupBids x = Check.loaded(FIVE);
            Check.due("load of five players again", 5, () -> Check.load(x, FIVE));
            Check.due("load of twelve lots", 0, () -> Check.load(x, TWELVE));
            Check.due("load of twelve lots again", 0, () -> Check.load(x, TWELVE));
        });
        Check.sentence("the player of a card that has 8 cards, at its first digit.", () -> {
            Edge.good(EIGHT, 2);
            Edge.bad(EIGHT + "card 0 21 1;", MANY, 127);
            Edge.bad(EIGHT + "card   0", MANY, 129);
            Edge.bad(EIGHT + "card000 21 1;", MANY, 126);
            Edge.good(EIGHT + Edge.times(8, "card 1 12 1;"), 2);
            Edge.bad(EIGHT + Edge.times(8, "card 1 12 1;") + "card 1 12 1;", MANY, 127 + 96);
            GroupBids x = Check.loaded(EIGHT);
            Check.due("load of eight cards again", 2, () -> Check.load(x, EIGHT));
        });
    }
}

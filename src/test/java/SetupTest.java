/** Promises 1 to 4: a new object, append, load, errorOffset. */
public final class SetupTest {
    private static final int SYNTAX = GroupBids.SYNTAX_ERROR;
    private static final int RANGE = GroupBids.OUT_OF_RANGE;
    private static final int MANY = GroupBids.TOO_MANY;
    private static final int DEEP = GroupBids.TOO_DEEP;

    public static void main(String[] args) {
        newObject();
        append();
        lengths();
        goodTexts();
        leadingZerosAndSpaces();
        syntaxErrors();
        rangeErrors();
        tooMany();
        tooDeep();
        firstErrorCounts();
        errorKeepsData();
        replacesAllData();
        Check.end();
    }

    private static void newObject() {
        GroupBids x = new GroupBids();
        int[] want = {2, 0, 0, -1, -1, 0, 0, 0, 0};
        for (int what = 0; what < want.length; what++) {
            int asked = what;
            Check.due("1: state(" + what + ")", want[what], () -> x.state(asked));
        }
        Check.due("1: product()", 12, x::product);
        Check.due("1: undo()", -1, x::undo);
        Check.due("1: player(0, 0)", "throws.IndexOutOfBoundsException", () -> x.player(0, 0));
        Check.due("1: load(1)", "throws.IllegalArgumentException", () -> x.load(1));
        Check.due("4: errorOffset() of a new object", -1, x::errorOffset);
    }

    private static void append() {
        GroupBids x = new GroupBids();
        for (int length = 20; length <= 700; length += 20) {
            int want = length;
            Check.due("2: append to " + length, want, () -> x.append(0, 0, 0, 0, 0));
        }
        Check.due("2: append behind 700", -1, () -> x.append(1, 2, 3, 4, 5));
        Check.due("2: append behind 700 again", -1, () -> x.append(1, 2, 3, 4, 5));
        Check.due("2: the buffer is unchanged", "throws.IllegalArgumentException", () -> x.load(701));
        Check.due("2: load(700)", SYNTAX, () -> x.load(700));
        Check.due("2: append to an emptied buffer", 20, () -> x.append(0, 0, 0, 0, 0));
        // "grou" "p2;l" "ot77" ";   " "    "
        GroupBids y = new GroupBids();
        Check.due("2: append", 20, () -> y.append(0x67726f75, 0x70323b6c, 0x6f743737, 0x3b202020, 0x20202020));
        Check.due("2: load of the bytes", 0, () -> y.load(20));
        Check.due("2: the lots", 1, () -> y.state(2));
        // a byte above 127 is no space and no sign
        GroupBids z = new GroupBids();
        Check.due("2: append", 20, () -> z.append(0x67726f75, 0x70323bff, 0xffffffff, 0x80808080, 0));
        Check.due("2: load of a high byte", SYNTAX, () -> z.load(20));
        Check.due("2: offset of a high byte", 7, z::errorOffset);
    }

    private static void lengths() {
        GroupBids x = new GroupBids();
        byte[] text = Check.bytesOf("group 3;lot 5;lot 6;");
        Check.append(x, text, 0);
        Check.due("3: load(-1)", "throws.IllegalArgumentException", () -> x.load(-1));
        Check.due("3: load(21)", "throws.IllegalArgumentException", () -> x.load(21));
        Check.due("3: load(int max)", "throws.IllegalArgumentException", () -> x.load(Integer.MAX_VALUE));
        Check.due("3: load(int min)", "throws.IllegalArgumentException", () -> x.load(Integer.MIN_VALUE));
        Check.due("3: a throwing load leaves the error offset", -1, x::errorOffset);
        Check.due("3: load(14)", 0, () -> x.load(14));
        Check.due("3: one lot", 1, () -> x.state(2));
        Check.due("3: the rest is gone", "throws.IllegalArgumentException", () -> x.load(1));
        Check.due("3: an empty text", SYNTAX, () -> x.load(0));
        Check.due("3: offset of an empty text", 0, x::errorOffset);
        Check.append(x, text, 0);
        Check.due("3: a number cut by the length", SYNTAX, () -> x.load(13));
        Check.due("3: offset at the length", 13, x::errorOffset);
        Check.due("3: the buffer is empty behind an error", "throws.IllegalArgumentException", () -> x.load(1));
        Check.due("4: errorOffset() behind a load that threw", 13, x::errorOffset);
        Check.append(x, text, 0);
        Check.due("3: load(20)", 0, () -> x.load(20));
        Check.due("4: errorOffset() behind a good load", -1, x::errorOffset);
    }

    private static void goodTexts() {
        good("group 2;", 0);
        good("group 5;player 0;player 99999;", 2);
        good("group 5;player 1;player 2;player 3;player 4;player 5;", 5);
        good("group 2;lot 1;lot 9999;", 0);
        good("group 2;player 3;card 0 12 1;card 0 21 999;", 1);
        good("group 3;player 3;card 0 123 1;card 0 321 9;", 1);
        good("group 4;player 3;card 0 1234 1;card 0 4321 9;", 1);
        good("group 5;player 3;card 0 12345 1;card 0 54321 9;", 1);
        good("group 2;price 0;", 0);
        good("group 2;price 9999;player 1;", 1);
        good("group 2;price ((((base))));", 0);
        good("group 2;price (((1))+(2*(3-(pot/bids))))-order;", 0);
        bad("group 2;price ((((1)))+(2*(3-(pot/(bids)))))-order;", DEEP, 34);
        good("group 2;lot 1;lot 2;lot 3;lot 4;lot 5;lot 6;lot 7;lot 8;lot 9;lot 10;lot 11;lot 12;", 0);
    }

    private static void leadingZerosAndSpaces() {
        good("   group   2  ;  player  1  ; lot 3 ;   ", 1);
        good("group2;player3;card0 21 5;lot7;price(base+2)*order;", 1);
        good("group 0000000000000000000000000000000002;player 000000000000000000000000000099999;", 1);
        GroupBids x = Check.loaded("group 3;player 007;card 00 00000000000000000213 005;lot 0001;price 000000009999;");
        Check.due("3: an element with leading zeros", 213, () -> x.card(0, 0, 0));
        Check.due("3: a base price with leading zeros", 5, () -> x.card(0, 0, 1));
        Check.due("3: a factor with leading zeros", 9999, () -> x.card(0, 0, 2));
        Check.due("3: a purse with leading zeros", 7, () -> x.player(0, 0));
    }

    private static void syntaxErrors() {
        bad("", SYNTAX, 0);
        bad("     ", SYNTAX, 5);
        bad("group", SYNTAX, 5);
        bad("group 2", SYNTAX, 7);
        bad("group 2  ", SYNTAX, 9);
        bad("group;", SYNTAX, 5);
        bad("player 2;", SYNTAX, 0);
        bad("groups 2;", SYNTAX, 0);
        bad("grou 2;", SYNTAX, 0);
        bad("groupz 2;", SYNTAX, 0);
        bad("groupa 2;", SYNTAX, 0);
        bad("group` 2;", SYNTAX, 5);
        bad("group{ 2;", SYNTAX, 5);
        bad("group/2;", SYNTAX, 5);
        bad("group:2;", SYNTAX, 5);
        bad("Group 2;", SYNTAX, 0);
        bad("gr oup 2;", SYNTAX, 0);
        bad("group 2;;", SYNTAX, 8);
        bad("group 2;group 2;", SYNTAX, 8);
        bad("group 2\t;", SYNTAX, 7);
        bad("group 2;\n", SYNTAX, 8);
        bad("group -2;", SYNTAX, 6);
        bad("group 2;player;", SYNTAX, 14);
        bad("group 2;player 1", SYNTAX, 16);
        bad("group 2;player 1 2;", SYNTAX, 17);
        bad("group 2;playerlot 1;", SYNTAX, 8);
        bad("group 2;lot x;", SYNTAX, 12);
        bad("group 2;lot 1x;", SYNTAX, 13);
        bad("group 2;lot 1,", SYNTAX, 13);
        bad("group 2;player 1;card;", SYNTAX, 21);
        bad("group 2;player 1;card 0;", SYNTAX, 23);
        bad("group 2;player 1;card 0 12;", SYNTAX, 26);
        bad("group 2;player 1;card 0 12 1 1;", SYNTAX, 29);
        bad("group 2;player 1;card 0 12 1", SYNTAX, 28);
        bad("group 2;player 1;card 0 base 1;", SYNTAX, 24);
        bad("group 2;price;", SYNTAX, 13);
        bad("group 2;price +1;", SYNTAX, 14);
        bad("group 2;price -1;", SYNTAX, 14);
        bad("group 2;price 1+;", SYNTAX, 16);
        bad("group 2;price 1*", SYNTAX, 16);
        bad("group 2;price 1**2;", SYNTAX, 16);
        bad("group 2;price 1 2;", SYNTAX, 16);
        bad("group 2;price base pot;", SYNTAX, 19);
        bad("group 2;price basepot;", SYNTAX, 14);
        bad("group 2;price value;", SYNTAX, 14);
        bad("group 2;price price;", SYNTAX, 14);
        bad("group 2;price ();", SYNTAX, 15);
        bad("group 2;price (1;", SYNTAX, 16);
        bad("group 2;price (1", SYNTAX, 16);
        bad("group 2;price 1);", SYNTAX, 15);
        bad("group 2;price 1(2);", SYNTAX, 15);
        bad("group 2;price 1;price 2;", SYNTAX, 16);
        bad("group 2;price 1;lot 1;  price", SYNTAX, 24);
        bad("group 2;price 1%2;", SYNTAX, 15);
        bad("group 2;\u0000", SYNTAX, 8);
        bad("group 2\u00a0;", SYNTAX, 7);
        bad("group \u0132;", SYNTAX, 6);
    }

    private static void rangeErrors() {
        bad("group 1;", RANGE, 6);
        bad("group 0;", RANGE, 6);
        bad("group 6;", RANGE, 6);
        bad("group 4294967298;", RANGE, 6);
        bad("group 18446744073709551618;", RANGE, 6);
        bad("group 2;player 100000;", RANGE, 15);
        bad("group 2;player 4294967296;", RANGE, 15);
        bad("group 2;lot 0;", RANGE, 12);
        bad("group 2;lot 10000;", RANGE, 12);
        bad("group 2;card 0 12 1;", RANGE, 13);
        bad("group 2;player 1;card 1 12 1;player 1;", RANGE, 22);
        bad("group 2;player 1;card 4294967296 12 1;", RANGE, 22);
        bad("group 2;player 1;card 0 11 1;", RANGE, 24);
        bad("group 2;player 1;card 0 13 1;", RANGE, 24);
        bad("group 2;player 1;card 0 1 1;", RANGE, 24);
        bad("group 2;player 1;card 0 123 1;", RANGE, 24);
        bad("group 2;player 1;card 0 0 1;", RANGE, 24);
        bad("group 2;player 1;card 0 4294967308 1;", RANGE, 24);
        bad("group 3;player 1;card 0 12 1;", RANGE, 24);
        bad("group 3;player 1;card 0 122 1;", RANGE, 24);
        bad("group 3;player 1;card 0 312 0;", RANGE, 28);
        bad("group 3;player 1;card 0 312 1000;", RANGE, 28);
        bad("group 5;player 1;card 0 123456 1;", RANGE, 24);
        bad("group 5;player 1;card 0 1234512345 1;", RANGE, 24);
        bad("group 2;price 10000;", RANGE, 14);
        bad("group 2;price base*(10000);", RANGE, 20);
        bad("group 2;price 00010000;", RANGE, 14);
        bad("group 2;price 4294967297;", RANGE, 14);
    }

    private static void tooMany() {
        String players = "group 2;player 1;player 1;player 1;player 1;player 1;";
        bad(players + "player 1;", MANY, 53);
        bad(players + " player", MANY, 54);
        bad(players + "players", SYNTAX, 53);
        String lots = "group 2;lot 1;lot 1;lot 1;lot 1;lot 1;lot 1;lot 1;lot 1;lot 1;lot 1;lot 1;lot 1;";
        bad(lots + "lot 0;", MANY, 80);
        good(lots + "player 1;", 1);
        StringBuilder cards = new StringBuilder("group 2;player 1;player 2;");
        for (int i = 0; i < 8; i++) {
            cards.append("card 0 21 1;");
        }
        good(cards.toString(), 2);
        good(cards + "card 1 21 1;", 2);
        bad(cards + "card 0 21 1;", MANY, 127);
        bad(cards + "card 0 99 1;", MANY, 127);
        bad(cards + "card 2 21 1;", RANGE, 127);
        bad(cards + "card x", SYNTAX, 127);
    }

    private static void tooDeep() {
        bad("group 2;price (((((1)))));", DEEP, 18);
        bad("group 2;price ((((1(", SYNTAX, 19);
        bad("group 2;price 1+((2*((", SYNTAX, 22);
        bad("group 2;price 1+((2*(((", DEEP, 22);
        good("group 2;price ((((1))))+((((2))));", 0);
    }

    private static void firstErrorCounts() {
        bad("group 9;player 1000000;", RANGE, 6);
        bad("group 2;lot 0;?", RANGE, 12);
        bad("group 2;? lot 0;", SYNTAX, 8);
        bad("group 2;price (((((?", DEEP, 18);
        bad("group 2;price ((((?(", SYNTAX, 18);
        bad("group 7", RANGE, 6);
    }

    private static void errorKeepsData() {
        GroupBids x = Check.loaded("group 3;player 50;card 0 231 7;lot 9;price base*2;");
        long before = x.checksum();
        Check.due("3: a text with an error", SYNTAX, () -> Check.load(x, "group 2;player 1;lot 5;price 1;oops"));
        Check.due("3: an error leaves the data", before, x::checksum);
        Check.due("3: the price stays", 14, () -> x.card(0, 0, 2));
        Check.due("3: a failing load is no change", 0, x::undo);
    }

    private static void replacesAllData() {
        GroupBids x = Check.loaded("group 3;player 50;card 0 231 7;lot 9;lot 8;price base*2;");
        x.play(0);
        x.pass();
        Check.due("3: the house had its part", 14, () -> x.state(8));
        Check.due("3: load", 1, () -> Check.load(x, "group 2;player 6;card 0 21 7;lot 4;"));
        int[] want = {2, 1, 1, 0, 0, 0, 0, 0, 0};
        for (int what = 0; what < want.length; what++) {
            int asked = what;
            Check.due("3: state(" + what + ") behind load", want[what], () -> x.state(asked));
        }
        Check.due("3: the price is plain again", 7, () -> x.card(0, 0, 2));
        Check.due("3: cards", 1, () -> x.player(0, 1));
    }

    private static void good(String text, int players) {
        GroupBids x = new GroupBids();
        Check.due("3: load of " + text, players, () -> Check.load(x, text));
        Check.due("4: errorOffset() of " + text, -1, x::errorOffset);
    }

    private static void bad(String text, int error, int offset) {
        GroupBids x = new GroupBids();
        Check.due("3: load of " + text, error, () -> Check.load(x, text));
        Check.due("4: errorOffset() of " + text, offset, x::errorOffset);
    }
}

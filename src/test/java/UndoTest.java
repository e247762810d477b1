/** Promises 25 and 26: undo and the checksum. */
public final class UndoTest {
    public static void main(String[] args) {
        eachChange();
        refusedIsAChange();
        failedLoadIsNone();
        eightAtMost();
        finalStaysFinal();
        bufferAndErrorStay();
        wonLotComesBack();
        checksum();
        checksumOfMore();
        Check.end();
    }

    private static void eachChange() {
        GroupBids x = new GroupBids();
        long[] sums = new long[8];
        sums[0] = x.checksum();
        Check.load(x, "group 3;player 99;player 88;card 0 231 5;card 0 123 6;card 1 312 7;lot 9;lot 8;price base+pot;");
        sums[1] = x.checksum();
        x.play(0);
        sums[2] = x.checksum();
        x.cancel(0, 0);
        sums[3] = x.checksum();
        x.pass();
        sums[4] = x.checksum();
        x.pass();
        sums[5] = x.checksum();
        x.give(1, 321, 4);
        sums[6] = x.checksum();
        x.discard(1, 0);
        sums[7] = x.checksum();
        x.play(0);
        for (int i = 1; i < 8; i++) {
            int at = i;
            Check.due("26: the change " + i + " shows", false, () -> sums[at] == sums[at - 1]);
        }
        for (int left = 7; left >= 0; left--) {
            int now = left;
            Check.due("25: undo()", left, x::undo);
            Check.due("25: what was before change " + left, sums[now], x::checksum);
        }
        Check.due("25: undo() without a change", -1, x::undo);
        Check.due("25: nothing changes then", sums[0], x::checksum);
    }

    private static void refusedIsAChange() {
        GroupBids x = Check.loaded("group 2;player 1;card 0 21 1;card 0 21 5;lot 9;");
        Check.due("20: play(1)", -1, () -> x.play(1));
        Check.due("20: play(0)", 0, () -> x.play(0));
        Check.due("21: cancel(0, 0)", -1, () -> x.cancel(0, 0));
        Check.due("25: the refused cancel", 3, x::undo);
        Check.due("25: the bid is still there", 1, () -> x.state(5));
        Check.due("25: the bid goes", 2, x::undo);
        Check.due("25: the bid is gone", 0, () -> x.state(5));
        Check.due("25: the refused play", 1, x::undo);
        Check.due("25: the load", 0, x::undo);
        Check.due("25: no players", 0, () -> x.state(1));
        Check.due("25: nothing to undo", -1, x::undo);
    }

    private static void failedLoadIsNone() {
        GroupBids x = new GroupBids();
        Check.load(x, "group 9;");
        Check.due("25: a failed load", -1, x::undo);
        Check.load(x, "group 4;player 1;");
        Check.due("15: a call that asks", false, () -> x.reaches(0, 1234));
        Check.due("25: one change", 0, x::undo);
        Check.due("5: n is 2 again", 2, () -> x.state(0));
    }

    private static void eightAtMost() {
        GroupBids x = Check.loaded("group 2;player 1;lot 9;");
        for (int i = 1; i <= 8; i++) {
            x.give(0, 21, i);
        }
        for (int left = 7; left >= 0; left--) {
            int cards = left;
            Check.due("25: undo()", left, x::undo);
            Check.due("6: cards", cards, () -> x.player(0, 1));
        }
        Check.due("25: the load is final", -1, x::undo);
        Check.due("5: the player stays", 1, () -> x.state(1));
    }

    private static void finalStaysFinal() {
        GroupBids x = Check.loaded("group 2;player 1;lot 9;");
        for (int i = 0; i < 30; i++) {
            x.give(0, 21, 3);
            x.discard(0, 0);
        }
        for (int i = 7; i >= 3; i--) {
            Check.due("25: undo()", i, x::undo);
        }
        x.give(0, 21, 4);
        x.give(0, 21, 5);
        Check.due("25: 3 and 2 changes can be undone", 4, x::undo);
        Check.due("6: cards", 2, () -> x.player(0, 1));
        for (int i = 3; i >= 0; i--) {
            Check.due("25: undo()", i, x::undo);
        }
        Check.due("25: no more", -1, x::undo);
        Check.due("6: cards", 0, () -> x.player(0, 1));
    }

    private static void bufferAndErrorStay() {
        GroupBids x = Check.loaded("group 2;player 1;lot 9;");
        Check.load(x, "group 2;player x;");
        byte[] text = Check.bytesOf("group 3;player 7;   ");
        Check.append(x, text, 0);
        Check.due("25: undo()", 0, x::undo);
        Check.due("4: errorOffset() behind undo", 15, x::errorOffset);
        Check.due("2: the buffer behind undo", 40, () -> Check.append(x, text, 20));
        Check.due("3: load(17)", 1, () -> x.load(17));
        Check.due("25: undo()", 0, x::undo);
        Check.due("4: errorOffset() behind undo", -1, x::errorOffset);
        Check.due("25: the buffer stays empty", "throws.IllegalArgumentException", () -> x.load(1));
    }

    private static void wonLotComesBack() {
        GroupBids x = Check.loaded("group 3;player 20;player 30;card 0 231 5;card 1 312 6;lot 9;price base*2;");
        x.play(0);
        long before = x.checksum();
        Check.due("20: play(0)", 1, () -> x.play(0));
        Check.due("25: undo()", 1 + 1, x::undo);
        Check.due("25: the bids and the purses are back", before, x::checksum);
        Check.due("9: product()", 231, x::product);
        Check.due("20: play(0) again", 1, () -> x.play(0));
        Check.due("6: purse", 30 - 12 + 22 + 9, () -> x.player(1, 0));
        Check.load(x, "group 2;player 3;card 0 21 5;price 1;");
        Check.due("7: the other price", 1, () -> x.card(0, 0, 2));
        x.undo();
        x.undo();
        Check.due("25: the price rule is back", 12, () -> x.card(1, 0, 2));
    }

    private static void checksum() {
        GroupBids x = new GroupBids();
        Check.due("26: checksum() of a new object", 52878328188522L, x::checksum);
        Check.load(x, "group 3;");
        long sum = 0;
        for (int number : new int[] {3, 0, 0, -1, -1, 0, 0, 0, 0, 123}) {
            sum = 31 * sum + number;
        }
        Check.due("26: checksum()", sum, x::checksum);
    }

    private static void checksumOfMore() {
        GroupBids x = Check.loaded("group 3;player 20;player 30;card 0 231 5;card 0 132 4;card 1 213 6;lot 9;"
                + "price base+bids;");
        x.play(0);
        x.play(0);
        long sum = 0;
        for (int number : new int[] {3, 2, 1, 0, 0, 2, 12, 0, 0, 15, 1, 0, 132, 4, 6, 23, 0, 0,
            0, 231, 5, 1, 213, 7, 132}) {
            sum = 31 * sum + number;
        }
        Check.due("26: checksum()", sum, x::checksum);
    }
}

/** The edges that "Changes" and promise 25 name: a test for each sentence. */
public final class ChangesEdgeTest {
    private static final String TWELVE = "group 2;player 1;" + Edge.times(12, "lot 1;");

    public static void main(String[] args) {
        changingMethods();
        Check.sentence("each such call that does not throw an exception is a change, also if all data stay as they "
                + "were.",
                ChangesEdgeTest::changesOfNothing);
        latestEight();
        Check.sentence("a change is final as soon as 8 later ones, none of them undone, have been made.",
                ChangesEdgeTest::finalChanges);
        Check.sentence("Before the first successful load n is 2, and there are no players and no lots.", () -> {
            GroupBids x = new GroupBids();
            Edge.states(x, 2, 0, 0, -1, -1, 0, 0, 0, 0);
            Check.due("load with an error", Edge.RANGE, () -> Check.load(x, "group 3;player 1;lot 0;"));
            Edge.states(x, 2, 0, 0, -1, -1, 0, 0, 0, 0);
            Check.due("inverse(21)", 21, () -> x.inverse(21));
            Check.due("inverse(231)", Edge.WRONG, () -> x.inverse(231));
            Check.due("load", 0, () -> Check.load(x, "group 3;"));
            Edge.undo(x, 0);
            Edge.states(x, 2, 0, 0, -1, -1, 0, 0, 0, 0);
        });
        exceptions();
        undoing();
        codes();
        Check.end();
    }

    private static void changingMethods() {
        Check.sentence("The changing methods are load (when it succeeds), play, cancel, pass, give and "
                + "discard;", () -> {
            GroupBids x = new GroupBids();
            long[] sums = new long[7];
            Check.Call[] changes = {
                () -> Check.load(x, "group 3;player 9;player 9;card 0 231 1;card 1 312 2;card 0 213 3;lot 5;lot 6;"),
                () -> x.play(0), () -> x.cancel(0, 0), x::pass, () -> x.give(0, 321, 4), () -> x.discard(0, 0),
            };
            String[] answers = {"2", "0", "0", "0", "2", "213"};
            for (int i = 0; i < changes.length; i++) {
                sums[i] = x.checksum();
                Check.due("change " + i, answers[i], changes[i]);
                int now = i;
                Check.due("change " + i + " shows", false, () -> sums[now] == x.checksum());
            }
            for (int i = changes.length - 1; i >= 0; i--) {
                Edge.undo(x, i);
                Check.due("checksum() before change " + i, sums[i], x::checksum);
            }
            Edge.undo(x, -1);
        });
        Check.sentence("load (when it succeeds)", () -> {
            GroupBids x = new GroupBids();
            Check.due("load with an error", Edge.SYNTAX, () -> Check.load(x, "group"));
            Edge.undo(x, -1);
            Check.due("load", 0, () -> Check.load(x, "group 4;"));
            Check.due("load with an error", Edge.RANGE, () -> Check.load(x, "group 3;lot 0;"));
            Edge.undo(x, 0);
            Edge.state(x, 0, 2);
            Edge.undo(x, -1);
        });
        Check.sentence("The changing methods are load", ChangesEdgeTest::askingIsNoChange);
    }

    private static void askingIsNoChange() {
        GroupBids x = Check.loaded("group 3;player 9;card 0 231 1;card 0 312 1;lot 5;");
        Edge.play(x, 0, 0);
        for (int i = 0; i < 3; i++) {
            x.append(0, 0, 0, 0, 0);
            x.errorOffset();
            x.state(0);
            x.player(0, 0);
            x.card(0, 0, 2);
            x.bid(0, 0);
            x.product();
            x.productOf(0, 1);
            x.multiply(123, 231);
            x.inverse(231);
            x.order(231);
            x.reach(0);
            x.reaches(0, 123);
            x.generated(0);
            x.fewest(0);
            x.cheapest(0);
            x.opening(0);
            x.checksum();
        }
        Edge.undo(x, 1);
        Edge.row(x);
        Edge.undo(x, 0);
        Edge.state(x, 1, 0);
    }

    private static void changesOfNothing() {
        GroupBids x = Check.loaded("group 2;player 5;card 0 21 5;card 0 12 9;card 0 21 1;lot 5;");
        long before = x.checksum();
        Edge.play(x, 1, -1);
        Check.due("checksum() behind a refused play", before, x::checksum);
        Edge.play(x, 2, 0);
        long played = x.checksum();
        Edge.cancel(x, 1, 0, -1);
        Edge.cancel(x, 0, 0, -1);
        Check.due("checksum() behind a refused cancel", played, x::checksum);
        // load, play refused, play, cancel refused, cancel refused
        Edge.undo(x, 4);
        Check.due("checksum() before a refused cancel", played, x::checksum);
        Edge.undo(x, 3);
        Check.due("checksum() before the other", played, x::checksum);
        Edge.undo(x, 2);
        Check.due("checksum() before the bid", before, x::checksum);
        Edge.undo(x, 1);
        Check.due("checksum() before a refused play", before, x::checksum);
        Edge.undo(x, 0);
        Edge.state(x, 1, 0);
        // the same text twice, and a text that tells what a new object holds
        GroupBids y = Check.loaded("group 2;");
        Check.due("load of the same text", 0, () -> Check.load(y, "group 2;"));
        Edge.undo(y, 1);
        Edge.undo(y, 0);
        Edge.undo(y, -1);
        // eight refused calls make the load final
        GroupBids z = Check.loaded("group 2;player 5;card 0 21 9;lot 5;");
        for (int i = 0; i < 8; i++) {
            Edge.play(z, 0, -1);
        }
        for (int left = 7; left >= 0; left--) {
            Edge.undo(z, left);
        }
        Edge.undo(z, -1);
        Edge.state(z, 1, 1);
    }

    /** One player and twelve lots, of which this many have been withdrawn: each pass is a change. */
    private static GroupBids passed(int passes) {
        GroupBids x = Check.loaded(TWELVE);
        for (int i = 0; i < passes; i++) {
            Edge.pass(x, 1);
        }
        return x;
    }

    private static void undoAll(GroupBids x, int lot, int changes) {
        for (int i = 1; i <= changes; i++) {
            Edge.undo(x, changes - i);
            Edge.state(x, 3, lot - i);
        }
        Edge.undo(x, -1);
        Edge.state(x, 3, lot - changes);
    }

    private static void latestEight() {
        Check.sentence("The latest 8 changes can be undone, the latest one first;", () -> {
            // the load is the first change of each
            GroupBids seven = passed(7);
            for (int left = 7; left >= 1; left--) {
                Edge.undo(seven, left);
                Edge.state(seven, 3, left - 1);
            }
            Edge.undo(seven, 0);
            Edge.state(seven, 1, 0);
            Edge.undo(seven, -1);
            undoAll(passed(8), 8, 8);
            undoAll(passed(9), 9, 8);
            undoAll(passed(11), 11, 8);
        });
    }

    private static void finalChanges() {
        // 8 later ones make the load final, 7 do not
        Edge.undo(passed(7), 7);
        GroupBids x = passed(8);
        undoAll(x, 8, 8);
        // it stays final also when the later ones are undone, and new ones are made and undone
        Edge.pass(x, 1);
        Edge.pass(x, 1);
        undoAll(x, 2, 2);
        Edge.state(x, 1, 1);
        // an undone change does not count: seven others stand behind the load, so it is not final
        GroupBids y = passed(7);
        for (int i = 0; i < 5; i++) {
            Edge.undo(y, 7);
            Edge.pass(y, 1);
        }
        Edge.state(y, 3, 7);
        for (int left = 7; left >= 0; left--) {
            Edge.undo(y, left);
        }
        Edge.state(y, 1, 0);
        // many times round
        GroupBids z = Check.loaded("group 2;player 1;lot 1;");
        for (int i = 0; i < 40; i++) {
            z.give(0, 21, i + 1);
            z.discard(0, 0);
            z.give(0, 12, i + 100);
            Edge.undo(z, Math.min(2 * i + 3, 7));
        }
        for (int left = 6; left >= 0; left--) {
            Edge.undo(z, left);
            Check.due("player(0, 1)", (left + 1) % 2, () -> z.player(0, 1));
        }
        Edge.undo(z, -1);
    }

    private static void exceptions() {
        Check.sentence("IndexOutOfBoundsException is thrown if a parameter named player is not the index of a "
                + "player;", () -> {
            noSuchPlayer(new GroupBids(), 0, 12);
            noSuchPlayer(Check.loaded("group 3;lot 5;"), 0, 123);
            noSuchPlayer(Check.loaded("group 3;player 5;lot 5;"), 1, 123);
            GroupBids x = Check.loaded("group 3;" + Edge.times(5, "player 5;card 0 123 1;"));
            noSuchPlayer(x, 5, 123);
            for (int player : Edge.FAR) {
                noSuchPlayer(x, player, 123);
            }
        });
        Check.sentence("IllegalArgumentException is thrown if one named element, first or second is not an "
                + "element.", () -> {
            GroupBids x = Check.loaded("group 3;player 5;lot 5;");
            for (int none : new int[] {0, 1, 12, 21, 122, 124, 320, 322, 1234, 1230, -123, Integer.MAX_VALUE,
                Integer.MIN_VALUE}) {
                Edge.keeps(x, "multiply(" + none + ", 123)", Edge.WRONG, () -> x.multiply(none, 123));
                Edge.keeps(x, "multiply(123, " + none + ")", Edge.WRONG, () -> x.multiply(123, none));
                Edge.keeps(x, "inverse(" + none + ")", Edge.WRONG, () -> x.inverse(none));
                Edge.keeps(x, "order(" + none + ")", Edge.WRONG, () -> x.order(none));
                Edge.keeps(x, "reaches(0, " + none + ")", Edge.WRONG, () -> x.reaches(0, none));
                Edge.keeps(x, "give(0, " + none + ", 5)", Edge.WRONG, () -> x.give(0, none, 5));
            }
            // what is an element follows the group of the latest text, and an undo too
            Check.load(x, "group 2;player 5;");
            Check.due("inverse(123) with 2 points", Edge.WRONG, () -> x.inverse(123));
            Check.due("inverse(21) with 2 points", 21, () -> x.inverse(21));
            Edge.undo(x, 1);
            Check.due("inverse(21) with 3 points", Edge.WRONG, () -> x.inverse(21));
            Check.due("inverse(123) with 3 points", 123, () -> x.inverse(123));
        });
        Check.sentence("If several exceptions apply to a call, the one that is listed first with the method is thrown.",
                ChangesEdgeTest::severalExceptions);
        Check.sentence("A method that throws an exception changes nothing.", ChangesEdgeTest::nothingChanges);
    }

    private static void noSuchPlayer(GroupBids x, int player, int element) {
        String told = "(" + player + ", ";
        Check.due("player" + told + "0)", Edge.NO_PLAYER, () -> x.player(player, 0));
        Check.due("card" + told + "0, 0)", Edge.NO_PLAYER, () -> x.card(player, 0, 0));
        Check.due("reach(" + player + ")", Edge.NO_PLAYER, () -> x.reach(player));
        Check.due("reaches" + told + element + ")", Edge.NO_PLAYER, () -> x.reaches(player, element));
        Check.due("generated(" + player + ")", Edge.NO_PLAYER, () -> x.generated(player));
        Check.due("fewest(" + player + ")", Edge.NO_PLAYER, () -> x.fewest(player));
        Check.due("cheapest(" + player + ")", Edge.NO_PLAYER, () -> x.cheapest(player));
        Check.due("opening(" + player + ")", Edge.NO_PLAYER, () -> x.opening(player));
        Check.due("give" + told + element + ", 1)", Edge.NO_PLAYER, () -> x.give(player, element, 1));
        Check.due("discard" + told + "0)", Edge.NO_PLAYER, () -> x.discard(player, 0));
    }

    private static void severalExceptions() {
        GroupBids x = Check.loaded("group 2;player 5;player 5;" + Edge.times(8, "card 0 12 1;") + "card 1 21 1;lot 5;");
        for (int far : Edge.FAR) {
            String told = "(" + far + ", ";
            Check.due("player" + told + far + ")", Edge.NO_PLAYER, () -> x.player(far, far));
            Check.due("card" + told + far + ", " + far + ")", Edge.NO_PLAYER, () -> x.card(far, far, far));
            Check.due("card" + told + "0, " + far + ")", Edge.NO_PLAYER, () -> x.card(far, 0, far));
            Check.due("card" + told + far + ", 0)", Edge.NO_PLAYER, () -> x.card(far, far, 0));
            Check.due("card(1, " + far + ", " + far + ")", Edge.NO_SUCH, () -> x.card(1, far, far));
            Check.due("bid" + told + far + ")", Edge.NO_SUCH, () -> x.bid(far, far));
            Check.due("reaches" + told + far + ")", Edge.NO_PLAYER, () -> x.reaches(far, far));
            Check.due("give" + told + far + ", " + far + ")", Edge.NO_PLAYER, () -> x.give(far, far, far));
            Check.due("give" + told + far + ", 5)", Edge.NO_PLAYER, () -> x.give(far, far, 5));
            Check.due("give" + told + "12, 0)", Edge.NO_PLAYER, () -> x.give(far, 12, 0));
            Check.due("give(0, " + far + ", 5), a full hand", Edge.WRONG, () -> x.give(0, far, 5));
            Check.due("give(0, " + far + ", 0), a full hand", Edge.WRONG, () -> x.give(0, far, 0));
            Check.due("discard" + told + far + ")", Edge.NO_PLAYER, () -> x.discard(far, far));
        }
        Check.due("give(0, 12, 0), a full hand", Edge.WRONG, () -> x.give(0, 12, 0));
        Check.due("give(0, 12, 1000), a full hand", Edge.WRONG, () -> x.give(0, 12, 1000));
        Check.due("give(0, 12, 1), a full hand", Edge.REFUSES, () -> x.give(0, 12, 1));
        Edge.play(x, 0, 1);
        for (int far : Edge.FAR) {
            Check.due("play(" + far + ") when it is over", Edge.REFUSES, () -> x.play(far));
            Check.due("cancel(" + far + ", " + far + ") when it is over", Edge.REFUSES, () -> x.cancel(far, far));
            Check.due("cancel(0, " + far + ") when it is over", Edge.REFUSES, () -> x.cancel(0, far));
        }
    }

    private static void nothingChanges() {
        GroupBids x = Check.loaded("group 2;player 9;player 9;player 9;" + Edge.times(8, "card 0 12 1;")
                + "card 1 21 1;card 2 21 2;lot 5;lot 6;");
        Check.due("load with an error", Edge.RANGE, () -> Check.load(x, "group 3;lot 0;"));
        Edge.pass(x, 0);
        Edge.play(x, 0, 0);
        Edge.pass(x, 0);
        Check.due("append", 20, () -> Check.append(x, Check.bytesOf("group2;player9;lot9;"), 0));
        Edge.states(x, 2, 3, 2, 0, 0, 1, 1, 1, 0);
        for (int none : Edge.FAR) {
            Edge.keeps(x, "load(" + none + ")", Edge.WRONG, () -> x.load(none));
            Edge.keeps(x, "state(" + none + ")", Edge.WRONG, () -> x.state(none));
            Edge.keeps(x, "player(0, " + none + ")", Edge.WRONG, () -> x.player(0, none));
            Edge.keeps(x, "card(0, " + none + ", 0)", Edge.NO_SUCH, () -> x.card(0, none, 0));
            Edge.keeps(x, "bid(" + none + ", 0)", Edge.NO_SUCH, () -> x.bid(none, 0));
            Edge.keeps(x, "productOf(0, " + none + ")", Edge.WRONG, () -> x.productOf(0, none));
            Edge.keeps(x, "reach(" + none + ")", Edge.NO_PLAYER, () -> x.reach(none));
            Edge.keeps(x, "play(" + none + ")", Edge.NO_SUCH, () -> x.play(none));
            Edge.keeps(x, "cancel(0, " + none + ")", Edge.NO_SUCH, () -> x.cancel(0, none));
            Edge.keeps(x, "cancel(" + none + ", 0)", Edge.NO_SUCH, () -> x.cancel(none, 0));
            Edge.keeps(x, "give(1, " + none + ", 1)", Edge.WRONG, () -> x.give(1, none, 1));
            Edge.keeps(x, "discard(1, " + none + ")", Edge.NO_SUCH, () -> x.discard(1, none));
        }
        Edge.keeps(x, "give(1, 12, 0)", Edge.WRONG, () -> x.give(1, 12, 0));
        Edge.keeps(x, "give(1, 12, 1000)", Edge.WRONG, () -> x.give(1, 12, 1000));
        Edge.keeps(x, "give(0, 12, 1)", Edge.REFUSES, () -> x.give(0, 12, 1));
        // the buffer and the changes are as they were: load, pass, play, pass
        Check.due("append", 40, () -> Check.append(x, Check.bytesOf(""), 0));
        Edge.undo(x, 3);
        Edge.states(x, 2, 3, 2, 0, 2, 1, 1, 0, 0);
        Check.due("load(20)", 1, () -> x.load(20));
        // an auction that is over
        for (Check.Call call : new Check.Call[] {() -> x.play(0), () -> x.cancel(0, 0), x::pass}) {
            Edge.pass(x, 1);
            Edge.keeps(x, "a turn when it is over", Edge.REFUSES, call);
            Edge.undo(x, 4);
        }
    }

    private static void undoing() {
        Check.sentence("Undoes the latest change that is not final and has not been undone.", () -> {
            GroupBids x = passed(3);
            Edge.undo(x, 3);
            Edge.state(x, 3, 2);
            Edge.undo(x, 2);
            Edge.state(x, 3, 1);
            // a change behind an undo comes first
            Edge.give(x, 0, 21, 7, 1);
            Edge.undo(x, 2);
            Edge.cards(x, 0);
            Edge.state(x, 3, 1);
            Edge.undo(x, 1);
            Edge.state(x, 3, 0);
            undoOfEverything();
            undoOfAWin();
            undoOfACancel();
        });
        Check.sentence("The input buffer and the error offset are not affected.", ChangesEdgeTest::bufferAndOffset);
        Check.sentence("Returns the number of changes that can still be undone; -1 if there was none to undo, and "
                + "nothing changes then.", () -> {
            GroupBids x = new GroupBids();
            Edge.undo(x, -1);
            Edge.undo(x, -1);
            Edge.states(x, 2, 0, 0, -1, -1, 0, 0, 0, 0);
            GroupBids y = passed(9);
            for (int left = 7; left >= 0; left--) {
                Edge.undo(y, left);
            }
            long before = y.checksum();
            Edge.undo(y, -1);
            Edge.undo(y, -1);
            Check.due("checksum() behind an undo of nothing", before, y::checksum);
            Edge.pass(y, 1);
            Edge.undo(y, 0);
            Check.due("checksum() behind an undo of one", before, y::checksum);
        });
    }

    /** A load changes all data at once, and its undo brings all of them back. */
    private static void undoOfEverything() {
        GroupBids x = Check.loaded("group 3;player 90;player 80;player 70;card 0 231 5;card 0 213 6;card 1 132 7;"
                + "card 2 312 9;lot 11;lot 12;lot 13;price base+order;");
        Edge.pass(x, 0);
        Edge.play(x, 0, 0);
        Edge.pass(x, 0);
        Edge.pass(x, 0);
        Edge.pass(x, 1);
        Edge.pass(x, 0);
        Edge.play(x, 0, 0);
        Edge.states(x, 3, 3, 3, 1, 1, 1, 8, 0, 9);
        long before = x.checksum();
        Check.due("load", 1, () -> Check.load(x, "group 5;player 3;card 0 54321 2;lot 4;price 1;"));
        Edge.states(x, 5, 1, 1, 0, 0, 0, 0, 0, 0);
        Edge.undo(x, 7);
        Check.due("checksum()", before, x::checksum);
        Edge.states(x, 3, 3, 3, 1, 1, 1, 8, 0, 9);
        Edge.row(x, 231);
        Edge.cards(x, 0, 213);
        Edge.price(x, 0, 0, 8);
        Check.due("fewest(2)", 1, () -> x.fewest(2));
    }

    private static void undoOfAWin() {
        GroupBids x = Check.loaded("group 3;player 9;player 9;player 9;card 1 231 1;card 2 312 2;card 0 123 3;"
                + "lot 5;lot 6;");
        Edge.play(x, 0, 1);
        Edge.play(x, 0, 0);
        long before = x.checksum();
        Edge.play(x, 0, 1);
        Edge.states(x, 3, 3, 2, -1, -1, 0, 0, 0, 0);
        Edge.wins(x, 2, 1);
        Edge.purse(x, 2, 9 + 1 + 6);
        Edge.undo(x, 3);
        Edge.states(x, 3, 3, 2, 1, 2, 1, 1, 0, 0);
        Edge.bid(x, 0, 1, 231, 1);
        Edge.wins(x, 2, 0);
        Edge.purse(x, 2, 9);
        Edge.cards(x, 2, 312);
        Check.due("checksum()", before, x::checksum);
        Edge.undo(x, 2);
        Edge.wins(x, 0, 1);
        Edge.undo(x, 1);
        Edge.wins(x, 0, 0);
        Edge.states(x, 3, 3, 2, 0, 0, 0, 0, 0, 0);
    }

    private static void undoOfACancel() {
        GroupBids x = Check.loaded("group 3;player 9;player 9;player 9;card 0 231 1;card 1 213 2;card 2 132 3;"
                + "card 0 213 4;lot 5;");
        Edge.play(x, 0, 0);
        Edge.play(x, 0, 0);
        Edge.pass(x, 0);
        Edge.cancel(x, 0, 1, 0);
        Edge.row(x, 231);
        Edge.undo(x, 4);
        Edge.states(x, 3, 3, 1, 0, 0, 2, 3, 1, 0);
        Edge.bid(x, 0, 0, 231, 1);
        Edge.bid(x, 1, 1, 213, 2);
        Edge.purse(x, 0, 8);
        Edge.purse(x, 1, 7);
        Edge.cards(x, 0, 213);
    }

    private static void bufferAndOffset() {
        GroupBids x = Check.loaded("group 2;player 1;lot 9;");
        byte[] text = Check.bytesOf("group 3;player 7;   ");
        Check.due("load with an error", Edge.SYNTAX, () -> Check.load(x, "group 2;player x;"));
        Check.due("append", 20, () -> Check.append(x, text, 0));
        Edge.undo(x, 0);
        Check.due("errorOffset()", 15, x::errorOffset);
        Check.due("append", 40, () -> Check.append(x, text, 20));
        Edge.undo(x, -1);
        Check.due("append", 60, () -> Check.append(x, text, 20));
        Check.due("load(17)", 1, () -> x.load(17));
        Check.due("errorOffset()", -1, x::errorOffset);
        // the undo of the load does not bring back the text, nor the offset before it
        Edge.undo(x, 0);
        Check.due("errorOffset()", -1, x::errorOffset);
        Check.due("load(1)", Edge.WRONG, () -> x.load(1));
        Check.due("append", 20, () -> Check.append(x, text, 0));
    }

    private static void codes() {
        Check.sentence("`SYNTAX_ERROR = -2`: Error code of load: the text does not follow the grammar.", () -> {
            Check.due("SYNTAX_ERROR", -2, () -> GroupBids.SYNTAX_ERROR);
            Edge.bad("group 2", -2, 7);
        });
        Check.sentence("`OUT_OF_RANGE = -3`: Error code of load: a number is not allowed.", () -> {
            Check.due("OUT_OF_RANGE", -3, () -> GroupBids.OUT_OF_RANGE);
            Edge.bad("group 6;", -3, 6);
        });
        Check.sentence("`TOO_MANY = -4`: Error code of load: too many players, lots or cards.", () -> {
            Check.due("TOO_MANY", -4, () -> GroupBids.TOO_MANY);
            Edge.bad("group 2;" + Edge.times(6, "player 1;"), -4, 53);
            Edge.bad("group 2;" + Edge.times(13, "lot 1;"), -4, 80);
            Edge.bad("group 2;player 1;" + Edge.times(9, "card 0 12 1;"), -4, 17 + 96 + 5);
        });
        Check.sentence("`TOO_DEEP = -5`: Error code of load: parentheses are nested too deeply.", () -> {
            Check.due("TOO_DEEP", -5, () -> GroupBids.TOO_DEEP);
            Edge.bad("group 2;price (((((", -5, 18);
        });
    }
}

/** The edges that "Turns" and the promises 20 to 22 name: a test for each sentence. */
public final class TurnsEdgeTest {
    private static final String REFUSAL = "Returns 1 if it wins the lot, otherwise 0; -1 if this is refused (nothing "
            + "is done then, and it is still its turn).";

    public static void main(String[] args) {
        Check.sentence("To play a card: its price goes from the purse to the pot; a bid with its element and this "
                + "price comes to the end of the row, and the card goes.", TurnsEdgeTest::playing);
        Check.sentence("This is refused if there are 20 bids, or the purse is smaller than the price.", () -> {
            fullRow();
            shortPurse();
        });
        Check.sentence("To cancel a bid with a card: this is refused if the element of the card is not the inverse of "
                + "that of the bid, or if its price is smaller than that of the bid, or the purse is smaller than its "
                + "price.", () -> {
            notTheInverse();
            smallerPrice();
            shortPurseForCancel();
            cancelWithFullRow();
        });
        Check.sentence("Otherwise its price goes from the purse to the pot first, then the price of the bid goes from "
                + "the pot to the purse of the player of this bid (which is limited then),", () -> {
            moneyOfAnother();
            moneyOfOneself();
        });
        Check.sentence("the bid is taken out of the row (the places behind it become smaller by 1), and the card "
                + "goes.", () -> {
            cancelled(0, 1324, 1243, 4123);
            cancelled(1, 2134, 1243, 4123);
            cancelled(2, 2134, 1324, 4123);
            cancelled(3, 2134, 1324, 1243);
        });
        passes();
        winning();
        withdrawing();
        Check.sentence("A lot that becomes present has no bids, no passes and the pot 0 (there are none behind the "
                + "last lot, too, and the pot is 0).", TurnsEdgeTest::newLots);
        Check.sentence("In each case it is the turn of the next player then (player 0 behind the last one).",
                TurnsEdgeTest::turns);
        answers();
        exceptions();
        Check.end();
    }

    private static void playing() {
        GroupBids x = Check.loaded("group 3;player 20;player 9;card 0 231 5;card 0 132 6;card 1 213 7;lot 9;"
                + "price base*(bids+1);");
        Edge.play(x, 0, 0);
        Edge.purse(x, 0, 15);
        Edge.state(x, 6, 5);
        Edge.bid(x, 0, 0, 231, 5);
        Edge.cards(x, 0, 132);
        Edge.play(x, 0, -1);
        Edge.pass(x, 0);
        Edge.play(x, 0, 0);
        Edge.purse(x, 0, 3);
        Edge.state(x, 6, 17);
        // the price that a bid had stays with it, and the new one is behind it
        Edge.bid(x, 0, 0, 231, 5);
        Edge.bid(x, 1, 0, 132, 12);
        Edge.cards(x, 0);
        Edge.cards(x, 1, 213);
        Edge.purse(x, 1, 9);
    }

    /** One player, 20 bids with the product 21345, and a neutral card. */
    private static GroupBids full(String price) {
        GroupBids x = Check.loaded("group 5;player 99;lot 7;price " + price + ";");
        Edge.bidWith(x, 21345, 1, 0);
        for (int bid = 1; bid < 20; bid++) {
            Edge.bidWith(x, 12345, 1, 0);
        }
        Edge.state(x, 5, 20);
        return x;
    }

    private static void fullRow() {
        GroupBids x = full("1");
        Edge.purse(x, 0, 79);
        Edge.bidWith(x, 21345, 2, -1);
        Edge.bidWith(x, 12345, 3, -1);
        Edge.state(x, 5, 20);
        Edge.state(x, 6, 20);
        Edge.purse(x, 0, 79);
        Edge.cards(x, 0, 21345, 12345);
        // with 19 bids, the 20th is played, and it may win
        Edge.cancel(x, 1, 19, 0);
        Edge.state(x, 5, 19);
        Edge.play(x, 0, 1);
    }

    private static void shortPurse() {
        GroupBids x = Check.loaded("group 3;player 9;player 0;card 0 231 10;card 0 231 9;card 1 213 1;lot 5;");
        Edge.play(x, 0, -1);
        Edge.purse(x, 0, 9);
        Edge.play(x, 1, 0);
        Edge.purse(x, 0, 0);
        Edge.play(x, 0, -1);
        Edge.row(x, 231);
        GroupBids free = Check.loaded("group 3;player 0;card 0 231 10;card 0 312 1;lot 5;price base-10;");
        Edge.play(free, 0, 0);
        Edge.bid(free, 0, 0, 231, 0);
        Edge.play(free, 0, 1);
        Edge.purse(free, 0, 5);
        // the pot and the value of the lot do not help to pay for the card that would win them
        GroupBids rich = Check.loaded("group 2;player 0;card 0 12 1;lot 9999;");
        Edge.play(rich, 0, -1);
    }

    private static void notTheInverse() {
        // the order 3: an element is not its own inverse
        cancels("group 3;player 9;card 0 231 1;card 0 231 2;lot 5;", -1);
        cancels("group 3;player 9;card 0 231 1;card 0 312 2;lot 5;", 0);
        cancels("group 3;player 9;card 0 231 1;card 0 123 2;lot 5;", -1);
        cancels("group 3;player 9;card 0 231 1;card 0 213 2;lot 5;", -1);
        // the order 2: it is
        cancels("group 3;player 9;card 0 213 1;card 0 213 2;lot 5;", 0);
        cancels("group 3;player 9;card 0 213 1;card 0 132 2;lot 5;", -1);
        cancels("group 5;player 9;card 0 23451 1;card 0 51234 2;lot 5;", 0);
        cancels("group 5;player 9;card 0 23451 1;card 0 23451 2;lot 5;", -1);
        // a neutral card cancels a neutral bid
        GroupBids x = Check.loaded("group 3;player 9;card 0 213 1;card 0 123 1;card 0 123 1;lot 5;");
        Edge.play(x, 0, 0);
        Edge.play(x, 0, 0);
        Edge.cancel(x, 0, 0, -1);
        Edge.cancel(x, 0, 1, 0);
        Edge.row(x, 213);
    }

    /** The first card is played, the next one is to cancel it. */
    private static void cancels(String text, int want) {
        GroupBids x = Check.loaded(text);
        Edge.play(x, 0, 0);
        Edge.cancel(x, 0, 0, want);
    }

    private static void smallerPrice() {
        cancels("group 2;player 99;card 0 21 10;card 0 21 9;lot 5;", -1);
        cancels("group 2;player 99;card 0 21 10;card 0 21 10;lot 5;", 0);
        cancels("group 2;player 99;card 0 21 10;card 0 21 11;lot 5;", 0);
        // what counts is the price at the present time, not the base price
        cancels("group 2;player 99;card 0 21 10;card 0 21 11;lot 5;price base-2*bids;", -1);
        cancels("group 2;player 99;card 0 21 10;card 0 21 9;lot 5;price base+bids;", 0);
        cancels("group 2;player 99;card 0 21 10;card 0 21 1;lot 5;price 0;", 0);
    }

    private static void shortPurseForCancel() {
        // 20 less 10 are left for the second card; what would come back does not count
        cancels("group 2;player 20;card 0 21 10;card 0 21 11;lot 5;", -1);
        cancels("group 2;player 20;card 0 21 10;card 0 21 10;lot 5;", 0);
        cancels("group 2;player 21;card 0 21 10;card 0 21 11;lot 5;", 0);
        GroupBids x = Check.loaded("group 2;player 20;player 9;player 10;card 0 21 10;card 1 21 10;card 2 21 10;"
                + "lot 5;");
        Edge.play(x, 0, 0);
        Edge.cancel(x, 0, 0, -1);
        Edge.pass(x, 0);
        Edge.cancel(x, 0, 0, 0);
        Edge.purse(x, 0, 20);
        Edge.purse(x, 2, 0);
    }

    private static void cancelWithFullRow() {
        GroupBids x = full("base");
        Edge.give(x, 0, 21345, 5, 1);
        Edge.cancel(x, 0, 0, 1);
        Edge.purse(x, 0, 99 + 7);
    }

    private static void moneyOfAnother() {
        GroupBids x = Check.loaded("group 3;player 50;player 30;card 0 231 10;card 1 312 25;lot 5;");
        Edge.play(x, 0, 0);
        Edge.cancel(x, 0, 0, 0);
        Edge.purse(x, 0, 50);
        Edge.purse(x, 1, 5);
        Edge.state(x, 6, 25);
    }

    private static void moneyOfOneself() {
        GroupBids x = Check.loaded("group 3;player 50;player 30;card 0 231 10;card 0 312 40;lot 5;");
        Edge.play(x, 0, 0);
        Edge.pass(x, 0);
        Edge.cancel(x, 0, 0, 0);
        Edge.purse(x, 0, 50 - 10 - 40 + 10);
        Edge.state(x, 6, 40);
        Edge.purse(x, 1, 30);
        // an empty purse gets what the bid had cost
        GroupBids y = Check.loaded("group 3;player 10;player 10;card 0 231 10;card 1 312 10;lot 5;");
        Edge.play(y, 0, 0);
        Edge.purse(y, 0, 0);
        Edge.cancel(y, 0, 0, 0);
        Edge.purse(y, 0, 10);
        Edge.purse(y, 1, 0);
        Edge.state(y, 6, 10);
    }

    /** Cancels one of the bids 2134, 1324, 1243 and 4123, and tells the row behind it. */
    private static void cancelled(int bid, int... row) {
        GroupBids x = Check.loaded("group 4;" + Edge.times(5, "player 99;") + "card 0 2134 1;card 1 1324 2;"
                + "card 2 1243 3;card 3 4123 4;card 4 2134 11;card 4 1324 12;card 4 1243 13;card 4 2341 14;lot 5;");
        for (int player = 0; player < 4; player++) {
            Edge.play(x, 0, 0);
        }
        Edge.cancel(x, bid, bid, 0);
        Edge.row(x, row);
        for (int place = 0; place < 3; place++) {
            // player k had bid k for the price k + 1
            int player = place < bid ? place : place + 1;
            Edge.bid(x, place, player, row[place], player + 1);
        }
        Edge.state(x, 6, 1 + 2 + 3 + 4 + 11 + bid - (bid + 1));
        Edge.purse(x, bid, 99);
        Edge.purse(x, 4, 99 - 11 - bid);
        Check.due("player(4, 1)", 3, () -> x.player(4, 1));
    }

    private static void passes() {
        Check.sentence("To pass: the number of passes becomes greater by 1.", () -> {
            GroupBids x = Check.loaded("group 2;" + Edge.times(5, "player 9;") + "lot 5;");
            for (int passes = 1; passes <= 4; passes++) {
                Edge.pass(x, 0);
                Edge.state(x, 7, passes);
            }
        });
        Check.sentence("Playing and cancelling set the number of passes to 0.", () -> {
            GroupBids x = Check.loaded("group 3;" + Edge.times(3, "player 9;") + "card 2 231 1;card 1 312 10;"
                    + "card 1 312 2;lot 5;");
            Edge.pass(x, 0);
            Edge.pass(x, 0);
            Edge.play(x, 0, 0);
            Edge.state(x, 7, 0);
            Edge.pass(x, 0);
            // a refused one does not
            Edge.play(x, 0, -1);
            Edge.state(x, 7, 1);
            Edge.cancel(x, 0, 0, -1);
            Edge.state(x, 7, 1);
            Edge.cancel(x, 1, 0, 0);
            Edge.state(x, 7, 0);
            // and nothing else does
            Edge.pass(x, 0);
            Edge.give(x, 0, 213, 5, 1);
            Edge.give(x, 1, 213, 5, 2);
            x.discard(0, 0);
            Edge.state(x, 7, 1);
            Edge.undo(x, 7);
            Edge.undo(x, 6);
            Edge.undo(x, 5);
            Edge.undo(x, 4);
            Edge.state(x, 7, 0);
            // so it takes three passes again
            Edge.pass(x, 0);
            Edge.pass(x, 0);
            Edge.pass(x, 1);
        });
    }

    private static void winning() {
        Check.sentence("If there are bids behind a card that was played or a bid that was cancelled, and the product "
                + "is neutral, the player wins the lot", () -> {
            emptyRowWinsNothing();
            cancelWins();
            oneCardWins();
            lastBidWins();
        });
        Check.sentence("the value of the lot and the pot go to its purse, and the next lot is present.", () -> {
            GroupBids x = Check.loaded("group 3;player 50;player 50;card 0 231 10;card 1 312 20;lot 9999;lot 1;"
                    + "price base;");
            Edge.play(x, 0, 0);
            Edge.play(x, 0, 1);
            Edge.purse(x, 0, 40);
            Edge.purse(x, 1, 30 + 30 + 9999);
            Edge.wins(x, 0, 0);
            Edge.wins(x, 1, 1);
            Edge.state(x, 3, 1);
            Edge.state(x, 8, 0);
        });
    }

    private static void emptyRowWinsNothing() {
        // the row is empty behind this bid, so its neutral product wins nothing
        GroupBids x = Check.loaded("group 2;player 9;player 9;card 0 21 1;card 1 21 2;lot 5;lot 6;");
        Edge.play(x, 0, 0);
        Edge.cancel(x, 0, 0, 0);
        Edge.states(x, 2, 2, 2, 0, 0, 0, 2, 0, 0);
        Edge.wins(x, 1, 0);
        Edge.purse(x, 1, 7);
    }

    private static void cancelWins() {
        // 231 is cancelled, and 213 * 213 is left: he who cancels wins
        GroupBids x = Check.loaded("group 3;player 9;player 9;card 0 213 1;card 1 231 1;card 0 213 1;card 1 312 1;"
                + "lot 5;");
        Edge.play(x, 0, 0);
        Edge.play(x, 0, 0);
        Edge.play(x, 0, 0);
        Edge.cancel(x, 0, 1, 1);
        Edge.wins(x, 0, 0);
        Edge.wins(x, 1, 1);
        Edge.purse(x, 0, 7);
        // one 1 came back to it, and the pot held 3
        Edge.purse(x, 1, 9 - 1 - 1 + 1 + 3 + 5);
        // he who cancels the bid of another wins too, and the other gets its price back
        GroupBids z = Check.loaded("group 3;player 9;player 9;player 9;card 0 213 1;card 1 231 2;card 2 213 3;"
                + "card 0 312 4;lot 5;");
        Edge.play(z, 0, 0);
        Edge.play(z, 0, 0);
        Edge.play(z, 0, 0);
        Edge.cancel(z, 0, 1, 1);
        Edge.wins(z, 0, 1);
        Edge.wins(z, 1, 0);
        Edge.purse(z, 0, 9 - 1 - 4 + 1 + 3 + 4 + 5);
        Edge.purse(z, 1, 9);
        // a cancel that leaves bids with another product wins nothing
        GroupBids y = Check.loaded("group 3;player 9;card 0 213 1;card 0 231 1;card 0 312 1;lot 5;");
        Edge.play(y, 0, 0);
        Edge.play(y, 0, 0);
        Edge.cancel(y, 0, 1, 0);
        Edge.row(y, 213);
        Edge.wins(y, 0, 0);
    }

    private static void oneCardWins() {
        GroupBids x = Check.loaded("group 4;player 9;card 0 1243 1;card 0 1234 2;lot 5;");
        Edge.play(x, 0, 0);
        Edge.play(x, 0, 0);
        Edge.wins(x, 0, 0);
        Edge.undo(x, 2);
        Edge.undo(x, 1);
        Edge.play(x, 1, 1);
        Edge.wins(x, 0, 1);
    }

    private static void lastBidWins() {
        GroupBids x = Check.loaded("group 5;player 99;lot 7;price 1;");
        Edge.bidWith(x, 21345, 1, 0);
        for (int bid = 1; bid < 19; bid++) {
            Edge.bidWith(x, 12345, 1, 0);
        }
        Edge.bidWith(x, 21345, 1, 1);
        Edge.purse(x, 0, 99 + 7);
    }

    private static void withdrawing() {
        Check.sentence("If the number of passes is equal to the number of players behind a pass, the lot is "
                + "withdrawn: the pot goes to the house, and the next lot is present.", () -> {
            for (int players = 1; players <= 5; players++) {
                GroupBids x = Check.loaded("group 2;" + Edge.times(players, "player 9;") + "card 0 21 4;lot 3;lot 5;");
                Edge.play(x, 0, 0);
                for (int pass = 1; pass < players; pass++) {
                    Edge.pass(x, 0);
                    Edge.state(x, 3, 0);
                }
                Edge.pass(x, 1);
                Edge.states(x, 2, players, 2, 1, 1 % players, 0, 0, 0, 4);
                Edge.purse(x, 0, 5);
                Edge.wins(x, 0, 0);
            }
        });
        Check.sentence("what went to the house so far", () -> {
            GroupBids x = Check.loaded("group 2;player 99;card 0 21 4;card 0 21 7;lot 3;lot 5;lot 6;");
            Edge.state(x, 8, 0);
            Edge.play(x, 0, 0);
            Edge.pass(x, 1);
            Edge.state(x, 8, 4);
            Edge.play(x, 0, 0);
            Edge.pass(x, 1);
            Edge.state(x, 8, 11);
            Edge.pass(x, 1);
            Edge.state(x, 8, 11);
        });
    }

    private static void newLots() {
        String text = "group 3;player 50;player 50;card 0 231 1;card 1 312 2;card 0 213 3;lot 5;lot 6;";
        GroupBids won = Check.loaded(text);
        Edge.pass(won, 0);
        Edge.pass(won, 1);
        Edge.play(won, 0, 0);
        Edge.play(won, 0, 1);
        Edge.states(won, 3, 2, 2, -1, -1, 0, 0, 0, 0);
        Edge.row(won);
        Check.due("product() behind the last lot", 123, won::product);
        GroupBids withdrawn = Check.loaded(text);
        Edge.play(withdrawn, 0, 0);
        Edge.pass(withdrawn, 0);
        Edge.pass(withdrawn, 1);
        Edge.states(withdrawn, 3, 2, 2, 1, 1, 0, 0, 0, 1);
        Edge.row(withdrawn);
        Check.due("product() of a new lot", 123, withdrawn::product);
        Edge.pass(withdrawn, 0);
        Edge.play(withdrawn, 0, 0);
        Edge.pass(withdrawn, 0);
        Edge.pass(withdrawn, 1);
        Edge.states(withdrawn, 3, 2, 2, -1, -1, 0, 0, 0, 4);
        Edge.row(withdrawn);
        GroupBids next = Check.loaded(text + "card 0 321 4;card 1 132 5;");
        Edge.play(next, 0, 0);
        Edge.play(next, 0, 1);
        Edge.states(next, 3, 2, 2, 1, 0, 0, 0, 0, 0);
        Edge.row(next);
        // the bids of the lot before are gone for good
        Edge.pass(next, 0);
        Edge.play(next, 0, 0);
        Edge.play(next, 0, 0);
        Edge.row(next, 132, 213);
        Edge.bid(next, 0, 1, 132, 5);
        Edge.bid(next, 1, 0, 213, 3);
    }

    private static void turns() {
        GroupBids x = Check.loaded("group 3;player 99;player 99;player 99;card 0 231 1;card 1 213 1;card 2 213 2;"
                + "card 1 123 1;card 2 231 2;card 0 312 9;lot 5;lot 6;lot 7;");
        Edge.play(x, 0, 0);
        Edge.state(x, 4, 1);
        Edge.play(x, 0, 0);
        Edge.state(x, 4, 2);
        // a cancel by the last player: player 0 is next
        Edge.cancel(x, 0, 1, 0);
        Edge.state(x, 4, 0);
        Edge.play(x, 0, 1);
        Edge.states(x, 3, 3, 3, 1, 1);
        Edge.pass(x, 0);
        Edge.state(x, 4, 2);
        Edge.pass(x, 0);
        Edge.state(x, 4, 0);
        // a withdrawn lot: the turn goes on, it does not start anew
        Edge.pass(x, 1);
        Edge.states(x, 3, 3, 3, 2, 1);
        GroupBids alone = Check.loaded("group 3;player 99;card 0 231 1;card 0 312 2;card 0 123 1;lot 5;lot 6;lot 7;");
        Edge.play(alone, 0, 0);
        Edge.state(alone, 4, 0);
        Edge.cancel(alone, 0, 0, 0);
        Edge.state(alone, 4, 0);
        Edge.play(alone, 0, 1);
        Edge.state(alone, 4, 0);
        Edge.pass(alone, 1);
        Edge.states(alone, 3, 1, 3, 2, 0);
        // the last of five players plays, and wins
        GroupBids five = Check.loaded("group 3;" + Edge.times(5, "player 9;") + "card 4 231 1;card 4 312 1;lot 5;"
                + "lot 6;");
        for (int player = 0; player < 4; player++) {
            Edge.state(five, 4, player);
            Edge.pass(five, 0);
        }
        Edge.state(five, 4, 4);
        Edge.play(five, 0, 0);
        for (int player = 0; player < 4; player++) {
            Edge.state(five, 4, player);
            Edge.pass(five, 0);
        }
        Edge.play(five, 0, 1);
        Edge.states(five, 3, 5, 2, 1, 0);
    }

    private static void answers() {
        Check.sentence(REFUSAL, () -> {
            GroupBids x = Check.loaded("group 3;player 50;player 9;player 9;card 0 231 5;card 2 213 10;"
                    + "card 2 231 7;card 2 312 4;card 2 312 10;lot 5;lot 6;");
            Edge.play(x, 0, 0);
            Edge.pass(x, 0);
            long before = x.checksum();
            refused(x, before, "play(0), dearer than the purse", () -> x.play(0));
            refused(x, before, "cancel(1, 0), not the inverse", () -> x.cancel(1, 0));
            refused(x, before, "cancel(2, 0), cheaper than the bid", () -> x.cancel(2, 0));
            refused(x, before, "cancel(3, 0), dearer than the purse", () -> x.cancel(3, 0));
            Edge.state(x, 4, 2);
            Edge.pass(x, 0);
            Edge.pass(x, 1);
        });
        Check.sentence("Returns 1 if the lot is withdrawn, otherwise 0.", () -> {
            GroupBids x = Check.loaded("group 3;player 50;player 9;lot 5;lot 6;");
            Edge.pass(x, 0);
            Edge.pass(x, 1);
            Edge.pass(x, 0);
            Edge.pass(x, 1);
        });
    }

    private static void refused(GroupBids x, long before, String what, Check.Call call) {
        Check.due(what, -1, call);
        Check.due("checksum() behind " + what, before, x::checksum);
    }

    private static void exceptions() {
        Check.sentence("Throws `IllegalStateException` if the auction is over", () -> {
            overThrows(new GroupBids(), "a new object");
            overThrows(Check.loaded("group 2;lot 5;"), "without players");
            overThrows(Check.loaded("group 2;player 5;card 0 12 1;"), "without lots");
            GroupBids sold = Check.loaded("group 2;player 5;card 0 12 1;card 0 12 1;lot 5;");
            Edge.play(sold, 0, 1);
            overThrows(sold, "behind the last lot");
            GroupBids withdrawn = Check.loaded("group 2;player 5;card 0 12 1;card 0 12 1;lot 5;");
            Edge.pass(withdrawn, 1);
            overThrows(withdrawn, "behind the last lot, withdrawn");
        });
        Check.sentence("Throws `NoSuchElementException` if there is no such card", () -> {
            GroupBids x = Check.loaded("group 2;player 9;player 9;card 0 21 1;card 0 21 2;card 1 12 1;"
                    + "card 1 12 1;card 1 12 1;lot 5;");
            for (int card : new int[] {-1, 2, 3, Integer.MAX_VALUE, Integer.MIN_VALUE}) {
                Edge.keeps(x, "play(" + card + ")", Edge.NO_SUCH, () -> x.play(card));
            }
            GroupBids none = Check.loaded("group 2;player 9;lot 5;");
            Edge.keeps(none, "play(0) without cards", Edge.NO_SUCH, () -> none.play(0));
        });
        Check.sentence("Throws `NoSuchElementException` if there is no such card or no such bid", () -> {
            GroupBids x = Check.loaded("group 2;player 9;player 9;card 0 21 1;card 0 21 2;card 1 12 1;lot 5;");
            Edge.keeps(x, "cancel(0, 0) without bids", Edge.NO_SUCH, () -> x.cancel(0, 0));
            Edge.play(x, 0, 0);
            Edge.pass(x, 0);
            for (int place : new int[] {-1, 1, 2, Integer.MAX_VALUE, Integer.MIN_VALUE}) {
                Edge.keeps(x, "cancel(" + place + ", 0)", Edge.NO_SUCH, () -> x.cancel(place, 0));
                Edge.keeps(x, "cancel(0, " + place + ")", Edge.NO_SUCH, () -> x.cancel(0, place));
            }
            Edge.cancel(x, 0, 0, 0);
        });
    }

    private static void overThrows(GroupBids x, String when) {
        Edge.keeps(x, when + ": play(0)", Edge.REFUSES, () -> x.play(0));
        Edge.keeps(x, when + ": cancel(0, 0)", Edge.REFUSES, () -> x.cancel(0, 0));
        Edge.keeps(x, when + ": pass()", Edge.REFUSES, x::pass);
    }
}

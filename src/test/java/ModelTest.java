import java.util.List;

/** Many runs of calls, made by a counter that every run starts anew, on the class and on the SlowModel. */
public final class ModelTest {
    private static final String[] SIGNS = {";", "+", "-", "*", "/", "(", ")", " ", "", "\t", "%", "\u00ff", "\u0000"};
    private static final String[] WORDS = {"group", "player", "card", "lot", "price", "base", "order", "bids", "pot",
        "x", "Base", "basepot"};
    private static final String[] NUMBERS = {"0", "1", "2", "5", "6", "8", "12", "21", "231", "999", "1000", "9999",
        "10000", "99999", "100000", "54321", "4294967297", "0000000012", "99999999999999999999"};

    private long seed;
    private GroupBids fast;
    private SlowModel slow;
    private int n;
    private boolean longRow;
    private String run = "";

    private ModelTest(long seed) {
        this.seed = seed * 7919 + 12345;
    }

    public static void main(String[] args) {
        for (int round = 0; round < 3000 && Check.wrong() < 20; round++) {
            new ModelTest(round).texts(round);
        }
        for (int round = 0; round < 1500 && Check.wrong() < 20; round++) {
            new ModelTest(round).auction(round);
        }
        Check.end();
    }

    private int any(int below) {
        seed = seed * 6364136223846793005L + 1442695040888963407L;
        return (int) ((seed >>> 33) % below);
    }

    private <T> T one(T[] choice) {
        return choice[any(choice.length)];
    }

    private String spaces() {
        return any(3) == 0 ? " ".repeat(any(3)) : "";
    }

    private int element() {
        List<int[]> all = SlowModel.allElements(n);
        return SlowModel.told(all.get(any(all.size())));
    }

    // texts

    private void texts(int round) {
        fast = new GroupBids();
        slow = new SlowModel();
        for (int i = 0; i < 8; i++) {
            String text = setup(any(4) == 0 ? 12 : 4);
            for (int change = any(3); change > 0; change--) {
                text = spoiled(text);
            }
            text = text.substring(0, Math.min(700, text.length()));
            same("round " + round + " load of " + text, text);
        }
    }

    private String spoiled(String text) {
        int at = any(text.length() + 1);
        int end = Math.min(text.length(), at + any(4));
        String put = any(4) == 0 ? one(WORDS) : any(2) == 0 ? one(NUMBERS) : one(SIGNS);
        switch (any(4)) {
            case 0: return text.substring(0, at);
            case 1: return text.substring(0, at) + put + text.substring(end);
            case 2: return text.substring(0, at) + put + text.substring(at);
            default: return text.substring(0, at) + text.substring(end);
        }
    }

    private String setup(int most) {
        n = 2 + any(4);
        StringBuilder text = new StringBuilder(spaces() + "group" + spaces() + n + spaces() + ";");
        int players = 0;
        boolean price = false;
        for (int i = any(3 * most); i >= 0; i--) {
            int kind = any(8);
            if (kind == 0 && !price) {
                price = true;
                text.append("price " + rule(any(6) == 0 ? 5 : 3)).append(spaces()).append(";");
            } else if (kind <= 2) {
                text.append(spaces() + "lot" + spaces() + (1 + any(any(5) == 0 ? 9999 : 50)) + spaces() + ";");
            } else if (kind <= 4 || players == 0) {
                text.append(spaces() + "player" + spaces() + any(any(4) == 0 ? 30 : 99999) + spaces() + ";");
                players++;
            } else {
                text.append(spaces() + "card" + spaces() + any(players) + " " + element() + " " + (1 + any(30))
                        + spaces() + ";");
            }
        }
        return text + spaces();
    }

    private String rule(int depth) {
        StringBuilder text = new StringBuilder();
        for (int i = any(4); i >= 0; i--) {
            int kind = any(9);
            String factor = kind < 4 ? WORDS[5 + kind] : kind < 7 || depth == 0 ? String.valueOf(any(
                    any(3) == 0 ? 10000 : 4)) : "(" + rule(depth - 1) + ")";
            text.append(spaces()).append(factor).append(spaces());
            if (i > 0) {
                text.append(SIGNS[1 + any(4)]);
            }
        }
        return text.toString();
    }

    private void same(String what, String text) {
        byte[] bytes = Check.bytesOf(text);
        for (int from = 0; from < bytes.length; from += 20) {
            int at = from;
            int[] w = new int[5];
            for (int i = 0; i < 5; i++) {
                w[i] = Check.word(bytes, at + 4 * i);
            }
            ask("append", () -> fast.append(w[0], w[1], w[2], w[3], w[4]), () -> slow.append(w));
        }
        ask(what, () -> fast.load(bytes.length), () -> slow.load(bytes.length));
        ask(what + " errorOffset", () -> fast.errorOffset(), () -> slow.errorOffset());
        ask(what + " checksum", () -> fast.checksum(), () -> slow.checksum());
    }

    private void ask(String what, Check.Call call, Check.Call wanted) {
        Check.due(run + what, Check.answerOf(wanted), call);
    }

    // auctions

    private String auctionText() {
        n = longRow ? 5 : any(3) == 0 ? 2 + any(2) : 2 + any(4);
        StringBuilder text = new StringBuilder("group " + n + ";");
        int players = 1 + any(longRow ? 2 : 5);
        for (int i = 0; i < players; i++) {
            text.append("player ").append(any(any(3) == 0 && !longRow ? 40 : 99999)).append(";");
        }
        for (int lot = any(4) == 0 ? any(3) : 12; lot > 0; lot--) {
            text.append("lot ").append(1 + any(9999)).append(";");
        }
        if (any(3) != 0) {
            text.append("price ").append(any(2) == 0 ? rule(2) : "base+bids*order").append(";");
        }
        while (text.length() < 640 && any(longRow ? 60 : 20) != 0) {
            text.append("card ").append(any(players)).append(" ").append(element()).append(" ")
                    .append(1 + any(any(3) == 0 ? 999 : 20)).append(";");
        }
        return text.toString();
    }

    private void auction(int round) {
        fast = new GroupBids();
        slow = new SlowModel();
        run = "round " + round + ": ";
        boolean bigHands = any(30) == 0;
        longRow = any(3) == 0;
        // load and what stands behind it take at most 40 calls, a round of the loop about 15
        for (int calls = 0; calls + 60 < 512; calls += 20) {
            if (calls == 0 || slow.state(3) == -1 && any(3) == 0 || any(60) == 0) {
                String text = auctionText();
                same("load of " + text, text);
                calls += 40;
            }
            for (int i = 0; i < 4; i++) {
                change();
            }
            ask("checksum", () -> fast.checksum(), () -> slow.checksum());
            question(bigHands);
            if (any(4) == 0) {
                questionOfElements();
            }
        }
    }

    private int place(int size) {
        return any(12) == 0 ? any(25) - 2 : any(Math.max(1, size));
    }

    private int anyPlayer() {
        return place(slow.state(1));
    }

    private int anyElement() {
        return any(15) == 0 ? any(60000) - 10 : element();
    }

    private int cardsInTurn() {
        return slow.state(4) < 0 ? 1 : slow.player(slow.state(4), 1);
    }

    private void change() {
        int kind = longRow && any(3) != 0 ? any(2) * 13 : any(20);
        int player = any(2) == 0 ? slow.state(4) : anyPlayer();
        int card = place(cardsInTurn());
        int bid = place(slow.state(5));
        if (kind >= 8 && kind < 11 && any(4) != 0) {
            int[] pair = cancelling(card, bid);
            card = pair[0];
            bid = pair[1];
        }
        change(kind, player, card, bid);
    }

    /** A card of the player in turn and a bid that it cancels, if there are such. */
    private int[] cancelling(int card, int bid) {
        for (int i = 0; i < cardsInTurn() && slow.state(4) >= 0; i++) {
            for (int j = 0; j < slow.state(5); j++) {
                if (slow.card(slow.state(4), i, 0) == slow.inverse(slow.bid(j, 1)) && any(3) != 0) {
                    return new int[] {i, j};
                }
            }
        }
        return new int[] {card, bid};
    }

    private void change(int kind, int player, int card, int bid) {
        int element = wantedElement(bid);
        int base = any(12) == 0 ? any(1100) - 20 : 1 + any(15);
        if (kind < 8) {
            ask("play(" + card + ")", () -> fast.play(card), () -> slow.play(card));
        } else if (kind < 11) {
            ask("cancel(" + card + ", " + bid + ")", () -> fast.cancel(card, bid), () -> slow.cancel(card, bid));
        } else if (kind < 13) {
            ask("pass()", () -> fast.pass(), () -> slow.pass());
        } else if (kind < 17) {
            ask("give(" + player + ", " + element + ", " + base + ")", () -> fast.give(player, element, base),
                    () -> slow.give(player, element, base));
        } else if (kind < 18) {
            ask("discard(" + player + ", " + card + ")", () -> fast.discard(player, card),
                    () -> slow.discard(player, card));
        } else {
            for (int i = any(4) == 0 ? any(9) : 1; i > 0; i--) {
                ask("undo()", () -> fast.undo(), () -> slow.undo());
            }
        }
    }

    /** Often an element that cancels a bid, or the one that wins. */
    private int wantedElement(int bid) {
        if (bid >= 0 && bid < slow.state(5) && any(2) == 0) {
            return slow.inverse(any(3) == 0 ? slow.product() : slow.bid(bid, 1));
        }
        return anyElement();
    }

    private void question(boolean bigHands) {
        int player = anyPlayer();
        int what = any(12) - 1;
        int card = any(10) - 1;
        int bid = place(slow.state(5));
        switch (any(4)) {
            case 0:
                ask("state(" + what + ")", () -> fast.state(what), () -> slow.state(what));
                ask("player(" + player + ", " + what + ")", () -> fast.player(player, what),
                        () -> slow.player(player, what));
                return;
            case 1:
                ask("card(" + player + ", " + card + ", " + what + ")", () -> fast.card(player, card, what),
                        () -> slow.card(player, card, what));
                ask("bid(" + bid + ", " + what + ")", () -> fast.bid(bid, what), () -> slow.bid(bid, what));
                return;
            default:
                hand(player, bigHands);
        }
    }

    private void hand(int player, boolean bigHands) {
        ask("generated(" + player + ")", () -> fast.generated(player), () -> slow.generated(player));
        boolean isPlayer = player >= 0 && player < slow.state(1);
        if (isPlayer && slow.player(player, 1) > 6 && !bigHands) {
            return;
        }
        int element = anyElement();
        String told = "(" + player + ")";
        ask("fewest" + told, () -> fast.fewest(player), () -> slow.fewest(player));
        ask("cheapest" + told, () -> fast.cheapest(player), () -> slow.cheapest(player));
        ask("opening" + told, () -> fast.opening(player), () -> slow.opening(player));
        ask("reach" + told, () -> fast.reach(player), () -> slow.reach(player));
        ask("reaches(" + player + ", " + element + ")", () -> fast.reaches(player, element),
                () -> slow.reaches(player, element));
    }

    private void questionOfElements() {
        int a = anyElement();
        int b = anyElement();
        int from = any(8) - 1;
        int to = from + any(8) - 1;
        ask("multiply(" + a + ", " + b + ")", () -> fast.multiply(a, b), () -> slow.multiply(a, b));
        ask("inverse(" + a + ")", () -> fast.inverse(a), () -> slow.inverse(a));
        ask("order(" + a + ")", () -> fast.order(a), () -> slow.order(a));
        ask("productOf(" + from + ", " + to + ")", () -> fast.productOf(from, to), () -> slow.productOf(from, to));
        ask("product()", () -> fast.product(), () -> slow.product());
    }
}

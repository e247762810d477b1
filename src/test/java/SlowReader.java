import java.math.BigInteger;
import java.util.ArrayList;
import java.util.List;
import java.util.Set;

/** The reading of a setup text for the SlowModel: all tokens first, then the grammar over them. */
final class SlowReader {
    private final List<SlowModel.Token> tokens = new ArrayList<>();
    private final SlowModel.Data data = new SlowModel.Data();
    private int next = 0;

    SlowReader(String text) {
        int at = 0;
        while (at < text.length()) {
            char c = text.charAt(at);
            int end = at + 1;
            char kind = digit(c) ? 'n' : letter(c) ? 'w' : 's';
            while (kind != 's' && end < text.length()
                    && (kind == 'n' ? digit(text.charAt(end)) : letter(text.charAt(end)))) {
                end++;
            }
            if (c != ' ') {
                tokens.add(new SlowModel.Token(kind, text.substring(at, end), at));
            }
            at = end;
        }
        tokens.add(new SlowModel.Token('e', "", text.length()));
    }

    private static boolean digit(char c) {
        return "0123456789".indexOf(c) >= 0;
    }

    private static boolean letter(char c) {
        return "abcdefghijklmnopqrstuvwxyz".indexOf(c) >= 0;
    }

    private SlowModel.Token token() {
        return tokens.get(next);
    }

    private boolean sees(String text) {
        return token().text().equals(text);
    }

    private static SlowModel.Fault fault(int code, SlowModel.Token token) {
        return new SlowModel.Fault(code, token.offset());
    }

    private void need(String text) throws SlowModel.Fault {
        if (!sees(text)) {
            throw fault(GroupBids.SYNTAX_ERROR, token());
        }
        next++;
    }

    private String digits() throws SlowModel.Fault {
        if (token().kind() != 'n') {
            throw fault(GroupBids.SYNTAX_ERROR, token());
        }
        return new BigInteger(tokens.get(next++).text()).toString();
    }

    private int number(int low, int high) throws SlowModel.Fault {
        SlowModel.Token token = token();
        BigInteger value = new BigInteger(digits());
        if (value.compareTo(BigInteger.valueOf(low)) < 0 || value.compareTo(BigInteger.valueOf(high)) > 0) {
            throw fault(GroupBids.OUT_OF_RANGE, token);
        }
        return value.intValue();
    }

    SlowModel.Data setup() throws SlowModel.Fault {
        need("group");
        data.n = number(2, 5);
        need(";");
        while (token().kind() != 'e') {
            statement();
            need(";");
        }
        return data;
    }

    private void statement() throws SlowModel.Fault {
        SlowModel.Token first = token();
        if (!Set.of("player", "card", "lot", "price").contains(first.text())) {
            throw fault(GroupBids.SYNTAX_ERROR, first);
        }
        next++;
        switch (first.text()) {
            case "player" -> {
                if (data.players.size() == 5) {
                    throw fault(GroupBids.TOO_MANY, first);
                }
                SlowModel.Player player = new SlowModel.Player();
                player.purse = number(0, 99999);
                data.players.add(player);
            }
            case "lot" -> {
                if (data.lots.size() == 12) {
                    throw fault(GroupBids.TOO_MANY, first);
                }
                data.lots.add(number(1, 9999));
            }
            case "price" -> {
                if (data.rule != null) {
                    throw fault(GroupBids.SYNTAX_ERROR, first);
                }
                data.rule = sum(0);
            }
            default -> card();
        }
    }

    private void card() throws SlowModel.Fault {
        SlowModel.Token whose = token();
        SlowModel.Player player;
        int index = number(0, data.players.size() - 1);
        player = data.players.get(index);
        if (player.cards.size() == 8) {
            throw fault(GroupBids.TOO_MANY, whose);
        }
        SlowModel.Token what = token();
        int[] element = SlowModel.element(digits(), data.n);
        if (element == null) {
            throw fault(GroupBids.OUT_OF_RANGE, what);
        }
        player.cards.add(new SlowModel.Card(element, number(1, 999)));
    }

    private static long limited(long value) {
        return value < -1000000 ? -1000000 : value > 1000000 ? 1000000 : value;
    }

    private SlowModel.Rule sum(int depth) throws SlowModel.Fault {
        SlowModel.Rule left = term(depth);
        while (sees("+") || sees("-")) {
            boolean plus = sees("+");
            next++;
            SlowModel.Rule a = left;
            SlowModel.Rule b = term(depth);
            left = (base, order, bids, pot) -> {
                long right = b.value(base, order, bids, pot);
                return limited(a.value(base, order, bids, pot) + (plus ? right : -right));
            };
        }
        return left;
    }

    private SlowModel.Rule term(int depth) throws SlowModel.Fault {
        SlowModel.Rule left = factor(depth);
        while (sees("*") || sees("/")) {
            boolean product = sees("*");
            next++;
            SlowModel.Rule a = left;
            SlowModel.Rule b = factor(depth);
            left = (base, order, bids, pot) -> {
                long x = a.value(base, order, bids, pot);
                long y = b.value(base, order, bids, pot);
                return limited(product ? x * y : y == 0 ? 0 : x / y);
            };
        }
        return left;
    }

    private SlowModel.Rule factor(int depth) throws SlowModel.Fault {
        SlowModel.Token token = token();
        switch (token.text()) {
            case "base": next++; return (base, order, bids, pot) -> base;
            case "order": next++; return (base, order, bids, pot) -> order;
            case "bids": next++; return (base, order, bids, pot) -> bids;
            case "pot": next++; return (base, order, bids, pot) -> pot;
            case "(": break;
            default:
                int value = number(0, 9999);
                return (base, order, bids, pot) -> value;
        }
        if (depth == 4) {
            throw fault(GroupBids.TOO_DEEP, token);
        }
        next++;
        SlowModel.Rule inner = sum(depth + 1);
        need(")");
        return inner;
    }
}

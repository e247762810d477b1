import java.math.BigInteger;
import java.util.ArrayDeque;
import java.util.ArrayList;
import java.util.Deque;
import java.util.HashSet;
import java.util.List;
import java.util.NoSuchElementException;
import java.util.Set;
import java.util.TreeSet;

/**
 * The document once more, written for plainness alone: elements are rows of points, the expression is a tree,
 * each change copies everything, and hands are tried out card by card. ModelTest compares it with the class.
 */
final class SlowModel {
    static final class Fault extends Exception {
        private static final long serialVersionUID = 1L;
        final int code;
        final int offset;

        Fault(int code, int offset) {
            this.code = code;
            this.offset = offset;
        }
    }

    record Card(int[] element, int base) {
    }

    record Bid(int player, int[] element, int price) {
    }

    record Token(char kind, String text, int offset) {
    }

    interface Rule {
        long value(long base, long order, long bids, long pot);
    }

    static final class Player {
        int purse;
        int wins;
        List<Card> cards = new ArrayList<>();

        Player copy() {
            Player player = new Player();
            player.purse = purse;
            player.wins = wins;
            player.cards = new ArrayList<>(cards);
            return player;
        }
    }

    static final class Data {
        int n = 2;
        List<Player> players = new ArrayList<>();
        List<Integer> lots = new ArrayList<>();
        List<Bid> bids = new ArrayList<>();
        Rule rule;
        int present;
        int turn;
        int pot;
        int passes;
        int house;

        Data copy() {
            Data data = new Data();
            data.n = n;
            for (Player player : players) {
                data.players.add(player.copy());
            }
            data.lots = new ArrayList<>(lots);
            data.bids = new ArrayList<>(bids);
            data.rule = rule;
            data.present = present;
            data.turn = turn;
            data.pot = pot;
            data.passes = passes;
            data.house = house;
            return data;
        }
    }

    private Data data = new Data();
    private final Deque<Data> before = new ArrayDeque<>();
    private final StringBuilder buffer = new StringBuilder();
    private int errorAt = -1;

    // elements

    static int[] neutral(int n) {
        int[] element = new int[n];
        for (int i = 0; i < n; i++) {
            element[i] = i + 1;
        }
        return element;
    }

    static int[] times(int[] a, int[] b) {
        int[] product = new int[a.length];
        for (int i = 0; i < a.length; i++) {
            product[i] = b[a[i] - 1];
        }
        return product;
    }

    static int told(int[] element) {
        StringBuilder text = new StringBuilder();
        for (int point : element) {
            text.append(point);
        }
        return Integer.parseInt(text.toString());
    }

    static int orderOf(int[] element) {
        int count = 1;
        int[] power = element;
        while (told(power) != told(neutral(element.length))) {
            power = times(power, element);
            count++;
        }
        return count;
    }

    private static final List<List<int[]>> ALL =
            List.of(List.of(), List.of(), makeAll(2), makeAll(3), makeAll(4), makeAll(5));

    static List<int[]> allElements(int n) {
        return ALL.get(n);
    }

    private static List<int[]> makeAll(int n) {
        List<int[]> found = new ArrayList<>();
        for (int number = 1; number <= 54321; number++) {
            int[] element = element(String.valueOf(number), n);
            if (element != null) {
                found.add(element);
            }
        }
        return found;
    }

    /** The element that the digits tell; null if they tell none. */
    static int[] element(String digits, int n) {
        TreeSet<Character> seen = new TreeSet<>();
        for (char digit : digits.toCharArray()) {
            seen.add(digit);
        }
        if (digits.length() != n || seen.size() != n || seen.first() != '1' || seen.last() != '0' + n) {
            return null;
        }
        int[] element = new int[n];
        for (int i = 0; i < n; i++) {
            element[i] = digits.charAt(i) - '0';
        }
        return element;
    }

    private int[] neutral() {
        return neutral(data.n);
    }

    private int[] needElement(int number) {
        int[] element = element(String.valueOf(number), data.n);
        if (element == null) {
            throw new IllegalArgumentException();
        }
        return element;
    }

    // the setup text

    int append(int... words) {
        if (buffer.length() + 20 > 700) {
            return -1;
        }
        for (int word : words) {
            for (int shift = 24; shift >= 0; shift -= 8) {
                buffer.append((char) (word >>> shift & 255));
            }
        }
        return buffer.length();
    }

    int load(int length) {
        if (length < 0 || length > buffer.length()) {
            throw new IllegalArgumentException();
        }
        String text = buffer.substring(0, length);
        buffer.setLength(0);
        try {
            Data read = new SlowReader(text).setup();
            errorAt = -1;
            change();
            data = read;
            return data.players.size();
        } catch (Fault fault) {
            errorAt = fault.offset;
            return fault.code;
        }
    }

    int errorOffset() {
        return errorAt;
    }

    // what is asked

    private boolean over() {
        return data.players.isEmpty() || data.present >= data.lots.size();
    }

    int state(int what) {
        int[] told = {data.n, data.players.size(), data.lots.size(), over() ? -1 : data.present,
            over() ? -1 : data.turn, data.bids.size(), data.pot, data.passes, data.house};
        return chosen(told, what);
    }

    private static int chosen(int[] told, int what) {
        if (what < 0 || what >= told.length) {
            throw new IllegalArgumentException();
        }
        return told[what];
    }

    private Player needPlayer(int player) {
        if (player < 0 || player >= data.players.size()) {
            throw new IndexOutOfBoundsException();
        }
        return data.players.get(player);
    }

    private static void needPlace(int place, List<?> list) {
        if (place < 0 || place >= list.size()) {
            throw new NoSuchElementException();
        }
    }

    int player(int player, int what) {
        Player p = needPlayer(player);
        return chosen(new int[] {p.purse, p.cards.size(), p.wins}, what);
    }

    int card(int player, int card, int what) {
        Player p = needPlayer(player);
        needPlace(card, p.cards);
        Card c = p.cards.get(card);
        return chosen(new int[] {told(c.element), c.base, price(c)}, what);
    }

    int bid(int bid, int what) {
        needPlace(bid, data.bids);
        Bid b = data.bids.get(bid);
        return chosen(new int[] {b.player, told(b.element), b.price}, what);
    }

    private int price(Card card) {
        long value = data.rule == null ? card.base
                : data.rule.value(card.base, orderOf(card.element), data.bids.size(), data.pot);
        return (int) Math.max(0, Math.min(9999, value));
    }

    private int[] productOfBids(int from, int to) {
        int[] product = neutral();
        for (Bid bid : data.bids.subList(from, to)) {
            product = times(product, bid.element);
        }
        return product;
    }

    int product() {
        return told(productOfBids(0, data.bids.size()));
    }

    int productOf(int from, int to) {
        if (from < 0 || to < from || to > data.bids.size()) {
            throw new IllegalArgumentException();
        }
        return told(productOfBids(from, to));
    }

    int multiply(int first, int second) {
        int[] a = needElement(first);
        return told(times(a, needElement(second)));
    }

    int inverse(int element) {
        int[] a = needElement(element);
        int[] inverse = new int[a.length];
        for (int i = 0; i < a.length; i++) {
            inverse[a[i] - 1] = i + 1;
        }
        return told(inverse);
    }

    int order(int element) {
        return orderOf(needElement(element));
    }

    // hands: every row of different cards is tried

    private final class Trial {
        final List<Card> cards;
        final Set<Integer> reached = new HashSet<>();
        int fewest = -1;
        int cheapest = -1;
        int opening = -1;

        Trial(Player player) {
            cards = player.cards;
            int[] product = productOfBids(0, data.bids.size());
            for (int card = 0; card < cards.size(); card++) {
                use(card, 0, card, 0, 0, neutral(), product);
            }
        }

        void use(int card, int usedBefore, int first, int countBefore, int sumBefore, int[] own, int[] product) {
            int used = usedBefore | 1 << card;
            int count = countBefore + 1;
            int sum = sumBefore + cards.get(card).base;
            int[] newOwn = times(own, cards.get(card).element);
            int[] newProduct = times(product, cards.get(card).element);
            reached.add(told(newOwn));
            if (told(newProduct) == told(neutral())) {
                if (fewest == -1 || count < fewest) {
                    fewest = count;
                    opening = first;
                } else if (count == fewest) {
                    opening = Math.min(opening, first);
                }
                cheapest = cheapest == -1 ? sum : Math.min(cheapest, sum);
            }
            for (int next = 0; next < cards.size(); next++) {
                if ((used >> next & 1) == 0) {
                    use(next, used, first, count, sum, newOwn, newProduct);
                }
            }
        }
    }

    int reach(int player) {
        return new Trial(needPlayer(player)).reached.size();
    }

    boolean reaches(int player, int element) {
        Player p = needPlayer(player);
        needElement(element);
        return new Trial(p).reached.contains(element);
    }

    int generated(int player) {
        Player p = needPlayer(player);
        Set<Integer> found = new HashSet<>();
        Deque<int[]> open = new ArrayDeque<>();
        open.add(neutral());
        while (!open.isEmpty()) {
            int[] element = open.remove();
            if (found.add(told(element))) {
                for (Card card : p.cards) {
                    open.add(times(element, card.element));
                }
            }
        }
        return found.size();
    }

    int fewest(int player) {
        return new Trial(needPlayer(player)).fewest;
    }

    int cheapest(int player) {
        return new Trial(needPlayer(player)).cheapest;
    }

    int opening(int player) {
        return new Trial(needPlayer(player)).opening;
    }

    // changes

    private void change() {
        before.push(data.copy());
        if (before.size() > 8) {
            before.removeLast();
        }
    }

    private Player needTurn() {
        if (over()) {
            throw new IllegalStateException();
        }
        return data.players.get(data.turn);
    }

    private static int limited(int purse) {
        return Math.max(0, Math.min(999999, purse));
    }

    int play(int card) {
        Player p = needTurn();
        needPlace(card, p.cards);
        change();
        Card c = p.cards.get(card);
        int price = price(c);
        if (data.bids.size() == 20 || p.purse < price) {
            return -1;
        }
        p.purse -= price;
        data.pot += price;
        data.bids.add(new Bid(data.turn, c.element, price));
        p.cards.remove(card);
        return moved(p);
    }

    int cancel(int card, int bid) {
        Player p = needTurn();
        needPlace(card, p.cards);
        needPlace(bid, data.bids);
        change();
        Card c = p.cards.get(card);
        Bid b = data.bids.get(bid);
        int price = price(c);
        if (told(c.element) != inverse(told(b.element)) || price < b.price || p.purse < price) {
            return -1;
        }
        p.purse -= price;
        data.pot += price;
        data.pot -= b.price;
        Player owner = data.players.get(b.player);
        owner.purse = limited(owner.purse + b.price);
        data.bids.remove(bid);
        p.cards.remove(card);
        return moved(p);
    }

    private int moved(Player p) {
        data.passes = 0;
        int won = 0;
        if (!data.bids.isEmpty() && product() == told(neutral())) {
            p.purse = limited(p.purse + data.lots.get(data.present) + data.pot);
            p.wins++;
            nextLot();
            won = 1;
        }
        data.turn = (data.turn + 1) % data.players.size();
        return won;
    }

    private void nextLot() {
        data.present++;
        data.bids.clear();
        data.pot = 0;
        data.passes = 0;
    }

    int pass() {
        needTurn();
        change();
        data.passes++;
        int withdrawn = 0;
        if (data.passes == data.players.size()) {
            data.house += data.pot;
            nextLot();
            withdrawn = 1;
        }
        data.turn = (data.turn + 1) % data.players.size();
        return withdrawn;
    }

    int give(int player, int element, int base) {
        Player p = needPlayer(player);
        int[] e = needElement(element);
        if (base < 1 || base > 999) {
            throw new IllegalArgumentException();
        }
        if (p.cards.size() == 8) {
            throw new IllegalStateException();
        }
        change();
        p.cards.add(new Card(e, base));
        return p.cards.size();
    }

    int discard(int player, int card) {
        Player p = needPlayer(player);
        needPlace(card, p.cards);
        change();
        return told(p.cards.remove(card).element);
    }

    int undo() {
        if (before.isEmpty()) {
            return -1;
        }
        data = before.pop();
        return before.size();
    }

    long checksum() {
        List<Integer> numbers = new ArrayList<>();
        for (int what = 0; what <= 8; what++) {
            numbers.add(state(what));
        }
        for (int p = 0; p < data.players.size(); p++) {
            for (int what = 0; what <= 2; what++) {
                numbers.add(player(p, what));
            }
            for (int c = 0; c < data.players.get(p).cards.size(); c++) {
                for (int what = 0; what <= 2; what++) {
                    numbers.add(card(p, c, what));
                }
            }
        }
        for (int b = 0; b < data.bids.size(); b++) {
            for (int what = 0; what <= 2; what++) {
                numbers.add(bid(b, what));
            }
        }
        numbers.add(product());
        BigInteger sum = BigInteger.ZERO;
        for (int number : numbers) {
            sum = sum.multiply(BigInteger.valueOf(31)).add(BigInteger.valueOf(number));
        }
        return sum.longValue();
    }
}

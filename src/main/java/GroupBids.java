import java.util.Arrays;
import java.util.NoSuchElementException;

/** An auction whose bids are permutations; who makes their product neutral wins the lot. */
public final class GroupBids {
    public static final int SYNTAX_ERROR = -2;
    public static final int OUT_OF_RANGE = -3;
    public static final int TOO_MANY = -4;
    public static final int TOO_DEEP = -5;

    private static final int NONE = -1;
    private static final int REFUSED = -1;
    private static final int NEUTRAL = 0;
    private static final int MIN_POINTS = 2;
    private static final int MAX_POINTS = 5;
    private static final int MAX_ELEMENTS = 120;
    private static final int MAX_PLAYERS = 5;
    private static final int MAX_CARDS = 8;
    private static final int MAX_LOTS = 12;
    private static final int MAX_BIDS = 20;
    private static final int MAX_UNDO = 8;
    private static final int MAX_TEXT = 700;
    private static final int MAX_FIRST_PURSE = 99999;
    private static final int MAX_PURSE = 999999;
    private static final int MAX_BASE = 999;
    private static final int MAX_VALUE = 9999;
    private static final int MAX_FACTOR = 9999;
    private static final int MAX_PRICE = 9999;
    private static final int MAX_RESULT = 1000000;
    private static final int MAX_NESTING = 4;

    private final Group group;
    private final SetupReader reader;
    private final Auction now;
    private final History history;
    private final Hands hands;
    private int errorAt;

    public GroupBids() {
        group = new Group();
        reader = new SetupReader(group);
        now = new Auction(group);
        history = new History(group);
        hands = new Hands(group);
        errorAt = NONE;
    }

    public int append(int w0, int w1, int w2, int w3, int w4) {
        if (!reader.hasRoomForFiveWords()) {
            return NONE;
        }
        reader.addWord(w0);
        reader.addWord(w1);
        reader.addWord(w2);
        reader.addWord(w3);
        reader.addWord(w4);
        return reader.textLength();
    }

    public int load(int length) throws IllegalArgumentException {
        if (length < 0 || length > reader.textLength()) {
            throw new IllegalArgumentException();
        }
        int error = reader.read(length);
        errorAt = reader.errorPlace();
        if (error != 0) {
            return error;
        }
        history.remember(now);
        now.copyFrom(reader.result());
        return now.players;
    }

    public int errorOffset() {
        return errorAt;
    }

    public int state(int what) throws IllegalArgumentException {
        switch (what) {
            case 0: return now.points;
            case 1: return now.players;
            case 2: return now.lots.size();
            case 3: return now.isOver() ? NONE : now.present;
            case 4: return now.isOver() ? NONE : now.turn;
            case 5: return now.bidElements.size();
            case 6: return now.pot;
            case 7: return now.passes;
            case 8: return now.house;
            default: throw new IllegalArgumentException();
        }
    }

    public int player(int player, int what) throws IndexOutOfBoundsException, IllegalArgumentException {
        Bidder bidder = existing(player);
        switch (what) {
            case 0: return bidder.purse;
            case 1: return bidder.elements.size();
            case 2: return bidder.wins;
            default: throw new IllegalArgumentException();
        }
    }

    public int card(int player, int card, int what)
            throws IndexOutOfBoundsException, NoSuchElementException, IllegalArgumentException {
        Bidder bidder = existing(player);
        if (!bidder.elements.holds(card)) {
            throw new NoSuchElementException();
        }
        switch (what) {
            case 0: return numberOf(bidder.elements.at(card));
            case 1: return bidder.bases.at(card);
            case 2: return now.priceOf(bidder, card);
            default: throw new IllegalArgumentException();
        }
    }

    public int bid(int bid, int what) throws NoSuchElementException, IllegalArgumentException {
        if (!now.bidElements.holds(bid)) {
            throw new NoSuchElementException();
        }
        switch (what) {
            case 0: return now.bidPlayers.at(bid);
            case 1: return numberOf(now.bidElements.at(bid));
            case 2: return now.bidPrices.at(bid);
            default: throw new IllegalArgumentException();
        }
    }

    public int product() {
        return numberOf(now.productOfBids(0, now.bidElements.size()));
    }

    public int productOf(int from, int to) throws IllegalArgumentException {
        if (from < 0 || to < from || to > now.bidElements.size()) {
            throw new IllegalArgumentException();
        }
        return numberOf(now.productOfBids(from, to));
    }

    public int multiply(int first, int second) throws IllegalArgumentException {
        return numberOf(group.times(elementOf(first), elementOf(second)));
    }

    public int inverse(int element) throws IllegalArgumentException {
        return numberOf(group.opposite(elementOf(element)));
    }

    public int order(int element) throws IllegalArgumentException {
        return group.period(elementOf(element));
    }

    public int reach(int player) throws IndexOutOfBoundsException {
        hands.study(existing(player), now.points);
        return hands.countReached();
    }

    public boolean reaches(int player, int element) throws IndexOutOfBoundsException, IllegalArgumentException {
        Bidder bidder = existing(player);
        int wanted = elementOf(element);
        hands.study(bidder, now.points);
        return hands.isReached(wanted);
    }

    public int generated(int player) throws IndexOutOfBoundsException {
        return hands.countGenerated(existing(player), now.points);
    }

    public int fewest(int player) throws IndexOutOfBoundsException {
        hands.study(existing(player), now.points);
        return hands.fewestCardsFor(now.winningElement());
    }

    public int cheapest(int player) throws IndexOutOfBoundsException {
        Bidder bidder = existing(player);
        hands.study(bidder, now.points);
        return hands.smallestSumFor(now.winningElement(), bidder.bases);
    }

    public int opening(int player) throws IndexOutOfBoundsException {
        Bidder bidder = existing(player);
        hands.study(bidder, now.points);
        return hands.firstCardFor(now.winningElement(), bidder.elements);
    }

    public int play(int card) throws IllegalStateException, NoSuchElementException {
        if (!bidderInTurn().elements.holds(card)) {
            throw new NoSuchElementException();
        }
        history.remember(now);
        return now.playCard(card);
    }

    public int cancel(int card, int bid) throws IllegalStateException, NoSuchElementException {
        if (!bidderInTurn().elements.holds(card) || !now.bidElements.holds(bid)) {
            throw new NoSuchElementException();
        }
        history.remember(now);
        return now.cancelBid(card, bid);
    }

    public int pass() throws IllegalStateException {
        if (now.isOver()) {
            throw new IllegalStateException();
        }
        history.remember(now);
        return now.passTurn();
    }

    public int give(int player, int element, int base)
            throws IndexOutOfBoundsException, IllegalArgumentException, IllegalStateException {
        Bidder bidder = existing(player);
        int given = elementOf(element);
        if (base < 1 || base > MAX_BASE) {
            throw new IllegalArgumentException();
        }
        if (bidder.elements.isFull()) {
            throw new IllegalStateException();
        }
        history.remember(now);
        bidder.takeCard(given, base);
        return bidder.elements.size();
    }

    public int discard(int player, int card) throws IndexOutOfBoundsException, NoSuchElementException {
        Bidder bidder = existing(player);
        if (!bidder.elements.holds(card)) {
            throw new NoSuchElementException();
        }
        history.remember(now);
        int element = bidder.elements.at(card);
        bidder.dropCard(card);
        return numberOf(element);
    }

    public int undo() {
        if (history.size() == 0) {
            return NONE;
        }
        history.bringBack(now);
        return history.size();
    }

    public long checksum() {
        long sum = 0L;
        for (int what = 0; what <= 8; what++) {
            sum = 31L * sum + state(what);
        }
        for (int player = 0; player < now.players; player++) {
            sum = withPlayer(sum, player);
        }
        for (int bid = 0; bid < now.bidElements.size(); bid++) {
            for (int what = 0; what <= 2; what++) {
                sum = 31L * sum + bid(bid, what);
            }
        }
        return 31L * sum + product();
    }

    private long withPlayer(long before, int player) {
        long sum = before;
        for (int what = 0; what <= 2; what++) {
            sum = 31L * sum + player(player, what);
        }
        int cards = player(player, 1);
        for (int card = 0; card < cards; card++) {
            for (int what = 0; what <= 2; what++) {
                sum = 31L * sum + card(player, card, what);
            }
        }
        return sum;
    }

    private Bidder existing(int player) throws IndexOutOfBoundsException {
        Bidder bidder = now.bidder(player);
        if (bidder == null) {
            throw new IndexOutOfBoundsException();
        }
        return bidder;
    }

    private Bidder bidderInTurn() throws IllegalStateException {
        Bidder bidder = now.isOver() ? null : now.bidder(now.turn);
        if (bidder == null) {
            throw new IllegalStateException();
        }
        return bidder;
    }

    private int elementOf(int number) throws IllegalArgumentException {
        int element = group.fromNumber(number, now.points);
        if (element == NONE) {
            throw new IllegalArgumentException();
        }
        return element;
    }

    private int numberOf(int element) {
        return group.toNumber(element, now.points);
    }

    /** A row of numbers with a fixed room. It tests every place itself, so no caller can leave the array. */
    private static final class Row {
        private final int[] cells;
        private int size;

        Row(int room) {
            cells = new int[Math.max(room, 0)];
            size = 0;
        }

        int size() {
            return size;
        }

        boolean isFull() {
            return size >= cells.length;
        }

        boolean holds(int place) {
            return place >= 0 && place < size && place < cells.length;
        }

        int at(int place) {
            return holds(place) ? cells[place] : 0;
        }

        void push(int value) {
            if (size >= 0 && size < cells.length) {
                cells[size] = value;
                size++;
            }
        }

        void remove(int place) {
            if (!holds(place)) {
                return;
            }
            for (int i = place + 1; i < size && i < cells.length; i++) {
                cells[i - 1] = cells[i];
            }
            size--;
        }

        void clear() {
            size = 0;
        }

        void copyFrom(Row other) {
            int count = Math.max(0, Math.min(other.size, Math.min(other.cells.length, cells.length)));
            System.arraycopy(other.cells, 0, cells, 0, count);
            size = count;
        }

        int[] toArray() {
            return Arrays.copyOf(cells, Math.max(0, Math.min(size, cells.length)));
        }
    }

    /**
     * The permutations of five points, counted from 0. Those of the first n points are the first n! of them,
     * because a permutation of fewer points is one of five that leaves the others where they are.
     */
    private static final class Group {
        private static final int KEYS = 625;

        private final int[] goals;
        private final int[] elements;

        Group() {
            goals = new int[MAX_ELEMENTS * MAX_POINTS];
            elements = new int[KEYS];
            int made = 0;
            for (int key = 0; key < KEYS && made < MAX_ELEMENTS; key++) {
                int last = 4 - key / 125;
                int fourth = 4 - key / 25 % 5;
                int third = 4 - key / 5 % 5;
                int second = 4 - key % 5;
                if (Integer.bitCount(1 << last | 1 << fourth | 1 << third | 1 << second) == 4) {
                    int at = made * MAX_POINTS;
                    goals[at] = 10 - last - fourth - third - second;
                    goals[at + 1] = second;
                    goals[at + 2] = third;
                    goals[at + 3] = fourth;
                    goals[at + 4] = last;
                    elements[key] = made;
                    made++;
                }
            }
        }

        int count(int points) {
            int count = 1;
            for (int i = 2; i <= points && i <= MAX_POINTS; i++) {
                count *= i;
            }
            return count;
        }

        private int goal(int element, int point) {
            if (element < 0 || element >= MAX_ELEMENTS || point < 0 || point >= MAX_POINTS) {
                return 0;
            }
            return goals[element * MAX_POINTS + point];
        }

        private int longerKey(int key, int goal) {
            return key * MAX_POINTS + MAX_POINTS - 1 - goal;
        }

        private int withKey(int key) {
            return key >= 0 && key < KEYS ? elements[key] : NEUTRAL;
        }

        int times(int first, int second) {
            int key = 0;
            for (int point = MAX_POINTS - 1; point > 0; point--) {
                key = longerKey(key, goal(second, goal(first, point)));
            }
            return withKey(key);
        }

        /** The inverse: the last power before the neutral one. */
        int opposite(int element) {
            int power = NEUTRAL;
            for (int i = 0; i < MAX_ELEMENTS; i++) {
                int next = times(power, element);
                if (next == NEUTRAL) {
                    return power;
                }
                power = next;
            }
            return NEUTRAL;
        }

        /** The order: how often the element stands in its first neutral power. */
        int period(int element) {
            int power = element;
            int count = 1;
            while (power != NEUTRAL && count < MAX_ELEMENTS) {
                power = times(power, element);
                count++;
            }
            return count;
        }

        /** The element that a number with as many digits as points tells; NONE if it tells none. */
        int fromNumber(int number, int points) {
            int rest = number;
            int seen = 0;
            int key = 0;
            for (int point = MAX_POINTS - 1; point >= 0; point--) {
                int goal = point;
                if (point < points) {
                    goal = rest % 10 - 1;
                    rest = rest / 10;
                    if (goal < 0 || goal >= points) {
                        return NONE;
                    }
                }
                seen |= 1 << goal;
                // four goals tell the fifth, so the key ends before the first point
                key = point > 0 ? longerKey(key, goal) : key;
            }
            if (rest != 0 || Integer.bitCount(seen) != MAX_POINTS) {
                return NONE;
            }
            return withKey(key);
        }

        int toNumber(int element, int points) {
            int number = 0;
            for (int point = 0; point < points && point < MAX_POINTS; point++) {
                number = number * 10 + goal(element, point) + 1;
            }
            return number;
        }
    }

    /** A price expression in postfix order: numbers from 0 stand for themselves, codes below 0 are told here. */
    private static final class PriceRule {
        static final int BASE = -1;
        static final int ORDER = -2;
        static final int BIDS = -3;
        static final int POT = -4;
        static final int ADD = -5;
        static final int SUBTRACT = -6;
        static final int MULTIPLY = -7;
        static final int DIVIDE = -8;

        // each of the five levels of parentheses can leave two values open before the last one
        private static final int STACK_ROOM = 2 * (MAX_NESTING + 1) + 1;

        private final int[] codes;
        private final long[] stack;

        PriceRule(int[] codes) {
            this.codes = codes;
            stack = new long[STACK_ROOM];
        }

        int price(int base, int order, int bids, int pot) {
            int height = 0;
            for (int i = 0; i < codes.length; i++) {
                int code = codes[i];
                if (code <= ADD) {
                    if (height >= 2 && height <= STACK_ROOM) {
                        height--;
                        stack[height - 1] = result(code, stack[height - 1], stack[height]);
                    }
                } else if (height < STACK_ROOM) {
                    stack[height] = operand(code, base, order, bids, pot);
                    height++;
                }
            }
            return (int) Math.max(0L, Math.min(MAX_PRICE, stack[0]));
        }

        private static int operand(int code, int base, int order, int bids, int pot) {
            switch (code) {
                case BASE: return base;
                case ORDER: return order;
                case BIDS: return bids;
                case POT: return pot;
                default: return code;
            }
        }

        private static long result(int code, long left, long right) {
            long value;
            switch (code) {
                case ADD: value = left + right; break;
                case SUBTRACT: value = left - right; break;
                case MULTIPLY: value = left * right; break;
                default: value = right == 0L ? 0L : left / right; break;
            }
            return Math.max(-MAX_RESULT, Math.min(MAX_RESULT, value));
        }
    }

    /** What belongs to one player. */
    private static final class Bidder {
        final Row elements;
        final Row bases;
        int purse;
        int wins;

        Bidder() {
            elements = new Row(MAX_CARDS);
            bases = new Row(MAX_CARDS);
        }

        void start(int money) {
            purse = money;
            wins = 0;
            elements.clear();
            bases.clear();
        }

        void copyFrom(Bidder other) {
            purse = other.purse;
            wins = other.wins;
            elements.copyFrom(other.elements);
            bases.copyFrom(other.bases);
        }

        void takeCard(int element, int base) {
            elements.push(element);
            bases.push(base);
        }

        void dropCard(int place) {
            elements.remove(place);
            bases.remove(place);
        }

        void receive(int money) {
            purse = Math.max(0, Math.min(MAX_PURSE, purse + money));
        }
    }

    /** All data that a change can touch, and the rules of the turns. */
    private static final class Auction {
        private final Group group;
        private final Bidder[] bidders;
        final Row lots;
        final Row bidPlayers;
        final Row bidElements;
        final Row bidPrices;
        private final PriceRule plainRule;
        private PriceRule rule;
        int points;
        int players;
        int present;
        int turn;
        int pot;
        int passes;
        int house;

        Auction(Group group) {
            this.group = group;
            bidders = new Bidder[MAX_PLAYERS];
            for (int i = 0; i < MAX_PLAYERS; i++) {
                bidders[i] = new Bidder();
            }
            lots = new Row(MAX_LOTS);
            bidPlayers = new Row(MAX_BIDS);
            bidElements = new Row(MAX_BIDS);
            bidPrices = new Row(MAX_BIDS);
            plainRule = new PriceRule(new int[] {PriceRule.BASE});
            rule = plainRule;
            points = MIN_POINTS;
        }

        /** Makes an auction without players and lots, in which the price of a card is its base price. */
        void start() {
            points = MIN_POINTS;
            players = 0;
            lots.clear();
            rule = plainRule;
            present = 0;
            turn = 0;
            house = 0;
            clearLot();
        }

        void copyFrom(Auction other) {
            points = other.points;
            players = other.players;
            for (int i = 0; i < MAX_PLAYERS; i++) {
                bidders[i].copyFrom(other.bidders[i]);
            }
            lots.copyFrom(other.lots);
            bidPlayers.copyFrom(other.bidPlayers);
            bidElements.copyFrom(other.bidElements);
            bidPrices.copyFrom(other.bidPrices);
            rule = other.rule;
            present = other.present;
            turn = other.turn;
            pot = other.pot;
            passes = other.passes;
            house = other.house;
        }

        void setRule(PriceRule newRule) {
            rule = newRule;
        }

        /** The player with this index; null if there is none. */
        Bidder bidder(int player) {
            return player >= 0 && player < players && player < MAX_PLAYERS ? bidders[player] : null;
        }

        void addPlayer(int purse) {
            if (players >= 0 && players < MAX_PLAYERS) {
                bidders[players].start(purse);
                players++;
            }
        }

        boolean isOver() {
            return players == 0 || !lots.holds(present);
        }

        int productOfBids(int from, int to) {
            int product = NEUTRAL;
            for (int bid = from; bid < to; bid++) {
                product = group.times(product, bidElements.at(bid));
            }
            return product;
        }

        /** What some cards must give together so that the product becomes neutral behind them. */
        int winningElement() {
            return group.opposite(productOfBids(0, bidElements.size()));
        }

        int priceOf(Bidder bidder, int card) {
            int order = group.period(bidder.elements.at(card));
            return rule.price(bidder.bases.at(card), order, bidElements.size(), pot);
        }

        int playCard(int card) {
            Bidder bidder = bidder(turn);
            if (bidder == null) {
                return REFUSED;
            }
            int price = priceOf(bidder, card);
            if (bidElements.isFull() || bidder.purse < price) {
                return REFUSED;
            }
            bidder.purse -= price;
            pot += price;
            bidPlayers.push(turn);
            bidElements.push(bidder.elements.at(card));
            bidPrices.push(price);
            bidder.dropCard(card);
            return endMove(bidder);
        }

        int cancelBid(int card, int bid) {
            Bidder bidder = bidder(turn);
            Bidder owner = bidder(bidPlayers.at(bid));
            if (bidder == null || owner == null) {
                return REFUSED;
            }
            int price = priceOf(bidder, card);
            int bidPrice = bidPrices.at(bid);
            boolean cancels = group.times(bidder.elements.at(card), bidElements.at(bid)) == NEUTRAL;
            if (!cancels || price < bidPrice || bidder.purse < price) {
                return REFUSED;
            }
            bidder.purse -= price;
            pot += price - bidPrice;
            owner.receive(bidPrice);
            bidPlayers.remove(bid);
            bidElements.remove(bid);
            bidPrices.remove(bid);
            bidder.dropCard(card);
            return endMove(bidder);
        }

        int passTurn() {
            passes++;
            boolean withdrawn = passes == players;
            if (withdrawn) {
                house += pot;
                openNextLot();
            }
            turnToNext();
            return withdrawn ? 1 : 0;
        }

        private int endMove(Bidder bidder) {
            passes = 0;
            int bids = bidElements.size();
            boolean won = bids > 0 && productOfBids(0, bids) == NEUTRAL;
            if (won) {
                bidder.receive(lots.at(present) + pot);
                bidder.wins++;
                openNextLot();
            }
            turnToNext();
            return won ? 1 : 0;
        }

        private void openNextLot() {
            present++;
            clearLot();
        }

        private void clearLot() {
            bidPlayers.clear();
            bidElements.clear();
            bidPrices.clear();
            pot = 0;
            passes = 0;
        }

        private void turnToNext() {
            turn = turn + 1 < players ? turn + 1 : 0;
        }
    }

    /** What the latest changes found, the oldest first, in a ring that is made once. */
    private static final class History {
        private final Auction[] ring;
        private int oldest;
        private int count;

        History(Group group) {
            ring = new Auction[MAX_UNDO];
            for (int i = 0; i < MAX_UNDO; i++) {
                ring[i] = new Auction(group);
            }
        }

        int size() {
            return count;
        }

        private int placeOf(int age) {
            return Math.floorMod(oldest + age, MAX_UNDO);
        }

        void remember(Auction auction) {
            if (count >= MAX_UNDO) {
                oldest = placeOf(1);
                count = MAX_UNDO - 1;
            }
            ring[placeOf(count)].copyFrom(auction);
            count++;
        }

        void bringBack(Auction auction) {
            if (count > 0) {
                count--;
                auction.copyFrom(ring[placeOf(count)]);
            }
        }
    }

    /** The input buffer, and the reading of a setup text in it, token by token from the left. */
    private static final class SetupReader {
        private static final int WORD_BYTES = 4;
        private static final int APPENDED_BYTES = 20;
        private static final int END = 0;
        private static final int NUMBER = 1;
        private static final int WORD = 2;
        private static final int SIGN = 3;
        // above every bound of the setup text, so a longer number need not be told exactly
        private static final int HUGE = 1000000;

        private final Group group;
        private final int[] text;
        private int size;
        private int length;
        private int tokenKind;
        private int tokenAt;
        private int tokenEnd;
        private int tokenValue;
        private int taken;
        private final Auction target;
        private final Row codes;
        private boolean hasPrice;
        private int error;
        private int errorAt;

        SetupReader(Group group) {
            this.group = group;
            text = new int[MAX_TEXT];
            codes = new Row(MAX_TEXT);
            target = new Auction(group);
        }

        int textLength() {
            return size;
        }

        boolean hasRoomForFiveWords() {
            return size + APPENDED_BYTES <= MAX_TEXT;
        }

        void addWord(int word) {
            for (int i = WORD_BYTES - 1; i >= 0; i--) {
                if (size >= 0 && size < MAX_TEXT) {
                    text[size] = word >>> 8 * i & 255;
                    size++;
                }
            }
        }

        int errorPlace() {
            return errorAt;
        }

        /** What the text told: only to be used right behind a read that answered 0. */
        Auction result() {
            return target;
        }

        /** Reads the first bytes of the buffer and empties it. Returns 0 or the code of the first error. */
        int read(int bytes) {
            target.start();
            length = Math.max(0, Math.min(bytes, size));
            size = 0;
            tokenEnd = 0;
            codes.clear();
            hasPrice = false;
            error = 0;
            errorAt = NONE;
            advance();
            if (takeGroup()) {
                for (int i = 0; i < MAX_TEXT && error == 0 && tokenKind != END; i++) {
                    takeStatement();
                }
            }
            return error;
        }

        private boolean fail(int code, int offset) {
            error = code;
            errorAt = offset;
            return false;
        }

        private void advance() {
            int at = tokenEnd;
            while (at < length && at < MAX_TEXT && text[at] == ' ') {
                at++;
            }
            tokenAt = at;
            tokenValue = 0;
            tokenKind = END;
            if (at >= length || at >= MAX_TEXT) {
                tokenEnd = at;
                return;
            }
            tokenKind = isDigit(text[at]) ? NUMBER : isLetter(text[at]) ? WORD : SIGN;
            if (tokenKind == SIGN) {
                tokenEnd = at + 1;
                return;
            }
            boolean number = tokenKind == NUMBER;
            while (at < length && at < MAX_TEXT && (number ? isDigit(text[at]) : isLetter(text[at]))) {
                tokenValue = number ? Math.min(HUGE, tokenValue * 10 + text[at] - '0') : 0;
                at++;
            }
            tokenEnd = at;
        }

        private static boolean isDigit(int letter) {
            return letter >= '0' && letter <= '9';
        }

        private static boolean isLetter(int letter) {
            return letter >= 'a' && letter <= 'z';
        }

        private boolean isWord(String word) {
            if (tokenKind != WORD || tokenEnd - tokenAt != word.length()) {
                return false;
            }
            for (int i = 0; i < word.length(); i++) {
                int at = tokenAt + i;
                if (at < 0 || at >= MAX_TEXT || text[at] != word.charAt(i)) {
                    return false;
                }
            }
            return true;
        }

        private boolean isSign(char sign) {
            return tokenKind == SIGN && tokenAt >= 0 && tokenAt < MAX_TEXT && text[tokenAt] == sign;
        }

        private boolean takeSign(char sign) {
            if (!isSign(sign)) {
                return fail(SYNTAX_ERROR, tokenAt);
            }
            advance();
            return true;
        }

        private boolean takeNumber(int lowest, int highest) {
            if (tokenKind != NUMBER) {
                return fail(SYNTAX_ERROR, tokenAt);
            }
            if (tokenValue < lowest || tokenValue > highest) {
                return fail(OUT_OF_RANGE, tokenAt);
            }
            taken = tokenValue;
            advance();
            return true;
        }

        private boolean takeElement() {
            if (tokenKind != NUMBER) {
                return fail(SYNTAX_ERROR, tokenAt);
            }
            taken = group.fromNumber(tokenValue, target.points);
            if (taken == NONE) {
                return fail(OUT_OF_RANGE, tokenAt);
            }
            advance();
            return true;
        }

        private boolean takeGroup() {
            if (!isWord("group")) {
                return fail(SYNTAX_ERROR, tokenAt);
            }
            advance();
            if (!takeNumber(MIN_POINTS, MAX_POINTS)) {
                return false;
            }
            target.points = taken;
            return takeSign(';');
        }

        private boolean takeStatement() {
            if (isWord("player")) {
                return takePlayer() && takeSign(';');
            }
            if (isWord("card")) {
                return takeCard() && takeSign(';');
            }
            if (isWord("lot")) {
                return takeLot() && takeSign(';');
            }
            if (isWord("price") && !hasPrice) {
                return takePrice() && takeSign(';');
            }
            return fail(SYNTAX_ERROR, tokenAt);
        }

        private boolean takePlayer() {
            if (target.players >= MAX_PLAYERS) {
                return fail(TOO_MANY, tokenAt);
            }
            advance();
            if (!takeNumber(0, MAX_FIRST_PURSE)) {
                return false;
            }
            target.addPlayer(taken);
            return true;
        }

        private boolean takeCard() {
            advance();
            int playerAt = tokenAt;
            if (!takeNumber(0, target.players - 1)) {
                return false;
            }
            Bidder bidder = target.bidder(taken);
            if (bidder == null) {
                return fail(OUT_OF_RANGE, playerAt);
            }
            if (bidder.elements.isFull()) {
                return fail(TOO_MANY, playerAt);
            }
            if (!takeElement()) {
                return false;
            }
            int element = taken;
            if (!takeNumber(1, MAX_BASE)) {
                return false;
            }
            bidder.takeCard(element, taken);
            return true;
        }

        private boolean takeLot() {
            if (target.lots.isFull()) {
                return fail(TOO_MANY, tokenAt);
            }
            advance();
            if (!takeNumber(1, MAX_VALUE)) {
                return false;
            }
            target.lots.push(taken);
            return true;
        }

        private boolean takePrice() {
            hasPrice = true;
            advance();
            if (!takeSum(0)) {
                return false;
            }
            target.setRule(new PriceRule(codes.toArray()));
            return true;
        }

        private boolean takeSum(int depth) {
            boolean good = takeTerm(depth);
            for (int i = 0; i < MAX_TEXT && good && (isSign('+') || isSign('-')); i++) {
                int code = isSign('+') ? PriceRule.ADD : PriceRule.SUBTRACT;
                advance();
                good = takeTerm(depth);
                codes.push(code);
            }
            return good;
        }

        private boolean takeTerm(int depth) {
            boolean good = takeFactor(depth);
            for (int i = 0; i < MAX_TEXT && good && (isSign('*') || isSign('/')); i++) {
                int code = isSign('*') ? PriceRule.MULTIPLY : PriceRule.DIVIDE;
                advance();
                good = takeFactor(depth);
                codes.push(code);
            }
            return good;
        }

        private boolean takeFactor(int depth) {
            if (isSign('(')) {
                if (depth >= MAX_NESTING) {
                    return fail(TOO_DEEP, tokenAt);
                }
                advance();
                return takeSum(depth + 1) && takeSign(')');
            }
            if (tokenKind == WORD) {
                return takeVariable();
            }
            if (!takeNumber(0, MAX_FACTOR)) {
                return false;
            }
            codes.push(taken);
            return true;
        }

        private boolean takeVariable() {
            int code = isWord("base") ? PriceRule.BASE
                    : isWord("order") ? PriceRule.ORDER
                    : isWord("bids") ? PriceRule.BIDS
                    : isWord("pot") ? PriceRule.POT : 0;
            if (code == 0) {
                return fail(SYNTAX_ERROR, tokenAt);
            }
            codes.push(code);
            advance();
            return true;
        }
    }

    /**
     * What the cards of one hand can make. Each subset of the cards (a mask with a bit for each place)
     * has a set of products, two longs with a bit for each element.
     */
    private static final class Hands {
        private static final int MASKS = 1 << MAX_CARDS;
        // the set of what the cards generate stands behind those of the subsets
        private static final int GENERATED = MASKS;
        private static final int BITS = 64;

        private final Group group;
        private final int[] columns;
        private final long[] sets;
        private final Row found;
        private int cards;
        private int masks;

        Hands(Group group) {
            this.group = group;
            columns = new int[MAX_CARDS * MAX_ELEMENTS];
            sets = new long[2 * (MASKS + 1)];
            found = new Row(MAX_ELEMENTS);
        }

        /** Finds the products of each subset of the hand, in all orders. */
        void study(Bidder bidder, int points) {
            takeHand(bidder, points);
            include(0, NEUTRAL);
            for (int mask = 0; mask < masks; mask++) {
                for (int card = 0; card < cards; card++) {
                    if ((mask >> card & 1) == 0) {
                        extend(mask, card);
                    }
                }
            }
        }

        private void takeHand(Bidder bidder, int points) {
            Arrays.fill(sets, 0L);
            cards = Math.min(bidder.elements.size(), MAX_CARDS);
            masks = 1 << cards;
            int count = Math.min(group.count(points), MAX_ELEMENTS);
            for (int card = 0; card < cards; card++) {
                int factor = bidder.elements.at(card);
                for (int element = 0; element < count; element++) {
                    columns[card * MAX_ELEMENTS + element] = group.times(element, factor);
                }
            }
        }

        private int timesCard(int element, int card) {
            if (element < 0 || element >= MAX_ELEMENTS || card < 0 || card >= MAX_CARDS) {
                return NEUTRAL;
            }
            return columns[card * MAX_ELEMENTS + element];
        }

        private boolean hasRoomFor(int set, int element) {
            return set >= 0 && set <= GENERATED && element >= 0 && element < MAX_ELEMENTS;
        }

        private void include(int set, int element) {
            if (hasRoomFor(set, element)) {
                sets[2 * set + element / BITS] |= 1L << element % BITS;
            }
        }

        private boolean contains(int set, int element) {
            return hasRoomFor(set, element)
                    && (sets[2 * set + element / BITS] >>> element % BITS & 1L) != 0L;
        }

        private void extend(int mask, int card) {
            if (mask < 0 || mask >= MASKS) {
                return;
            }
            int wider = mask | 1 << card;
            for (int half = 0; half < 2; half++) {
                long rest = sets[2 * mask + half];
                for (int i = 0; i < BITS && rest != 0L; i++) {
                    long bit = rest & -rest;
                    rest ^= bit;
                    include(wider, timesCard(half * BITS + Long.bitCount(bit - 1L), card));
                }
            }
        }

        int countReached() {
            int count = 0;
            for (int element = 0; element < MAX_ELEMENTS; element++) {
                count += isReached(element) ? 1 : 0;
            }
            return count;
        }

        boolean isReached(int element) {
            for (int mask = 1; mask < masks; mask++) {
                if (contains(mask, element)) {
                    return true;
                }
            }
            return false;
        }

        int countGenerated(Bidder bidder, int points) {
            takeHand(bidder, points);
            found.clear();
            find(NEUTRAL);
            for (int i = 0; i < MAX_ELEMENTS && i < found.size(); i++) {
                for (int card = 0; card < cards; card++) {
                    find(timesCard(found.at(i), card));
                }
            }
            return found.size();
        }

        private void find(int element) {
            if (!contains(GENERATED, element)) {
                include(GENERATED, element);
                found.push(element);
            }
        }

        int fewestCardsFor(int wanted) {
            int fewest = NONE;
            for (int mask = 1; mask < masks; mask++) {
                int count = Integer.bitCount(mask);
                if (contains(mask, wanted) && (fewest == NONE || count < fewest)) {
                    fewest = count;
                }
            }
            return fewest;
        }

        int smallestSumFor(int wanted, Row bases) {
            int smallest = NONE;
            for (int mask = 1; mask < masks; mask++) {
                if (contains(mask, wanted)) {
                    int sum = sumOf(mask, bases);
                    smallest = smallest == NONE ? sum : Math.min(smallest, sum);
                }
            }
            return smallest;
        }

        private int sumOf(int mask, Row bases) {
            int sum = 0;
            for (int card = 0; card < cards; card++) {
                sum += (mask >> card & 1) != 0 ? bases.at(card) : 0;
            }
            return sum;
        }

        int firstCardFor(int wanted, Row elements) {
            int fewest = fewestCardsFor(wanted);
            for (int card = 0; card < cards && fewest != NONE; card++) {
                int rest = group.times(group.opposite(elements.at(card)), wanted);
                for (int mask = 1; mask < masks; mask++) {
                    boolean fits = Integer.bitCount(mask) == fewest && (mask >> card & 1) != 0;
                    if (fits && contains(mask ^ 1 << card, rest)) {
                        return card;
                    }
                }
            }
            return NONE;
        }
    }
}

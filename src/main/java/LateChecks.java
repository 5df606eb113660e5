/**
 * Deals that are checked at their end. Each reads and writes on its own; whether what it read is still so is
 * looked at when it commits, or by two validators that vote on the deals that were sent.
 *
 * <p>No call throws: what does not fit is refused by a number, and a refused call changes nothing.
 */
public final class LateChecks {
    public static final int NONE = -1, UNKNOWN = -2, OUTSIDE = -3, NOT = -4, FULL = -5, STALE = -11, VAIN = -12, YIELDS = -13;

    private static final int ITEMS = 8, ITEMS_OF_A_VALIDATOR = 4, DEALS = 6, VALIDATORS = 2;
    private static final int VALUE_MOST = 9999, LIMIT_LEAST = 1, LIMIT_MOST = 9, LIMIT_AT_FIRST = 3;
    private static final int FREE = 0, OPEN = 1, DOOMED = 2, SENT = 3;
    /** WAYS; by STAMPS, which is between, asks for nothing that the others do not ask for too. */
    private static final int BACKWARD = 0, FORWARD = 2, SETTLED = 3, NO_DEAL = 4;
    private static final int NO = 0, YES = 1;

    /** A COMMIT takes a call at least, so 512 calls make no more of them. */
    private static final int COMMITS_MOST = 512;

    private final Text text = new Text();
    private final int[] values = new int[ITEMS];
    private final int[] stamps = new int[ITEMS];
    private final Deal[] deals = new Deal[DEALS];
    private final Entry[] entries = new Entry[COMMITS_MOST];
    private int commits;
    private int triesLimit;
    private int begun;
    private int tickets;
    private int failed;
    private int failedInVain;
    private int failedByYielding;

    public LateChecks() {
        for (int d = 0; d < DEALS; d++) {
            deals[d] = new Deal(d);
        }
        startAnew();
    }

    // ---- what is told

    public int write(int letter) {
        if (letter < 0 || letter > 255) {
            return OUTSIDE;
        }
        if (text.length >= Text.LETTERS_MOST) {
            return FULL;
        }
        text.append(letter);
        return text.length;
    }

    public int erase() {
        int had = text.length;
        text.length = 0;
        return had;
    }

    public int fault() {
        return text.parse();
    }

    public int tell() {
        if (text.parse() != NONE) {
            return NOT;
        }
        int told = text.clauses;
        for (int c = 0; c < told; c++) {
            doClause(c);
        }
        text.length = 0;
        return told;
    }

    public int item(int item, int what) {
        if (!isItem(item)) {
            return UNKNOWN;
        }
        switch (what) {
            case 0: return values[item];
            case 1: return stamps[item];
            default: return OUTSIDE;
        }
    }

    public int put(int item, int v) {
        if (!isItem(item)) {
            return UNKNOWN;
        }
        if (!isValue(v)) {
            return OUTSIDE;
        }
        if (howMany(SENT) > 0) {
            return NOT;
        }
        if (commits >= COMMITS_MOST) {
            return FULL;
        }
        nextEntry().keepWrite(item, v);
        change(item, v);
        return commits;
    }

    public int limit(int n) {
        if (n < LIMIT_LEAST || n > LIMIT_MOST) {
            return OUTSIDE;
        }
        int was = triesLimit;
        triesLimit = n;
        return was;
    }

    // ---- deals

    public int begin(int deal) {
        if (!isDeal(deal)) {
            return UNKNOWN;
        }
        Deal d = deals[deal];
        if (d.state != FREE) {
            return NOT;
        }
        begun++;
        d.becomeOpen(commits, begun, 0);
        return d.age;
    }

    public int retry(int deal) {
        if (!isDeal(deal)) {
            return UNKNOWN;
        }
        Deal d = deals[deal];
        if (!d.lost) {
            return NOT;
        }
        d.becomeOpen(commits, d.age, d.tries + 1);
        return d.tries;
    }

    public int read(int deal, int item) {
        if (!isDeal(deal) || !isItem(item)) {
            return UNKNOWN;
        }
        Deal d = deals[deal];
        if (d.state != OPEN) {
            return NOT;
        }
        if (has(d.writes, item)) {
            return d.writtenValues[item];
        }
        if (!has(d.reads, item)) {
            d.note(item, values[item], stamps[item]);
        }
        return d.notedValues[item];
    }

    public int lay(int deal, int item, int v) {
        if (!isDeal(deal) || !isItem(item)) {
            return UNKNOWN;
        }
        if (!isValue(v)) {
            return OUTSIDE;
        }
        Deal d = deals[deal];
        if (d.state != OPEN) {
            return NOT;
        }
        d.writes |= bit(item);
        d.writtenValues[item] = v;
        return Integer.bitCount(d.writes);
    }

    public int commit(int deal, int way) {
        if (!isDeal(deal)) {
            return UNKNOWN;
        }
        Deal d = deals[deal];
        int answer = foretell(d, way);
        if (isFailure(answer)) {
            return lose(d, answer);
        }
        if (answer < 0) {
            return answer;
        }
        if (way == FORWARD) {
            doomAll(rivalsOf(d));
        }
        return keep(d, way);
    }

    public int peek(int deal, int way) {
        return isDeal(deal) ? foretell(deals[deal], way) : UNKNOWN;
    }

    public int abort(int deal) {
        if (!isDeal(deal)) {
            return UNKNOWN;
        }
        Deal d = deals[deal];
        if (d.state != OPEN && d.state != DOOMED) {
            return NOT;
        }
        lose(d, NONE);
        return howMany(OPEN);
    }

    public int sweep() {
        int swept = 0;
        for (Deal d : deals) {
            if (d.state == OPEN && staleOf(d) != 0) {
                lose(d, STALE);
                swept++;
            }
        }
        return swept;
    }

    public int send(int deal) {
        if (!isDeal(deal)) {
            return UNKNOWN;
        }
        Deal d = deals[deal];
        if (d.state != OPEN) {
            return NOT;
        }
        tickets++;
        d.becomeSent(tickets);
        return d.ticket;
    }

    public int vote(int validator) {
        if (!isValidator(validator)) {
            return UNKNOWN;
        }
        int place = firstWithoutVote(validator);
        if (!isDeal(place)) {
            return NOT;
        }
        Deal d = deals[place];
        d.votes[validator] = opinion(validator, d);
        return d.votes[validator];
    }

    public int settle() {
        int first = sentAt(0);
        if (!isDeal(first)) {
            return NOT;
        }
        Deal d = deals[first];
        if (!d.hasAllVotes()) {
            return NOT;
        }
        if (!d.hasOnlyYes()) {
            return lose(d, staleOf(d) != 0 ? STALE : VAIN);
        }
        return commits < COMMITS_MOST ? keep(d, SETTLED) : FULL;
    }

    // ---- what there is

    public int deal(int deal, int what) {
        if (!isDeal(deal)) {
            return UNKNOWN;
        }
        Deal d = deals[deal];
        switch (what) {
            case 0: return d.state;
            case 1: return d.start;
            case 2: return d.age;
            case 3: return d.tries;
            case 4: return d.reads;
            case 5: return d.writes;
            case 6: return d.lost ? 1 : 0;
            case 7: return isStubborn(d) ? 1 : 0;
            case 8: return staleOf(d);
            case 9: return crossedOf(d);
            case 10: return rivalsOf(d);
            case 11: return d.ticket;
            default: return OUTSIDE;
        }
    }

    public int noted(int deal, int item, int what) {
        if (!isDeal(deal) || !isItem(item)) {
            return UNKNOWN;
        }
        Deal d = deals[deal];
        switch (what) {
            case 0: return has(d.reads, item) ? d.notedValues[item] : NONE;
            case 1: return has(d.reads, item) ? d.notedStamps[item] : NONE;
            case 2: return has(d.writes, item) ? d.writtenValues[item] : NONE;
            default: return OUTSIDE;
        }
    }

    public int sent(int k) {
        int place = sentAt(k);
        return place != NONE ? place : UNKNOWN;
    }

    public int ballot(int validator, int deal) {
        if (!isValidator(validator) || !isDeal(deal)) {
            return UNKNOWN;
        }
        Deal d = deals[deal];
        return d.state == SENT ? d.votes[validator] : NOT;
    }

    public int log(int commit, int what) {
        Entry e = entryOf(commit);
        if (e == null) {
            return UNKNOWN;
        }
        switch (what) {
            case 0: return e.dealNumber;
            case 1: return e.age;
            case 2: return e.tries;
            case 3: return e.reads;
            case 4: return e.writes;
            case 5: return e.way;
            default: return OUTSIDE;
        }
    }

    public int logged(int commit, int item, int what) {
        Entry e = entryOf(commit);
        if (e == null || !isItem(item)) {
            return UNKNOWN;
        }
        switch (what) {
            case 0: return has(e.reads, item) ? e.notedStamps[item] : NONE;
            case 1: return has(e.writes, item) ? e.writtenValues[item] : NONE;
            default: return OUTSIDE;
        }
    }

    public int behind(int commit, int earlier) {
        Entry late = entryOf(commit);
        Entry early = entryOf(earlier);
        if (late == null || early == null || earlier >= commit) {
            return UNKNOWN;
        }
        int ties = late.hasNoted(earlier) ? 1 : 0;
        if ((late.writes & early.writes) != 0) {
            ties |= 2;
        }
        if ((late.writes & early.reads) != 0) {
            ties |= 4;
        }
        return ties;
    }

    public int count(int what) {
        switch (what) {
            case 0: return commits;
            case 1: return howMany(OPEN);
            case 2: return howMany(SENT);
            case 3: return howMany(DOOMED);
            case 4: return failed;
            case 5: return failedInVain;
            case 6: return failedByYielding;
            case 7: return begun;
            case 8: return triesLimit;
            case 9: return text.length;
            case 10: return allValues();
            default: return OUTSIDE;
        }
    }

    // ---- how it is done: the whole

    /** All as at first, but the text. The rows stay, to be used again. */
    private void startAnew() {
        for (int i = 0; i < ITEMS; i++) {
            values[i] = 0;
            stamps[i] = 0;
        }
        for (Deal d : deals) {
            d.becomeFree(false);
        }
        commits = 0;
        triesLimit = LIMIT_AT_FIRST;
        begun = 0;
        tickets = 0;
        failed = 0;
        failedInVain = 0;
        failedByYielding = 0;
    }

    /** A clause that would be refused is not done, which the calls see to themselves. */
    private void doClause(int c) {
        int first = text.numberOf(c, 0);
        int second = text.numberOf(c, 1);
        int third = text.numberOf(c, 2);
        switch (text.kindOf(c)) {
            case Text.ALL: startAnew(); break;
            case Text.ITEM: put(first, second); break;
            case Text.LIMIT: limit(first); break;
            case Text.BEGIN: begin(first); break;
            case Text.READ: read(first, second); break;
            case Text.WRITE: lay(first, second, third); break;
            case Text.SEND: send(first); break;
            default: break;
        }
    }

    private static boolean isItem(int item) {
        return item >= 0 && item < ITEMS;
    }

    private static boolean isDeal(int deal) {
        return deal >= 0 && deal < DEALS;
    }

    private static boolean isValidator(int validator) {
        return validator >= 0 && validator < VALIDATORS;
    }

    private static boolean isValue(int v) {
        return v >= 0 && v <= VALUE_MOST;
    }

    private static int bit(int place) {
        return 1 << place;
    }

    private static boolean has(int bits, int place) {
        return (bits & bit(place)) != 0;
    }

    private int howMany(int state) {
        int many = 0;
        for (Deal d : deals) {
            if (d.state == state) {
                many++;
            }
        }
        return many;
    }

    private int allValues() {
        int sum = 0;
        for (int v : values) {
            sum += v;
        }
        return sum;
    }

    // ---- how it is done: checks

    private boolean isStubborn(Deal d) {
        return d.tries >= triesLimit;
    }

    private int staleOf(Deal d) {
        int bits = 0;
        for (int i = 0; i < ITEMS; i++) {
            if (has(d.reads, i) && stamps[i] != d.notedStamps[i]) {
                bits |= bit(i);
            }
        }
        return bits;
    }

    /** The last COMMIT that wrote an ITEM is its STAMP: if that one is not after START, none is. */
    private int crossedOf(Deal d) {
        int bits = 0;
        for (int i = 0; i < ITEMS; i++) {
            if (has(d.reads, i) && stamps[i] > d.start) {
                bits |= bit(i);
            }
        }
        return bits;
    }

    private int rivalsOf(Deal d) {
        int bits = 0;
        for (Deal other : deals) {
            if (other.number != d.number && other.state == OPEN && (other.reads & d.writes) != 0) {
                bits |= bit(other.number);
            }
        }
        return bits;
    }

    /** What commit() would answer: a refusal, a failure, or the number of the COMMIT. */
    private int foretell(Deal d, int way) {
        if (way < BACKWARD || way > FORWARD) {
            return OUTSIDE;
        }
        if (d.state != OPEN || howMany(SENT) > 0) {
            return NOT;
        }
        if (commits >= COMMITS_MOST) {
            return FULL;
        }
        // a READ that is STALE was written since it was noted, so after START: it is CROSSED too
        if (staleOf(d) != 0) {
            return STALE;
        }
        if (way == BACKWARD && crossedOf(d) != 0) {
            return VAIN;
        }
        return way == FORWARD && mustYield(d) ? YIELDS : commits + 1;
    }

    private static boolean isFailure(int answer) {
        return answer == STALE || answer == VAIN || answer == YIELDS;
    }

    private boolean mustYield(Deal d) {
        int rivals = rivalsOf(d);
        for (Deal other : deals) {
            if (has(rivals, other.number) && goesFirst(other, d)) {
                return true;
            }
        }
        return false;
    }

    private boolean goesFirst(Deal rival, Deal d) {
        if (isStubborn(rival) != isStubborn(d)) {
            return isStubborn(rival);
        }
        return rival.age < d.age;
    }

    private void doomAll(int bits) {
        for (Deal d : deals) {
            if (has(bits, d.number)) {
                d.state = DOOMED;
            }
        }
    }

    /** The DEAL FAILS; why is what the caller tells then. */
    private int lose(Deal d, int why) {
        failed++;
        if (why == VAIN) {
            failedInVain++;
        }
        if (why == YIELDS) {
            failedByYielding++;
        }
        d.becomeFree(true);
        return why;
    }

    /** The DEAL COMMITS; callers have seen to it that the log has room. */
    private int keep(Deal d, int way) {
        nextEntry().keepDeal(d, way);
        for (int i = 0; i < ITEMS; i++) {
            if (has(d.writes, i)) {
                change(i, d.writtenValues[i]);
            }
        }
        d.becomeFree(false);
        return commits;
    }

    private void change(int item, int v) {
        values[item] = v;
        stamps[item] = commits;
    }

    // ---- how it is done: votes

    /** The SENT DEAL before which k others of a less TICKET are SENT. */
    private int sentAt(int k) {
        for (Deal d : deals) {
            if (d.state == SENT && sentBefore(d) == k) {
                return d.number;
            }
        }
        return NONE;
    }

    private int sentBefore(Deal d) {
        int many = 0;
        for (Deal other : deals) {
            if (other.state == SENT && other.ticket < d.ticket) {
                many++;
            }
        }
        return many;
    }

    private int firstWithoutVote(int validator) {
        for (int k = 0; k < DEALS; k++) {
            int place = sentAt(k);
            if (isDeal(place) && deals[place].votes[validator] == NONE) {
                return place;
            }
        }
        return NONE;
    }

    private int opinion(int validator, Deal d) {
        int spoiled = staleOf(d) | (d.reads & promisedBefore(validator, d));
        return (spoiled & itemsOf(validator)) == 0 ? YES : NO;
    }

    /** What those write that this VALIDATOR has let pass ahead of the DEAL. */
    private int promisedBefore(int validator, Deal d) {
        int bits = 0;
        for (Deal other : deals) {
            if (other.state == SENT && other.ticket < d.ticket && other.votes[validator] == YES) {
                bits |= other.writes;
            }
        }
        return bits;
    }

    private static int itemsOf(int validator) {
        int lowest = bit(ITEMS_OF_A_VALIDATOR) - 1;
        return lowest << (validator * ITEMS_OF_A_VALIDATOR);
    }

    // ---- how it is done: the log

    private Entry entryOf(int commit) {
        if (commit < 1 || commit > commits || commit > COMMITS_MOST) {
            return null;
        }
        return entries[commit - 1];
    }

    /**
     * The entry of one COMMIT more; callers have seen to it that there is room. Entries are made when they are
     * first needed, since most objects need few, and used again after all was as at first.
     */
    private Entry nextEntry() {
        Entry e = entries[commits];
        if (e == null) {
            e = new Entry();
            entries[commits] = e;
        }
        commits++;
        return e;
    }

    /** What is in the rows counts only where READS, WRITES have the ITEM's bit. */
    private static final class Deal {
        final int number;
        int state, start, age, tries, reads, writes, ticket;
        boolean lost;
        final int[] notedValues = new int[ITEMS];
        final int[] notedStamps = new int[ITEMS];
        final int[] writtenValues = new int[ITEMS];
        final int[] votes = new int[VALIDATORS];

        Deal(int number) {
            this.number = number;
        }

        void becomeFree(boolean isLost) {
            state = FREE;
            lost = isLost;
            start = 0;
            reads = 0;
            writes = 0;
            ticket = NONE;
            if (!isLost) {
                age = 0;
                tries = 0;
            }
        }

        void becomeOpen(int commitsNow, int itsAge, int itsTries) {
            state = OPEN;
            lost = false;
            start = commitsNow;
            age = itsAge;
            tries = itsTries;
        }

        void becomeSent(int itsTicket) {
            state = SENT;
            ticket = itsTicket;
            for (int v = 0; v < VALIDATORS; v++) {
                votes[v] = NONE;
            }
        }

        void note(int item, int value, int stamp) {
            reads |= bit(item);
            notedValues[item] = value;
            notedStamps[item] = stamp;
        }

        boolean hasAllVotes() {
            for (int v : votes) {
                if (v == NONE) {
                    return false;
                }
            }
            return true;
        }

        boolean hasOnlyYes() {
            for (int v : votes) {
                if (v != YES) {
                    return false;
                }
            }
            return true;
        }
    }

    /** What the log keeps of one COMMIT; the rows count only where READS, WRITES have the ITEM's bit. */
    private static final class Entry {
        int dealNumber, age, tries, reads, writes, way;
        final int[] notedStamps = new int[ITEMS];
        final int[] writtenValues = new int[ITEMS];

        void keepDeal(Deal d, int itsWay) {
            dealNumber = d.number;
            age = d.age;
            tries = d.tries;
            reads = d.reads;
            writes = d.writes;
            way = itsWay;
            for (int i = 0; i < ITEMS; i++) {
                notedStamps[i] = d.notedStamps[i];
                writtenValues[i] = d.writtenValues[i];
            }
        }

        void keepWrite(int item, int v) {
            dealNumber = NONE;
            age = 0;
            tries = 0;
            reads = 0;
            writes = bit(item);
            way = NO_DEAL;
            writtenValues[item] = v;
        }

        boolean hasNoted(int stamp) {
            for (int i = 0; i < ITEMS; i++) {
                if (has(reads, i) && notedStamps[i] == stamp) {
                    return true;
                }
            }
            return false;
        }
    }

    /** The text, and the clauses that were found in it when it was last parsed. */
    private static final class Text {
        static final int LETTERS_MOST = 200, CLAUSES_MOST = 24, NUMBERS_MOST = 3, DIGITS_MOST = 4;
        static final int ALL = 0, ITEM = 1, LIMIT = 2, BEGIN = 3, READ = 4, WRITE = 5, SEND = 6, KINDS = 7;

        final int[] letters = new int[LETTERS_MOST];
        int length;
        final int[] kinds = new int[CLAUSES_MOST];
        final int[] numbers = new int[CLAUSES_MOST * NUMBERS_MOST];
        int clauses;
        int tokenStart;
        int tokenEnd;

        void append(int letter) {
            if (length < LETTERS_MOST) {
                letters[length] = letter;
                length++;
            }
        }

        int kindOf(int c) {
            return c >= 0 && c < CLAUSES_MOST ? kinds[c] : NONE;
        }

        int numberOf(int c, int place) {
            boolean stands = c >= 0 && c < CLAUSES_MOST && place >= 0 && place < NUMBERS_MOST;
            return stands ? numbers[c * NUMBERS_MOST + place] : NONE;
        }

        /** The place of the fault, or NONE: then the clauses stand in their rows. */
        int parse() {
            clauses = 0;
            tokenEnd = 0;
            nextToken();
            for (int c = 0; c < CLAUSES_MOST; c++) {
                if (!takeClause(c)) {
                    return tokenStart;
                }
                clauses = c + 1;
                if (tokenStart >= length) {
                    return NONE;
                }
                // behind the last clause that there may be, ; cannot stand: it is the fault, not what follows it
                if (letterAt(tokenStart) != ';' || clauses == CLAUSES_MOST) {
                    return tokenStart;
                }
                nextToken();
            }
            return tokenStart;
        }

        /** If a clause does not stand here, the token is left where the fault is. */
        boolean takeClause(int c) {
            int kind = kindOfToken();
            if (kind == NONE || c < 0 || c >= CLAUSES_MOST) {
                return false;
            }
            kinds[c] = kind;
            nextToken();
            String form = formOf(kind);
            for (int n = 0; n < form.length() && n < NUMBERS_MOST; n++) {
                int number = numberOfToken();
                if (number < leastOf(form.charAt(n)) || number > mostOf(form.charAt(n))) {
                    return false;
                }
                numbers[c * NUMBERS_MOST + n] = number;
                nextToken();
            }
            return true;
        }

        int kindOfToken() {
            for (int kind = 0; kind < KINDS; kind++) {
                if (tokenIs(wordOf(kind))) {
                    return kind;
                }
            }
            return NONE;
        }

        boolean tokenIs(String word) {
            if (tokenEnd - tokenStart != word.length()) {
                return false;
            }
            for (int i = 0; i < word.length(); i++) {
                if (letterAt(tokenStart + i) != word.charAt(i)) {
                    return false;
                }
            }
            return true;
        }

        /** NONE, which is below every bound, if the token is no number of as many digits as there may be. */
        int numberOfToken() {
            if (!isDigit(letterAt(tokenStart)) || tokenEnd - tokenStart > DIGITS_MOST) {
                return NONE;
            }
            int number = 0;
            for (int i = tokenStart; i < tokenEnd; i++) {
                number = number * 10 + letterAt(i) - '0';
            }
            return number;
        }

        /** At the end of the text the token is empty, and begins at the length. */
        void nextToken() {
            int at = tokenEnd;
            while (at < length && letterAt(at) == ' ') {
                at++;
            }
            tokenStart = at;
            if (at < length) {
                at++;
            }
            while (at < length && areOfOneRow(letterAt(tokenStart), letterAt(at))) {
                at++;
            }
            tokenEnd = at;
        }

        int letterAt(int at) {
            return at >= 0 && at < length && at < LETTERS_MOST ? letters[at] : NONE;
        }

        static boolean areOfOneRow(int letter, int next) {
            return isDigit(letter) && isDigit(next) || isSmall(letter) && isSmall(next);
        }

        static boolean isDigit(int letter) {
            return letter >= '0' && letter <= '9';
        }

        static boolean isSmall(int letter) {
            return letter >= 'a' && letter <= 'z';
        }

        static String wordOf(int kind) {
            switch (kind) {
                case ALL: return "all";
                case ITEM: return "item";
                case LIMIT: return "limit";
                case BEGIN: return "begin";
                case READ: return "read";
                case WRITE: return "write";
                default: return "send";
            }
        }

        /** The numbers behind the word: I an ITEM, V a VALUE, N a LIMIT, D a DEAL. */
        static String formOf(int kind) {
            switch (kind) {
                case ALL: return "";
                case ITEM: return "IV";
                case LIMIT: return "N";
                case BEGIN: return "D";
                case READ: return "DI";
                case WRITE: return "DIV";
                default: return "D";
            }
        }

        static int leastOf(char sign) {
            return sign == 'N' ? LIMIT_LEAST : 0;
        }

        static int mostOf(char sign) {
            switch (sign) {
                case 'I': return ITEMS - 1;
                case 'V': return VALUE_MOST;
                case 'N': return LIMIT_MOST;
                default: return DEALS - 1;
            }
        }
    }
}

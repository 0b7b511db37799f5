/** A rail of hangers that catch one another, as ../shared/DOC.md promises it. */
public final class HangerRail {
    private static final int BEYOND = -1000000001;
    private static final int FULL = -1000000002;
    private static final int KIND = -1000000003;
    private static final int NONE = -1000000004;
    private static final int STATE = -1000000005;
    private static final int MISSING = -1000000006;
    private static final int SIZE = -1000000007;
    private static final int FINDINGS = 7;
    /** What the private checks answer where nothing stands against an act. */
    private static final int NO_FINDING = 0;

    private static final int PLACES = 24;
    private static final int HANGERS = 12;
    private static final int MOST_MOVES = 9999;
    private static final int MOST_SLIP = 9;
    private static final int MOST_FEEL = 15;
    private static final int FEEL_BITS = 4;
    private static final int MOST_PRICE = 99;
    private static final int FIRST_PRICE = 4;
    private static final int OUT = -1;
    private static final int FREE = -1;
    /** No kind catches what is farther off. */
    private static final int REACH = 2;

    private static final int LIFTED = 0;
    private static final int TURNED = 1;
    private static final int PUSHED = 2;

    private static final int HANGER = 0;
    private static final int WIRE = 1;
    private static final int WOOD = 2;
    private static final int BENT = 3;
    private static final int STRAP = 4;
    private static final int BAR = 5;
    private static final int KINDS = 6;
    private static final int NO_KIND = -1;

    private static final int TAPE_BYTES = 120;
    private static final int SHEETS = 4;
    private static final int SHEET_NUMBERS = 40;

    private final Rail state = new Rail();
    private final Rail kept = new Rail();
    private final Rail draft = new Rail();
    private final Tangle tangle = new Tangle();
    private final Tape tape = new Tape();
    private final Reader reader = new Reader(tape);
    private final Sheet[] sheets = new Sheet[SHEETS];
    private final int[] findings = new int[FINDINGS];
    private boolean imageKept;

    public HangerRail() {
        for (int s = 0; s < SHEETS; s++) {
            sheets[s] = new Sheet();
        }
    }

    // ---- hangers

    public int hanger(int kind) {
        if (!isKind(kind)) {
            return told(BEYOND);
        }
        if (state.hangers >= HANGERS) {
            return told(FULL);
        }
        return state.addHanger(kind);
    }

    public int of(int hanger, int what) {
        if (!state.has(hanger)) {
            return told(BEYOND);
        }
        switch (what) {
            case 0:
                return state.kindOf[hanger];
            case 1:
                return state.placeOf[hanger];
            case 2:
                return state.facingOf(hanger);
            case 3:
                return state.slipOf[hanger];
            case 4:
                return state.feelOf[hanger];
            case 5:
                return holds(state.kindOf[hanger]);
            case 6:
                return need(state.kindOf[hanger]);
            default:
                return told(BEYOND);
        }
    }

    public int set(int hanger, int what, int v) {
        if (!state.has(hanger) || v < 0) {
            return told(BEYOND);
        }
        if (what == 3 && v <= MOST_SLIP) {
            int was = state.slipOf[hanger];
            state.slipOf[hanger] = v;
            return was;
        }
        if (what == 4 && v <= MOST_FEEL) {
            int was = state.feelOf[hanger];
            state.feelOf[hanger] = v;
            return was;
        }
        return told(BEYOND);
    }

    public int turn(int hanger, int kind) {
        if (!state.has(hanger) || !isKind(kind)) {
            return told(BEYOND);
        }
        int was = state.kindOf[hanger];
        state.kindOf[hanger] = kind;
        return was;
    }

    public int as(int hanger, int kind) {
        if (!state.has(hanger) || !isKind(kind)) {
            return told(BEYOND);
        }
        if (!isUnder(state.kindOf[hanger], kind)) {
            return told(KIND);
        }
        return state.slipOf[hanger];
    }

    public int price(int v) {
        if (v < 0 || v > MOST_PRICE) {
            return told(BEYOND);
        }
        int was = state.price;
        state.price = v;
        return was;
    }

    public int at(int place) {
        if (!isPlace(place)) {
            return told(BEYOND);
        }
        return state.isFree(place) ? told(NONE) : state.hangerAt[place];
    }

    // ---- hung, taken

    public int hang(int hanger, int place) {
        if (!state.has(hanger) || !isPlace(place)) {
            return told(BEYOND);
        }
        if (state.isUp(hanger) || !state.isFree(place)) {
            return told(STATE);
        }
        state.put(hanger, place);
        state.addMove();
        return Integer.bitCount(state.up());
    }

    public int face(int hanger) {
        if (!state.has(hanger)) {
            return told(BEYOND);
        }
        state.back ^= 1 << hanger;
        state.addMove();
        return state.facingOf(hanger);
    }

    public int shift(int hanger, int by) {
        if (!state.has(hanger)) {
            return told(BEYOND);
        }
        // No place is farther off than this, and the sum below cannot wrap.
        if (!state.isUp(hanger) || by <= -PLACES || by >= PLACES) {
            return told(STATE);
        }
        int place = state.placeOf[hanger] + by;
        if (!isPlace(place) || !state.isFree(place)) {
            return told(STATE);
        }
        state.putOut(hanger);
        state.put(hanger, place);
        state.addMove();
        return place;
    }

    public int take(int hanger, int manner) {
        int finding = findingAgainstTaking(hanger, manner);
        if (finding != NO_FINDING) {
            return told(finding);
        }
        tangle.look(state);
        int came = tangle.coming(hanger, manner);
        state.strip(state.falling(came, hanger, manner));
        for (int h = 0; h < state.hangers; h++) {
            if (contains(came, h)) {
                state.putOut(h);
            }
        }
        state.addMove();
        return came;
    }

    public int now(int what) {
        switch (what) {
            case 0:
                return state.moves;
            case 1:
                return state.up();
            case 2:
                tangle.look(state);
                return tangle.pairs(state.back);
            case 3:
                return state.shirts();
            case 4:
                return state.slips();
            case 5:
                return state.price;
            case 6:
                return PLACES - Integer.bitCount(state.up());
            default:
                return told(BEYOND);
        }
    }

    // ---- what comes

    public int tangled(int hanger) {
        if (!state.has(hanger)) {
            return told(BEYOND);
        }
        if (!state.isUp(hanger)) {
            return 0;
        }
        return state.tangledWith(hanger, state.kindOf[hanger], state.placeOf[hanger]);
    }

    public int catches(int hanger, int other) {
        if (!state.has(hanger) || !state.has(other) || hanger == other) {
            return told(BEYOND);
        }
        if (!state.isUp(hanger) || !state.isUp(other)) {
            return 0;
        }
        int distance = Math.abs(state.placeOf[hanger] - state.placeOf[other]);
        boolean same = state.facingOf(hanger) == state.facingOf(other);
        boolean shirt = state.slipOf[hanger] > 0;
        return isCatch(state.kindOf[hanger], distance, same, shirt) ? 1 : 0;
    }

    public int comes(int hanger, int manner) {
        int finding = findingAgainstTaking(hanger, manner);
        if (finding != NO_FINDING) {
            return told(finding);
        }
        tangle.look(state);
        return tangle.coming(hanger, manner);
    }

    public int falls(int hanger, int manner) {
        int finding = findingAgainstTaking(hanger, manner);
        if (finding != NO_FINDING) {
            return told(finding);
        }
        tangle.look(state);
        return howManyFall(hanger, manner);
    }

    public int heaps() {
        tangle.look(state);
        int rest = state.up();
        int heaps = 0;
        for (int h = 0; h < HANGERS; h++) {
            if (contains(rest, h)) {
                rest &= ~tangle.heapOf(h);
                heaps++;
            }
        }
        return heaps;
    }

    public int greatest() {
        int up = state.up();
        if (up == 0) {
            return told(NONE);
        }
        tangle.look(state);
        int most = 0;
        for (int h = 0; h < HANGERS; h++) {
            if (contains(up, h)) {
                most = Math.max(most, Integer.bitCount(tangle.heapOf(h)));
            }
        }
        return most;
    }

    // ---- what is best

    public int manner(int hanger) {
        if (!state.has(hanger)) {
            return told(BEYOND);
        }
        if (!state.isUp(hanger)) {
            return told(STATE);
        }
        tangle.look(state);
        int best = LIFTED;
        int bestHarm = harm(hanger, LIFTED);
        for (int m = TURNED; m <= PUSHED; m++) {
            boolean possible = m != PUSHED || state.hasRoom(hanger);
            int harm = harm(hanger, m);
            if (possible && harm < bestHarm) {
                best = m;
                bestHarm = harm;
            }
        }
        return best;
    }

    public int first() {
        int up = state.up();
        if (up == 0) {
            return told(NONE);
        }
        tangle.look(state);
        int best = 0;
        int fewest = HANGERS + 1;
        for (int h = 0; h < HANGERS; h++) {
            int fallen = howManyFall(h, LIFTED);
            if (contains(up, h) && fallen < fewest) {
                best = h;
                fewest = fallen;
            }
        }
        return best;
    }

    public int spot(int hanger) {
        if (!state.has(hanger)) {
            return told(BEYOND);
        }
        if (!state.isUp(hanger)) {
            return told(STATE);
        }
        int place = state.placeOf[hanger];
        for (int distance = 0; distance < PLACES; distance++) {
            if (state.isAloneAt(hanger, place - distance)) {
                return place - distance;
            }
            if (state.isAloneAt(hanger, place + distance)) {
                return place + distance;
            }
        }
        return told(NONE);
    }

    public int facing() {
        tangle.look(state);
        int best = 0;
        // One that is out is tangled with none either way, so no set with it is better.
        for (int h = 0; h < state.hangers; h++) {
            best = betterFacing(best, 1 << h);
        }
        // The higher of two counts outside, so that the sets come from the least on.
        for (int high = 1; high < state.hangers; high++) {
            for (int low = 0; low < high; low++) {
                best = betterFacing(best, 1 << high | 1 << low);
            }
        }
        return best;
    }

    public int clears(int manner) {
        if (manner != LIFTED && manner != TURNED) {
            return told(BEYOND);
        }
        tangle.look(state);
        int there = state.up();
        int fallen = 0;
        for (int h = 0; h < HANGERS; h++) {
            if (contains(there, h)) {
                // Who is out tangles no more; what is left is tangled as it was.
                int came = tangle.coming(h, manner) & there;
                fallen += Integer.bitCount(state.falling(came, h, manner));
                there &= ~came;
            }
        }
        return fallen;
    }

    public int untangle() {
        tangle.look(state);
        return tangle.leastCover();
    }

    public int saves() {
        tangle.look(state);
        int must = Integer.bitCount(tangle.leastCover());
        return state.price * Integer.bitCount(tangle.all()) - 2 * must;
    }

    public int feels(int feel) {
        if (feel < 0 || feel > MOST_FEEL) {
            return told(BEYOND);
        }
        if (state.up() == 0) {
            return told(NONE);
        }
        int set = 0;
        int fewest = FEEL_BITS + 1;
        for (int h = 0; h < state.hangers; h++) {
            int unlike = Integer.bitCount(state.feelOf[h] ^ feel);
            if (state.isUp(h) && unlike < fewest) {
                set = 1 << h;
                fewest = unlike;
            } else if (state.isUp(h) && unlike == fewest) {
                set |= 1 << h;
            }
        }
        return set;
    }

    public int kind(int hanger) {
        if (!state.has(hanger)) {
            return told(BEYOND);
        }
        if (!state.isUp(hanger)) {
            return told(STATE);
        }
        int best = HANGER;
        int fewest = HANGERS + 1;
        for (int k = HANGER; k < KINDS; k++) {
            int set = state.tangledWith(hanger, k, state.placeOf[hanger]);
            if (Integer.bitCount(set) < fewest) {
                best = k;
                fewest = Integer.bitCount(set);
            }
        }
        return best;
    }

    // ---- the text

    public int feed(int bytes, int n) {
        if (n < 1 || n > 4) {
            return told(BEYOND);
        }
        if (tape.length + n > TAPE_BYTES) {
            return told(FULL);
        }
        for (int i = n - 1; i >= 0; i--) {
            tape.add((byte) (bytes >> (8 * i)));
        }
        return tape.length;
    }

    public int wipe() {
        int had = tape.length;
        tape.length = 0;
        return had;
    }

    public int rail() {
        draft.become(state);
        int answer = reader.readItems(draft);
        if (answer >= 0) {
            state.become(draft);
        }
        tape.length = 0;
        return answer;
    }

    // ---- sheets

    public int sheet(int s, int bits, int n) {
        boolean bitsKnown = bits == 0 || bits == 8 || bits == 16 || bits == 64;
        if (!isSheet(s) || !bitsKnown) {
            return told(BEYOND);
        }
        if (n < 0) {
            return told(SIZE);
        }
        if (n > SHEET_NUMBERS) {
            return told(BEYOND);
        }
        int size = bits == 0 ? 0 : n;
        sheets[s].lay(bits, size);
        return size;
    }

    public long write(int s, int i, long v) {
        int finding = findingAgainstSheet(s);
        if (finding != NO_FINDING) {
            return told(finding);
        }
        Sheet sheet = sheets[s];
        if (i < 0 || i >= sheet.size) {
            return told(BEYOND);
        }
        long was = sheet.numbers[i];
        sheet.put(i, v);
        return was;
    }

    public int copy(int s, int from, int t, int to, int n) {
        if (!isSheet(s) || !isSheet(t)) {
            return told(BEYOND);
        }
        Sheet source = sheets[s];
        Sheet target = sheets[t];
        if (source.isMissing() || target.isMissing()) {
            return told(MISSING);
        }
        if (source.bits != target.bits) {
            return told(KIND);
        }
        if (!source.hasRun(from, n) || !target.hasRun(to, n)) {
            return told(BEYOND);
        }
        System.arraycopy(source.numbers, from, target.numbers, to, n);
        return n;
    }

    public int lays(int s) {
        int finding = findingAgainstSheet(s);
        if (finding != NO_FINDING) {
            return told(finding);
        }
        Sheet sheet = sheets[s];
        int hung = 0;
        int last = Math.min(sheet.size, state.hangers);
        for (int h = 0; h < last; h++) {
            long place = sheet.numbers[h];
            if (!state.isUp(h) && place >= 0 && place < PLACES && state.isFree((int) place)) {
                state.put(h, (int) place);
                state.addMove();
                hung++;
            }
        }
        return hung;
    }

    public int book(int s) {
        int finding = findingAgainstSheet(s);
        if (finding != NO_FINDING) {
            return told(finding);
        }
        Sheet sheet = sheets[s];
        int written = 0;
        for (int p = 0; p < PLACES; p++) {
            if (!state.isFree(p) && written < sheet.size) {
                sheet.put(written, state.hangerAt[p]);
                written++;
            }
        }
        for (int i = written; i < sheet.size; i++) {
            sheet.put(i, -1);
        }
        return Integer.bitCount(state.up());
    }

    public int read(int s) {
        int finding = findingAgainstSheet(s);
        if (finding != NO_FINDING) {
            return told(finding);
        }
        Sheet sheet = sheets[s];
        tangle.look(state);
        int there = state.up();
        for (int i = 0; i < sheet.size; i++) {
            long h = sheet.numbers[i];
            boolean up = h >= 0 && h < HANGERS && contains(there, (int) h);
            if (!up || (tangle.near[(int) h] & there) != 0) {
                return 1 + i;
            }
            there &= ~(1 << (int) h);
        }
        return 0;
    }

    // ---- images

    public int image() {
        kept.become(state);
        imageKept = true;
        return 1;
    }

    public int undo() {
        if (!imageKept) {
            return told(NONE);
        }
        state.become(kept);
        return state.hangers;
    }

    public int tear() {
        int was = imageKept ? 1 : 0;
        imageKept = false;
        return was;
    }

    public int count(int what) {
        switch (what) {
            case 0:
                return state.hangers;
            case 1:
                return tape.length;
            case 2:
                return Integer.bitCount(state.up());
            case 3:
                return Integer.bitCount(state.back);
            default:
                return told(BEYOND);
        }
    }

    public int status(int which) {
        if (which < -1 || which >= FINDINGS) {
            return told(BEYOND);
        }
        if (which >= 0) {
            return findings[which];
        }
        int all = 0;
        for (int i = 0; i < FINDINGS; i++) {
            all += findings[i];
        }
        return all;
    }

    // ---- what the calls share

    /** Counts a finding that is about to be answered. */
    private int told(int finding) {
        int which = BEYOND - finding;
        if (which >= 0 && which < FINDINGS) {
            findings[which]++;
        }
        return finding;
    }

    private int findingAgainstTaking(int hanger, int manner) {
        if (!state.has(hanger) || manner < LIFTED || manner > PUSHED) {
            return BEYOND;
        }
        if (!state.isUp(hanger) || (manner == PUSHED && !state.hasRoom(hanger))) {
            return STATE;
        }
        return NO_FINDING;
    }

    private int findingAgainstSheet(int s) {
        if (!isSheet(s)) {
            return BEYOND;
        }
        return sheets[s].isMissing() ? MISSING : NO_FINDING;
    }

    /** The tangle must have been looked at. */
    private int howManyFall(int hanger, int manner) {
        int came = tangle.coming(hanger, manner);
        return Integer.bitCount(state.falling(came, hanger, manner));
    }

    /** Shirts that fall weigh more than any number of hangers that come. */
    private int harm(int hanger, int manner) {
        int came = tangle.coming(hanger, manner);
        return howManyFall(hanger, manner) * (HANGERS + 1) + Integer.bitCount(came);
    }

    /** The set to be faced the other way that leaves fewer pairs tangled; the first, if as many. */
    private int betterFacing(int best, int set) {
        return tangle.pairs(state.back ^ set) < tangle.pairs(state.back ^ best) ? set : best;
    }

    private static boolean isPlace(int place) {
        return place >= 0 && place < PLACES;
    }

    private static boolean isSheet(int s) {
        return s >= 0 && s < SHEETS;
    }

    private static boolean contains(int set, int h) {
        return (set >> h & 1) == 1;
    }

    // ---- the kinds, each told by the one above it

    private static boolean isKind(int kind) {
        return kind >= HANGER && kind < KINDS;
    }

    private static int above(int kind) {
        switch (kind) {
            case WIRE:
            case WOOD:
                return HANGER;
            case BENT:
            case STRAP:
                return WIRE;
            case BAR:
                return WOOD;
            default:
                return NO_KIND;
        }
    }

    /** Whether a kind is the other one, or stands anywhere under it. */
    private static boolean isUnder(int kind, int other) {
        int k = kind;
        for (int step = 0; step < KINDS && k != NO_KIND; step++) {
            if (k == other) {
                return true;
            }
            k = above(k);
        }
        return false;
    }

    private static boolean isCatch(int kind, int distance, boolean same, boolean shirt) {
        boolean hangerCatches = distance == 1 && same;
        boolean wireCatches = hangerCatches || (distance == 2 && same);
        switch (kind) {
            case HANGER:
                return hangerCatches;
            case WIRE:
                return wireCatches;
            case BENT:
                return wireCatches || distance == 1;
            case STRAP:
                return wireCatches && shirt;
            case BAR:
                return distance == 1 && !same;
            default:
                return false;
        }
    }

    private static int holds(int kind) {
        int hangerHolds = 5;
        int wireHolds = hangerHolds - 2;
        int woodHolds = hangerHolds + 3;
        switch (kind) {
            case WIRE:
                return wireHolds;
            case WOOD:
                return woodHolds;
            case BENT:
                return wireHolds - 1;
            case STRAP:
                return wireHolds + 4;
            case BAR:
                return woodHolds + 1;
            default:
                return hangerHolds;
        }
    }

    private static int need(int kind) {
        int hangerNeeds = 1;
        switch (kind) {
            case WOOD:
            case BAR:
                return 2 * hangerNeeds;
            case BENT:
                return hangerNeeds + 1;
            default:
                return hangerNeeds;
        }
    }

    private static String kindName(int kind) {
        switch (kind) {
            case HANGER:
                return "hanger";
            case WIRE:
                return "wire";
            case WOOD:
                return "wood";
            case BENT:
                return "bent";
            case STRAP:
                return "strap";
            default:
                return "bar";
        }
    }

    /** All that section 1 of the document tells, but for the tape. */
    private static final class Rail {
        int hangers;
        int moves;
        int price = FIRST_PRICE;
        /** Those that face 1, as a set. */
        int back;
        final int[] kindOf = new int[HANGERS];
        final int[] placeOf = new int[HANGERS];
        final int[] slipOf = new int[HANGERS];
        final int[] feelOf = new int[HANGERS];
        final int[] hangerAt = new int[PLACES];

        Rail() {
            for (int p = 0; p < PLACES; p++) {
                hangerAt[p] = FREE;
            }
            for (int h = 0; h < HANGERS; h++) {
                placeOf[h] = OUT;
            }
        }

        void become(Rail other) {
            hangers = other.hangers;
            moves = other.moves;
            price = other.price;
            back = other.back;
            System.arraycopy(other.kindOf, 0, kindOf, 0, HANGERS);
            System.arraycopy(other.placeOf, 0, placeOf, 0, HANGERS);
            System.arraycopy(other.slipOf, 0, slipOf, 0, HANGERS);
            System.arraycopy(other.feelOf, 0, feelOf, 0, HANGERS);
            System.arraycopy(other.hangerAt, 0, hangerAt, 0, PLACES);
        }

        boolean has(int h) {
            return h >= 0 && h < hangers;
        }

        boolean isUp(int h) {
            return placeOf[h] != OUT;
        }

        boolean isFree(int place) {
            return hangerAt[place] == FREE;
        }

        int facingOf(int h) {
            return back >> h & 1;
        }

        /** To be asked only while there are fewer than the most; what is beyond them is as in a new rail. */
        int addHanger(int kind) {
            int h = hangers;
            kindOf[h] = kind;
            hangers++;
            return h;
        }

        void put(int h, int place) {
            placeOf[h] = place;
            hangerAt[place] = h;
        }

        void putOut(int h) {
            int place = placeOf[h];
            if (isPlace(place)) {
                hangerAt[place] = FREE;
            }
            placeOf[h] = OUT;
        }

        void addMove() {
            moves = Math.min(moves + 1, MOST_MOVES);
        }

        /** Those on the rail, as a set. */
        int up() {
            int set = 0;
            for (int h = 0; h < hangers; h++) {
                if (isUp(h)) {
                    set |= 1 << h;
                }
            }
            return set;
        }

        int shirts() {
            int shirts = 0;
            for (int h = 0; h < hangers; h++) {
                if (slipOf[h] > 0) {
                    shirts++;
                }
            }
            return shirts;
        }

        int slips() {
            int sum = 0;
            for (int h = 0; h < hangers; h++) {
                sum += slipOf[h];
            }
            return sum;
        }

        boolean hasRoom(int h) {
            int free = 0;
            int left = placeOf[h] - 1;
            int right = placeOf[h] + 1;
            if (isPlace(left) && isFree(left)) {
                free++;
            }
            if (isPlace(right) && isFree(right)) {
                free++;
            }
            return free >= need(kindOf[h]);
        }

        /** Of those that came with a wanted one: whose shirts fall, as a set. */
        int falling(int came, int wanted, int manner) {
            int set = 0;
            for (int h = 0; h < hangers; h++) {
                boolean shaken = contains(came, h) && (h != wanted || manner == TURNED);
                if (shaken && slipOf[h] > holds(kindOf[h])) {
                    set |= 1 << h;
                }
            }
            return set;
        }

        void strip(int set) {
            for (int h = 0; h < hangers; h++) {
                if (contains(set, h)) {
                    slipOf[h] = 0;
                }
            }
        }

        /** Whom one would be tangled with as a kind and at a place, with all else as it is. */
        int tangledWith(int h, int kind, int place) {
            int alike = alike(h, back);
            int same = tangledIf(h, kind, place, true) & alike;
            int other = tangledIf(h, kind, place, false) & ~alike;
            return same | other;
        }

        /** As tangledWith, if all the others faced the same way as one, or none of them. */
        int tangledIf(int h, int kind, int place, boolean same) {
            int set = 0;
            int last = Math.min(PLACES - 1, place + REACH);
            for (int p = Math.max(0, place - REACH); p <= last; p++) {
                int o = hangerAt[p];
                if (o != FREE && o != h) {
                    int distance = Math.abs(p - place);
                    boolean caught = isCatch(kind, distance, same, slipOf[h] > 0)
                            || isCatch(kindOf[o], distance, same, slipOf[o] > 0);
                    set |= caught ? 1 << o : 0;
                }
            }
            return set;
        }

        boolean isAloneAt(int h, int place) {
            if (!isPlace(place) || (!isFree(place) && hangerAt[place] != h)) {
                return false;
            }
            return tangledWith(h, kindOf[h], place) == 0;
        }

        /** Those that face as one does, of sets of those that face 1 (bits beyond the hangers are free). */
        static int alike(int h, int back) {
            return contains(back, h) ? back : ~back;
        }
    }

    /** Who is tangled with whom on a rail, as it was when it was looked at. */
    private static final class Tangle {
        private final int[] same = new int[HANGERS];
        private final int[] other = new int[HANGERS];
        final int[] near = new int[HANGERS];

        void look(Rail rail) {
            for (int h = 0; h < HANGERS; h++) {
                boolean up = rail.isUp(h);
                int kind = rail.kindOf[h];
                int place = rail.placeOf[h];
                same[h] = up ? rail.tangledIf(h, kind, place, true) : 0;
                other[h] = up ? rail.tangledIf(h, kind, place, false) : 0;
                near[h] = nearFacing(h, rail.back);
            }
        }

        private int nearFacing(int h, int back) {
            int alike = Rail.alike(h, back);
            return (same[h] & alike) | (other[h] & ~alike);
        }

        /** How many pairs are tangled, if those of a set face 1 and the others 0. */
        int pairs(int back) {
            int ends = 0;
            for (int h = 0; h < HANGERS; h++) {
                ends += Integer.bitCount(nearFacing(h, back));
            }
            return ends / 2;
        }

        /** Those that are tangled with any. */
        int all() {
            int set = 0;
            for (int h = 0; h < HANGERS; h++) {
                set |= near[h];
            }
            return set;
        }

        int coming(int h, int manner) {
            if (manner == LIFTED) {
                return heapOf(h);
            }
            return manner == TURNED ? near[h] | 1 << h : 1 << h;
        }

        int heapOf(int h) {
            int heap = 1 << h;
            // A step that adds nobody is the last one, so a heap of all needs no more than these.
            for (int step = 0; step < HANGERS; step++) {
                int grown = heap;
                for (int i = 0; i < HANGERS; i++) {
                    grown |= contains(heap, i) ? near[i] : 0;
                }
                if (grown == heap) {
                    return heap;
                }
                heap = grown;
            }
            return heap;
        }

        int leastCover() {
            int worseThanAny = -1;
            return leastCover(near, HANGERS - 1, 0, worseThanAny);
        }

        /**
         * The least of the smallest sets that leave no two tangled, of those that hold all
         * that is taken, if it is smaller than the best so far. Hangers above h are settled,
         * and the sets are come to from the least on, so the first of a size is the least.
         */
        private static int leastCover(int[] near, int h, int taken, int best) {
            if (Integer.bitCount(taken) >= Integer.bitCount(best)) {
                return best;
            }
            if (h < 0 || h >= near.length) {
                return taken;
            }
            if (contains(taken, h)) {
                return leastCover(near, h - 1, taken, best);
            }
            // Whoever above h was left has had all its near ones taken, so h has none there.
            int must = near[h] & ~taken;
            int better = leastCover(near, h - 1, taken | must, best);
            return must == 0 ? better : leastCover(near, h - 1, taken | 1 << h, better);
        }
    }

    /** The bytes that were fed. */
    private static final class Tape {
        final byte[] bytes = new byte[TAPE_BYTES];
        int length;

        void add(byte b) {
            if (length < TAPE_BYTES) {
                bytes[length] = b;
                length++;
            }
        }
    }

    /** Reads the text of a rail from a tape, a token at a time. */
    private static final class Reader {
        private static final int END = 0;
        private static final int WORD = 1;
        private static final int NUMBER = 2;
        private static final int SIGN = 3;
        private static final int OTHER = 4;
        private static final int MOST_NUMBER = 999;

        private final Tape tape;
        private int token;
        private int from;
        private int to;
        private int number;

        Reader(Tape tape) {
            this.tape = tape;
        }

        /** How many items came to the rail, or -1 less the place of the fault. */
        int readItems(Rail rail) {
            to = 0;
            step();
            int items = 0;
            while (items < TAPE_BYTES) {
                if (!readItem(rail)) {
                    return -1 - from;
                }
                items++;
                if (token == END) {
                    return items;
                }
                if (token != SIGN) {
                    return -1 - from;
                }
                step();
            }
            return -1 - from;
        }

        private boolean readItem(Rail rail) {
            if (isWord("price")) {
                step();
                if (!isNumber(0, MOST_PRICE)) {
                    return false;
                }
                rail.price = number;
                step();
                return true;
            }
            int kind = namedKind();
            if (kind == NO_KIND || rail.hangers >= HANGERS) {
                return false;
            }
            int h = rail.addHanger(kind);
            step();
            return readPlace(rail, h) && readBack(rail, h) && readShirt(rail, h) && readFeel(rail, h);
        }

        private boolean readPlace(Rail rail, int h) {
            if (!isWord("at")) {
                return true;
            }
            step();
            if (!isNumber(0, PLACES - 1) || !rail.isFree(number)) {
                return false;
            }
            rail.put(h, number);
            step();
            return true;
        }

        private boolean readBack(Rail rail, int h) {
            if (isWord("back")) {
                rail.back |= 1 << h;
                step();
            }
            return true;
        }

        private boolean readShirt(Rail rail, int h) {
            if (!isWord("shirt")) {
                return true;
            }
            step();
            if (!isNumber(1, MOST_SLIP)) {
                return false;
            }
            rail.slipOf[h] = number;
            step();
            return true;
        }

        private boolean readFeel(Rail rail, int h) {
            if (!isWord("feel")) {
                return true;
            }
            step();
            if (!isNumber(0, MOST_FEEL)) {
                return false;
            }
            rail.feelOf[h] = number;
            step();
            return true;
        }

        private boolean isNumber(int least, int most) {
            return token == NUMBER && number >= least && number <= most;
        }

        private boolean isWord(String word) {
            if (token != WORD || to - from != word.length()) {
                return false;
            }
            for (int i = 0; i < word.length(); i++) {
                if (tape.bytes[from + i] != word.charAt(i)) {
                    return false;
                }
            }
            return true;
        }

        private int namedKind() {
            for (int k = HANGER; k < KINDS; k++) {
                if (isWord(kindName(k))) {
                    return k;
                }
            }
            return NO_KIND;
        }

        /** Goes on to the next token; behind the last one it is the end, which begins at the length. */
        private void step() {
            from = to;
            while (from < tape.length && tape.bytes[from] == ' ') {
                from++;
            }
            to = from;
            if (from >= tape.length) {
                token = END;
            } else if (isLetter(tape.bytes[from])) {
                stepWord();
            } else if (isDigit(tape.bytes[from])) {
                stepNumber();
            } else {
                token = tape.bytes[from] == ';' ? SIGN : OTHER;
                to = from + 1;
            }
        }

        private void stepWord() {
            token = WORD;
            while (to < tape.length && isLetter(tape.bytes[to])) {
                to++;
            }
        }

        private void stepNumber() {
            token = NUMBER;
            number = 0;
            while (to < tape.length && isDigit(tape.bytes[to])) {
                // Held just above the most, so that many digits cannot wrap.
                number = Math.min(number * 10 + tape.bytes[to] - '0', MOST_NUMBER + 1);
                to++;
            }
        }

        private static boolean isLetter(byte b) {
            return b >= 'a' && b <= 'z';
        }

        private static boolean isDigit(byte b) {
            return b >= '0' && b <= '9';
        }
    }

    /** A row of numbers of some bits; with 0 bits it is missing. */
    private static final class Sheet {
        final long[] numbers = new long[SHEET_NUMBERS];
        int bits;
        int size;

        boolean isMissing() {
            return bits == 0;
        }

        void lay(int newBits, int newSize) {
            bits = newBits;
            size = newSize;
            for (int i = 0; i < SHEET_NUMBERS; i++) {
                numbers[i] = 0;
            }
        }

        void put(int i, long v) {
            if (bits == 8) {
                numbers[i] = (byte) v;
            } else if (bits == 16) {
                numbers[i] = (short) v;
            } else {
                numbers[i] = v;
            }
        }

        boolean hasRun(int start, int n) {
            return start >= 0 && n >= 0 && start <= size - n;
        }
    }
}

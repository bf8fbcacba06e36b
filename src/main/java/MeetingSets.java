/** Families of sets of at most seven points, in three slots; every call answers with one number. */
public final class MeetingSets {
    public static final int NONE = -1;

    private static final int REFUSED = -2;
    private static final int TOO_LONG = -3;
    private static final int FAULTY = -4;
    private static final int THERE = -5;
    private static final int UNFIT = -6;

    private static final int SLOTS = 3;
    private static final int MOST_POINTS = 7;
    private static final int SETS = 128;
    private static final int MOST_TRIES = 50000;
    private static final int MOST_ROW = 100000;

    private final Family[] slots = new Family[SLOTS];
    // What a call works with; kept, so that no call makes an object.
    private final Family made = new Family();
    private final Family spare = new Family();
    private final Family third = new Family();
    private final int[] places = new int[MOST_POINTS];
    private final Tape tape = new Tape();
    private final Teller out = new Teller();
    private final History history = new History();
    private final Search search = new Search();
    private final Parts parts = new Parts();

    public MeetingSets() {
        for (int slot = 0; slot < SLOTS; slot++) {
            slots[slot] = new Family();
        }
    }

    public int feed(int a, int b, int c, int d, int e) {
        if (!tape.hasRoom(20)) {
            return NONE;
        }
        tape.append(a);
        tape.append(b);
        tape.append(c);
        tape.append(d);
        tape.append(e);
        return tape.length;
    }

    public int end(int n) {
        if (n < 0 || n > tape.length) {
            return NONE;
        }
        tape.length = n;
        return n;
    }

    public int told(int slot) {
        if (!isSlot(slot)) {
            return REFUSED;
        }
        boolean read = tape.read(made);
        tape.length = 0;
        return read ? comesInto(slot, made) : FAULTY;
    }

    public int fault(int what) {
        if (what == 0) {
            return tape.fault;
        }
        return what == 1 ? tape.place : NONE;
    }

    public int count(int what) {
        switch (what) {
            case 0:
                return usedSlots();
            case 1:
                return history.size;
            case 2:
                return tape.length;
            case 3:
                return out.length;
            default:
                return NONE;
        }
    }

    public int look(int slot, int what) {
        Family f = familyAt(slot);
        if (f == null || !isLookable(what)) {
            return REFUSED;
        }
        return measure(f, what);
    }

    public int set(int slot, int k) {
        Family f = familyAt(slot);
        if (f == null || k < 0) {
            return REFUSED;
        }
        return f.pick(k);
    }

    public int has(int slot, int set) {
        Family f = familyAt(slot);
        if (f == null || !f.knows(set)) {
            return REFUSED;
        }
        return f.holds(set) ? 1 : 0;
    }

    public int is(int slot, int what) {
        Family f = familyAt(slot);
        if (f == null || what < 0 || what > 10) {
            return REFUSED;
        }
        return isSuch(f, what) ? 1 : 0;
    }

    public int degree(int slot, int point) {
        Family f = familyAt(slot);
        if (f == null || !f.knowsPoint(point)) {
            return REFUSED;
        }
        return f.degreeOf(point);
    }

    public int order(int slot, int k) {
        Family f = familyAt(slot);
        if (f == null || !f.knowsPoint(k)) {
            return REFUSED;
        }
        for (int p = 0; p < f.points; p++) {
            if (pointsAhead(f, p) == k) {
                return p;
            }
        }
        return REFUSED;
    }

    public int level(int slot, int level) {
        Family f = familyAt(slot);
        if (f == null || level < 0 || level > f.points) {
            return REFUSED;
        }
        return f.sizeOfLevel(level);
    }

    public int makes(int slot, int what, int to) {
        Family f = familyAt(slot);
        if (f == null || what < 0 || what > 9 || !isSlot(to)) {
            return REFUSED;
        }
        make(f, what);
        return comesInto(to, made);
    }

    public int part(int slot, int point, int what, int to) {
        Family f = familyAt(slot);
        if (f == null || !f.knowsPoint(point) || what < 0 || what > 1 || !isSlot(to)) {
            return REFUSED;
        }
        if (what == 0) {
            made.clear(f.points);
            made.joinLink(f, point);
        } else {
            made.become(f);
            made.keepLacking(point);
        }
        return comesInto(to, made);
    }

    public int shift(int slot, int i, int j) {
        Family f = familyAt(slot);
        if (f == null || !isShift(f, i, j)) {
            return REFUSED;
        }
        third.become(f);
        int changed = move(third, i, j);
        comesInto(slot, third);
        return changed;
    }

    public int would(int slot, int i, int j) {
        Family f = familyAt(slot);
        if (f == null || !isShift(f, i, j)) {
            return REFUSED;
        }
        return newcomers(f, i, j);
    }

    public int settles(int slot) {
        Family f = familyAt(slot);
        if (f == null) {
            return REFUSED;
        }
        third.become(f);
        int changes = settle(third);
        comesInto(slot, third);
        return changes;
    }

    public int row(int slot, int n, int k, int m) {
        if (!isSlot(slot) || !isPointCount(n) || k < 0 || k > n) {
            return REFUSED;
        }
        if (m < 0 || m > Numbers.binomial(n, k)) {
            return REFUSED;
        }
        made.clear(n);
        int greatest = NONE;
        for (int i = 0; i < m; i++) {
            greatest = Numbers.nextOfLevel(greatest, k, n);
            made.put(greatest);
        }
        comesInto(slot, made);
        return greatest;
    }

    public int all(int slot, int n, int k, int point) {
        if (!isSlot(slot) || !isPointCount(n) || k < 0 || k > n || point < NONE || point >= n) {
            return REFUSED;
        }
        made.clear(n);
        for (int s = 0; s < 1 << n; s++) {
            if (Integer.bitCount(s) == k && (point == NONE || (s >> point & 1) == 1)) {
                made.put(s);
            }
        }
        return comesInto(slot, made);
    }

    public int least(int m, int k) {
        if (!isRowSize(m, k)) {
            return REFUSED;
        }
        int tops = Numbers.tops(m, k, places);
        long shadow = 0;
        for (int i = 0; i < tops; i++) {
            shadow += Numbers.binomial(places[i], k - i - 1);
        }
        return (int) shadow;
    }

    public int cascade(int m, int k, int i) {
        if (!isRowSize(m, k) || i < 0) {
            return REFUSED;
        }
        int tops = Numbers.tops(m, k, places);
        return i < tops ? places[i] : NONE;
    }

    public int choose(int n, int k) {
        if (n < 0 || n > 20) {
            return REFUSED;
        }
        return (int) Numbers.binomial(n, k);
    }

    public int most(int slot, int what, int tries) {
        Family f = familyAt(slot);
        if (f == null || !isSearch(what, tries)) {
            return REFUSED;
        }
        return search.run(f, what, tries) ? search.best : TOO_LONG;
    }

    public int takes(int slot, int what, int tries, int to) {
        Family f = familyAt(slot);
        if (f == null || !isSearch(what, tries) || !isSlot(to)) {
            return REFUSED;
        }
        if (!search.run(f, what, tries)) {
            return TOO_LONG;
        }
        comesInto(to, search.found);
        return search.tries;
    }

    public int cover(int slot) {
        Family f = familyAt(slot);
        if (f == null) {
            return REFUSED;
        }
        made.becomeAnswers(f);
        return made.firstOfLevel(made.leastLevel());
    }

    public int colours(int slot, int tries) {
        Family f = familyAt(slot);
        if (f == null || !isTries(tries)) {
            return REFUSED;
        }
        if (f.holds(0)) {
            return UNFIT;
        }
        if (f.isEmpty()) {
            return 0;
        }
        for (int c = 1; c <= MOST_POINTS; c++) {
            int end = parts.run(f, c, tries);
            if (end != Parts.NO_WAY) {
                return end == Parts.FOUND ? c : TOO_LONG;
            }
        }
        // Never reached: sets with the same least point meet, so as many parts as points always do.
        return NONE;
    }

    public int colour(int slot, int c, int tries, int k) {
        Family f = familyAt(slot);
        if (f == null || c < 1 || c > MOST_POINTS || !isTries(tries) || k < 0) {
            return REFUSED;
        }
        if (f.holds(0)) {
            return UNFIT;
        }
        if (k >= f.size()) {
            return NONE;
        }
        int end = parts.run(f, c, tries);
        if (end == Parts.TOO_LONG_SO_FAR) {
            return TOO_LONG;
        }
        return end == Parts.FOUND ? parts.partOf(k) : NONE;
    }

    public int steps(int slot, int set, int other) {
        Family f = familyAt(slot);
        if (f == null || !f.knows(set) || !f.knows(other)) {
            return REFUSED;
        }
        if (!f.holds(set) || !f.holds(other)) {
            return UNFIT;
        }
        return walk(f, set, other);
    }

    public int arcs(int slot, int round) {
        Family f = familyAt(slot);
        if (f == null || !Rounds.isRound(f.points, round)) {
            return REFUSED;
        }
        Rounds.lay(f.points, round, places);
        return arcsOf(f);
    }

    public int around(int n, int round, int i) {
        if (!isPointCount(n) || !Rounds.isRound(n, round) || i < 0 || i >= n) {
            return REFUSED;
        }
        Rounds.lay(n, round, places);
        return places[i];
    }

    public int rounds(int n, int set) {
        if (!isPointCount(n) || set < 0 || set >= 1 << n) {
            return REFUSED;
        }
        return Rounds.roundsWithArc(n, Integer.bitCount(set));
    }

    public int sum(int slot, int what) {
        Family f = familyAt(slot);
        if (f == null || what < 0 || what > 1) {
            return REFUSED;
        }
        long above = 0;
        long below = 1;
        for (int level = 0; level <= f.points; level++) {
            long ways = Numbers.binomial(f.points, level);
            above = above * ways + below * f.sizeOfLevel(level);
            below = below * ways;
            long divisor = Numbers.commonDivisor(above, below);
            above = Numbers.quotient(above, divisor);
            below = Numbers.quotient(below, divisor);
        }
        return (int) (what == 0 ? above : below);
    }

    public int shattered(int slot, int set) {
        Family f = familyAt(slot);
        if (f == null || !f.knows(set)) {
            return REFUSED;
        }
        return isShattered(f, set) ? 1 : 0;
    }

    public int shatters(int slot, int what) {
        Family f = familyAt(slot);
        if (f == null || what < 0 || what > 1) {
            return REFUSED;
        }
        spare.clear(f.points);
        for (int s = 0; s < f.span(); s++) {
            if (isShattered(f, s)) {
                spare.put(s);
            }
        }
        return what == 0 ? spare.size() : spare.greatestLevel();
    }

    public int flower(int slot, int k) {
        Family f = familyAt(slot);
        if (f == null || k < NONE) {
            return REFUSED;
        }
        return findFlower(f, k);
    }

    public int across(int slot, int other, int what) {
        Family f = familyAt(slot);
        Family g = familyAt(other);
        if (f == null || g == null || what < 0 || what > 3) {
            return REFUSED;
        }
        switch (what) {
            case 0:
                return f.size() * g.size() - twosApartAcross(f, g);
            case 1:
                return twosApartAcross(f, g);
            case 2:
                made.become(f);
                made.keep(g);
                return made.size();
            default:
                made.become(f);
                made.join(g);
                return made.size();
        }
    }

    public int answers(int slot, int k) {
        Family f = familyAt(slot);
        if (f == null || k < 0 || k > f.points) {
            return REFUSED;
        }
        made.becomeAnswers(f);
        return made.sizeOfLevel(k);
    }

    public int alike(int slot, int other) {
        Family f = familyAt(slot);
        Family g = familyAt(other);
        if (f == null || g == null) {
            return REFUSED;
        }
        return f.points == g.points && namings(f, g) > 0 ? 1 : 0;
    }

    public int selves(int slot) {
        Family f = familyAt(slot);
        if (f == null) {
            return REFUSED;
        }
        return namings(f, f);
    }

    public int adds(int slot, int set) {
        Family f = familyAt(slot);
        if (f == null || !f.knows(set)) {
            return REFUSED;
        }
        if (f.holds(set)) {
            return THERE;
        }
        made.become(f);
        made.put(set);
        return comesInto(slot, made);
    }

    public int without(int slot, int set, int what) {
        Family f = familyAt(slot);
        if (f == null || !f.knows(set) || !isLookable(what)) {
            return REFUSED;
        }
        if (!f.holds(set)) {
            return UNFIT;
        }
        spare.become(f);
        spare.remove(set);
        return measure(spare, what);
    }

    public int cuts(int slot, int set) {
        Family f = familyAt(slot);
        if (f == null || !f.knows(set)) {
            return REFUSED;
        }
        if (!f.holds(set)) {
            return UNFIT;
        }
        made.become(f);
        made.remove(set);
        return comesInto(slot, made);
    }

    public int drops(int slot) {
        if (!isSlot(slot)) {
            return REFUSED;
        }
        if (familyAt(slot) == null) {
            return 0;
        }
        made.clear(0);
        comesInto(slot, made);
        return 1;
    }

    public int undo() {
        if (history.size == 0) {
            return NONE;
        }
        int slot = history.latestSlot();
        if (isSlot(slot)) {
            history.restore(slots[slot]);
        }
        return history.size;
    }

    public int tell(int slot) {
        Family f = familyAt(slot);
        if (f == null) {
            return REFUSED;
        }
        out.write(f);
        return out.length;
    }

    public int octet(int i) {
        return out.byteAt(i);
    }

    public int common(int slot, int set, int k) {
        Family f = familyAt(slot);
        if (f == null || !f.knows(set) || k < 0 || k > f.points) {
            return REFUSED;
        }
        int number = 0;
        for (int s = 0; s < f.span(); s++) {
            if (f.holds(s) && Integer.bitCount(s & set) == k) {
                number++;
            }
        }
        return number;
    }

    public int lacks(int slot, int k) {
        Family f = familyAt(slot);
        if (f == null || k < 0) {
            return REFUSED;
        }
        made.fill(f.points);
        made.lose(f);
        return made.pick(k);
    }

    public int moved(int slot) {
        Family f = familyAt(slot);
        if (f == null) {
            return REFUSED;
        }
        return changingShifts(f);
    }

    public int together(int slot, int p, int q, int what) {
        Family f = familyAt(slot);
        if (f == null || !f.knowsPoint(p) || !f.knowsPoint(q) || what < 0 || what > 1) {
            return REFUSED;
        }
        made.become(f);
        made.keepWith(p);
        made.keepWith(q);
        int both = made.size();
        return what == 0 ? both : f.degreeOf(p) + f.degreeOf(q) - 2 * both;
    }

    public int half(int slot) {
        Family f = familyAt(slot);
        if (f == null) {
            return REFUSED;
        }
        int bits = 0;
        for (int p = 0; p < f.points; p++) {
            if (2 * f.degreeOf(p) >= f.size()) {
                bits |= 1 << p;
            }
        }
        return bits;
    }

    public int next(int slot, int set) {
        Family f = familyAt(slot);
        if (f == null || !f.knows(set)) {
            return REFUSED;
        }
        return Numbers.nextOfLevel(set, Integer.bitCount(set), f.points);
    }

    public int apart(int slot, int k) {
        Family f = familyAt(slot);
        if (f == null || k < NONE) {
            return REFUSED;
        }
        return findApart(f, k);
    }

    public int covers(int slot, int k) {
        Family f = familyAt(slot);
        if (f == null || k < NONE) {
            return REFUSED;
        }
        made.becomeAnswers(f);
        return k == NONE ? made.size() : made.pick(k);
    }

    public int height(int slot, int set) {
        Family f = familyAt(slot);
        if (f == null || !f.knows(set)) {
            return REFUSED;
        }
        return f.holds(set) ? chainUpTo(f, set) : UNFIT;
    }

    public int trace(int slot, int set, int to) {
        Family f = familyAt(slot);
        if (f == null || !f.knows(set) || !isSlot(to)) {
            return REFUSED;
        }
        made.become(f);
        made.cutTo(set);
        return comesInto(to, made);
    }

    public int joint(int slot, int other, int what, int to) {
        Family f = familyAt(slot);
        Family g = familyAt(other);
        if (f == null || g == null || what < 0 || what > 3 || !isSlot(to)) {
            return REFUSED;
        }
        if (f.points != g.points) {
            return UNFIT;
        }
        made.become(f);
        switch (what) {
            case 0:
                made.join(g);
                break;
            case 1:
                made.keep(g);
                break;
            case 2:
                made.lose(g);
                break;
            default:
                joinsAcross(f, g);
                break;
        }
        return comesInto(to, made);
    }

    public int rank(int set) {
        if (set < 0 || set >= SETS) {
            return REFUSED;
        }
        int ahead = 0;
        for (int s = 0; s < set; s++) {
            if (Integer.bitCount(s) == Integer.bitCount(set)) {
                ahead++;
            }
        }
        return ahead;
    }

    public int ranked(int k, int i) {
        if (k < 0 || k > MOST_POINTS || i < 0) {
            return REFUSED;
        }
        int seen = 0;
        for (int s = 0; s < SETS; s++) {
            if (Integer.bitCount(s) == k) {
                if (seen == i) {
                    return s;
                }
                seen++;
            }
        }
        return NONE;
    }

    // What calls may name.

    private static boolean isSlot(int slot) {
        return slot >= 0 && slot < SLOTS;
    }

    private static boolean isPointCount(int n) {
        return n >= 1 && n <= MOST_POINTS;
    }

    private static boolean isLookable(int what) {
        return what >= 0 && what <= 6;
    }

    private static boolean isTries(int tries) {
        return tries >= 1 && tries <= MOST_TRIES;
    }

    private static boolean isSearch(int what, int tries) {
        return what >= 0 && what <= 3 && isTries(tries);
    }

    private static boolean isRowSize(int m, int k) {
        return m >= 0 && m <= MOST_ROW && k >= 1 && k <= MOST_POINTS;
    }

    private static boolean isShift(Family f, int i, int j) {
        return f.knowsPoint(i) && f.knowsPoint(j) && i < j;
    }

    /** The family of a slot, or null: no such slot, or nothing in it. */
    private Family familyAt(int slot) {
        if (!isSlot(slot)) {
            return null;
        }
        Family f = slots[slot];
        return f.isThere() ? f : null;
    }

    private int usedSlots() {
        int bits = 0;
        for (int slot = 0; slot < SLOTS; slot++) {
            if (slots[slot].isThere()) {
                bits |= 1 << slot;
            }
        }
        return bits;
    }

    /** Puts a family into a slot; it is an act only if the slot becomes otherwise. */
    private int comesInto(int slot, Family newer) {
        Family f = slots[slot];
        if (!f.isSameAs(newer)) {
            history.remember(slot, f);
            f.become(newer);
        }
        return newer.size();
    }

    private int measure(Family f, int what) {
        switch (what) {
            case 0:
                return f.points;
            case 1:
                return f.size();
            case 2:
                return f.leastLevel();
            case 3:
                return f.greatestLevel();
            case 4:
                return f.pointsOfSome();
            case 5:
                return f.pointsOfAll();
            default:
                return findApart(f, NONE);
        }
    }

    private boolean isSuch(Family f, int what) {
        switch (what) {
            case 0:
                made.become(f);
                return allAnswer(made, f);
            case 1:
                return f.leastLevel() == f.greatestLevel();
            case 2:
                return makesItself(f, 2);
            case 3:
                return makesItself(f, 3);
            case 4:
                return isChain(f);
            case 5:
                return makesItself(f, 7);
            case 6:
                return f.pointsOfAll() != 0;
            case 7:
                return changingShifts(f) == 0;
            case 8:
                collectMeets(f);
                return allAnswer(made, f);
            case 9:
                return makesItself(f, 5);
            default:
                return makesItself(f, 6);
        }
    }

    /** Whether what makes() makes of a family is the family itself. */
    private boolean makesItself(Family f, int what) {
        make(f, what);
        return made.isSameAs(f);
    }

    /** Whether all sets of some family meet all of f; the first one is used up. */
    private boolean allAnswer(Family some, Family f) {
        spare.becomeAnswers(f);
        some.lose(spare);
        return some.isEmpty();
    }

    /** What any two sets of f (they may be one) have in common comes into made. */
    private void collectMeets(Family f) {
        made.clear(f.points);
        for (int s = 0; s < f.span(); s++) {
            if (f.holds(s)) {
                spare.become(f);
                spare.cutTo(s);
                made.join(spare);
            }
        }
    }

    private boolean isChain(Family f) {
        for (int s = 0; s < f.span(); s++) {
            if (f.holds(s)) {
                made.becomeComparable(f, s, spare);
                if (!made.isSameAs(f)) {
                    return false;
                }
            }
        }
        return true;
    }

    private static int pointsAhead(Family f, int p) {
        int ahead = 0;
        for (int q = 0; q < f.points; q++) {
            int difference = f.degreeOf(q) - f.degreeOf(p);
            if (difference > 0 || (difference == 0 && q < p)) {
                ahead++;
            }
        }
        return ahead;
    }

    /** What is made of f, numbered as for makes(), comes into made. */
    private void make(Family f, int what) {
        made.become(f);
        switch (what) {
            case 0:
                made.becomeShadow(f);
                break;
            case 1:
                made.becomeShade(f);
                break;
            case 2:
                made.closeDown();
                break;
            case 3:
                made.closeUp();
                break;
            case 4:
                made.turnOver();
                break;
            case 5:
                made.closeByMeets(f, spare);
                break;
            case 6:
                made.closeByJoins(f, spare);
                break;
            case 7:
                made.becomeLowest(f);
                break;
            case 8:
                made.becomeHighest(f);
                break;
            default:
                // Whatever has a set within it that meets all does so too: one point less is enough to ask.
                spare.becomeAnswers(f);
                made.becomeLowest(spare);
                break;
        }
    }

    /** How many sets a shift would change; what they would become is left in made. */
    private int newcomers(Family f, int i, int j) {
        made.becomeReplaced(f, j, i);
        made.lose(f);
        return made.size();
    }

    private int move(Family f, int i, int j) {
        int changed = newcomers(f, i, j);
        spare.becomeReplaced(made, i, j);
        f.lose(spare);
        f.join(made);
        return changed;
    }

    private int changingShifts(Family f) {
        int changing = 0;
        for (int i = 0; i < f.points; i++) {
            for (int j = i + 1; j < f.points; j++) {
                if (newcomers(f, i, j) > 0) {
                    changing++;
                }
            }
        }
        return changing;
    }

    private int settle(Family f) {
        int changes = 0;
        // Each change makes some set a lesser number, which can't go on for so many turns.
        for (int turn = 0; turn < SETS * SETS; turn++) {
            int before = changes;
            for (int i = 0; i < f.points; i++) {
                for (int j = i + 1; j < f.points; j++) {
                    if (move(f, i, j) > 0) {
                        changes++;
                    }
                }
            }
            if (changes == before) {
                break;
            }
        }
        return changes;
    }

    /** The fewest steps from a set of f to another, each to a set apart from it. */
    private int walk(Family f, int from, int to) {
        made.clear(f.points);
        made.put(from);
        third.become(f);
        for (int steps = 0; steps < SETS; steps++) {
            if (made.holds(to)) {
                return steps;
            }
            third.lose(made);
            // A set is apart from one of them just if that one is within its contrary.
            made.closeUp();
            made.turnOver();
            made.keep(third);
            if (made.isEmpty()) {
                return NONE;
            }
        }
        return NONE;
    }

    /** How many sets of f are arcs of the round that is laid in places. */
    private int arcsOf(Family f) {
        int n = f.points;
        int number = (f.holds(0) ? 1 : 0) + (f.holds(f.span() - 1) ? 1 : 0);
        for (int start = 0; start < n; start++) {
            int arc = 0;
            for (int length = 1; length < n; length++) {
                arc |= 1 << places[(start + length - 1) % n];
                if (f.holds(arc)) {
                    number++;
                }
            }
        }
        return number;
    }

    private boolean isShattered(Family f, int set) {
        made.become(f);
        made.cutTo(set);
        return made.size() == 1 << Integer.bitCount(set);
    }

    private int findFlower(Family f, int k) {
        int seen = 0;
        for (int a = 0; a < f.span(); a++) {
            if (!f.holds(a)) {
                continue;
            }
            for (int b = a + 1; b < f.span(); b++) {
                if (!f.holds(b)) {
                    continue;
                }
                made.become(f);
                made.keepSharing(a | b, a & b);
                made.keepBehind(b);
                int thirds = made.size();
                if (k != NONE && k - seen < thirds) {
                    return 1000000 * a + 1000 * b + made.pick(k - seen);
                }
                seen += thirds;
            }
        }
        return k == NONE ? seen : NONE;
    }

    private int findApart(Family f, int k) {
        int seen = 0;
        for (int a = 0; a < f.span(); a++) {
            if (!f.holds(a)) {
                continue;
            }
            made.become(f);
            made.keepSharing(a, 0);
            made.keepBehind(a);
            int others = made.size();
            if (k != NONE && k - seen < others) {
                return 1000 * a + made.pick(k - seen);
            }
            seen += others;
        }
        return k == NONE ? seen : NONE;
    }

    private int twosApartAcross(Family f, Family g) {
        int number = 0;
        for (int s = 0; s < f.span(); s++) {
            if (f.holds(s)) {
                made.become(g);
                made.keepSharing(s, 0);
                number += made.size();
            }
        }
        return number;
    }

    /** How many ways of naming the points of f make it g; both have as many points. */
    private int namings(Family f, Family g) {
        made.become(f);
        int ways = made.isSameAs(g) ? 1 : 0;
        for (int p = 0; p < MOST_POINTS; p++) {
            places[p] = 0;
        }
        // Heap's way through all orders: each comes of the one ahead by exchanging two points.
        int p = 1;
        for (int turn = 0; turn < 20000 && p < f.points; turn++) {
            if (places[p] < p) {
                made.exchange(p % 2 == 0 ? 0 : places[p], p, spare, third);
                ways += made.isSameAs(g) ? 1 : 0;
                places[p]++;
                p = 1;
            } else {
                places[p] = 0;
                p++;
            }
        }
        return ways;
    }

    /** The longest chain of f up to a set of it: how often the lowest sets can be taken off till it is one. */
    private int chainUpTo(Family f, int set) {
        spare.become(f);
        for (int height = 1; height <= MOST_POINTS + 1; height++) {
            made.becomeLowest(spare);
            if (made.holds(set)) {
                return height;
            }
            spare.lose(made);
        }
        return NONE;
    }

    /** What a set of f and one of g have together comes into made. */
    private void joinsAcross(Family f, Family g) {
        made.clear(f.points);
        for (int s = 0; s < g.span(); s++) {
            if (g.holds(s)) {
                spare.become(f);
                spare.widenBy(s);
                made.join(spare);
            }
        }
    }

    /**
     * Sets of 0 to 7 points, one bit for each of the 128 sets there can be: low has sets 0 to 63, high
     * those from 64 on, which are just those with point 6. No points: nothing is there.
     */
    private static final class Family {
        private static final int TOP = 6;
        private static final long[] LOW_WITH = {
            0xAAAAAAAAAAAAAAAAL, 0xCCCCCCCCCCCCCCCCL, 0xF0F0F0F0F0F0F0F0L, 0xFF00FF00FF00FF00L,
            0xFFFF0000FFFF0000L, 0xFFFFFFFF00000000L, 0L};
        private static final long[] HIGH_WITH = {
            0xAAAAAAAAAAAAAAAAL, 0xCCCCCCCCCCCCCCCCL, 0xF0F0F0F0F0F0F0F0L, 0xFF00FF00FF00FF00L,
            0xFFFF0000FFFF0000L, 0xFFFFFFFF00000000L, -1L};

        int points;
        long low;
        long high;

        boolean isThere() {
            return points > 0;
        }

        boolean isEmpty() {
            return (low | high) == 0;
        }

        boolean isSameAs(Family other) {
            return points == other.points && low == other.low && high == other.high;
        }

        boolean knows(int set) {
            return set >= 0 && set < span();
        }

        boolean knowsPoint(int p) {
            return p >= 0 && p < points;
        }

        boolean holds(int set) {
            long half = set < 64 ? low : high;
            return (half >>> (set & 63) & 1) == 1;
        }

        /** How many sets of its points there are. */
        int span() {
            return 1 << points;
        }

        int size() {
            return Long.bitCount(low) + Long.bitCount(high);
        }

        int sizeOfLevel(int level) {
            int number = 0;
            for (int s = 0; s < span(); s++) {
                if (Integer.bitCount(s) == level && holds(s)) {
                    number++;
                }
            }
            return number;
        }

        int degreeOf(int p) {
            return Long.bitCount(low & LOW_WITH[p]) + Long.bitCount(high & HIGH_WITH[p]);
        }

        /** The k-th set (from 0) by numbers, or NONE. */
        int pick(int k) {
            int seen = 0;
            for (int s = 0; s < span(); s++) {
                if (holds(s)) {
                    if (seen == k) {
                        return s;
                    }
                    seen++;
                }
            }
            return NONE;
        }

        int leastLevel() {
            for (int level = 0; level <= points; level++) {
                if (firstOfLevel(level) != NONE) {
                    return level;
                }
            }
            return NONE;
        }

        int greatestLevel() {
            for (int level = points; level >= 0; level--) {
                if (firstOfLevel(level) != NONE) {
                    return level;
                }
            }
            return NONE;
        }

        /** The set of a level that is least by numbers, or NONE. */
        int firstOfLevel(int level) {
            for (int s = 0; s < span(); s++) {
                if (Integer.bitCount(s) == level && holds(s)) {
                    return s;
                }
            }
            return NONE;
        }

        int pointsOfSome() {
            int bits = 0;
            for (int p = 0; p < points; p++) {
                if (degreeOf(p) > 0) {
                    bits |= 1 << p;
                }
            }
            return bits;
        }

        int pointsOfAll() {
            int bits = 0;
            for (int p = 0; p < points; p++) {
                if (degreeOf(p) == size()) {
                    bits |= 1 << p;
                }
            }
            return bits;
        }

        void become(Family other) {
            points = other.points;
            low = other.low;
            high = other.high;
        }

        /** No sets of n points. */
        void clear(int n) {
            points = n;
            low = 0;
            high = 0;
        }

        /** All sets of n points. */
        void fill(int n) {
            points = n;
            low = n < TOP ? (1L << (1 << n)) - 1 : -1L;
            high = n > TOP ? -1L : 0;
        }

        void put(int set) {
            if (set >= 0 && set < 64) {
                low |= 1L << set;
            } else if (set >= 64 && set < SETS) {
                high |= 1L << (set - 64);
            }
        }

        void remove(int set) {
            if (set >= 0 && set < 64) {
                low &= ~(1L << set);
            } else if (set >= 64 && set < SETS) {
                high &= ~(1L << (set - 64));
            }
        }

        void join(Family other) {
            low |= other.low;
            high |= other.high;
        }

        void keep(Family other) {
            low &= other.low;
            high &= other.high;
        }

        void lose(Family other) {
            low &= ~other.low;
            high &= ~other.high;
        }

        /** Keeps the sets that have just those points of a set that are told. */
        void keepSharing(int set, int shared) {
            for (int p = 0; p <= TOP; p++) {
                if ((set >> p & 1) == 0) {
                    continue;
                }
                if ((shared >> p & 1) == 1) {
                    keepWith(p);
                } else {
                    keepLacking(p);
                }
            }
        }

        void keepWith(int p) {
            low &= LOW_WITH[p];
            high &= HIGH_WITH[p];
        }

        void keepLacking(int p) {
            low &= ~LOW_WITH[p];
            high &= ~HIGH_WITH[p];
        }

        /** Keeps the sets with greater numbers. */
        void keepBehind(int set) {
            if (set < 63) {
                low &= -1L << (set + 1);
                return;
            }
            low = 0;
            if (set > 63) {
                high = set < 127 ? high & -1L << (set - 63) : 0;
            }
        }

        /** Sets of a family that have p come, without it. */
        void joinLink(Family from, int p) {
            if (p == TOP) {
                low |= from.high;
                return;
            }
            low |= (from.low & LOW_WITH[p]) >>> (1 << p);
            high |= (from.high & HIGH_WITH[p]) >>> (1 << p);
        }

        /** Sets of a family that lack p come, with it. */
        void joinRaised(Family from, int p) {
            if (p == TOP) {
                high |= from.low;
                return;
            }
            low |= (from.low & ~LOW_WITH[p]) << (1 << p);
            high |= (from.high & ~HIGH_WITH[p]) << (1 << p);
        }

        void becomeShadow(Family from) {
            clear(from.points);
            for (int p = 0; p < points; p++) {
                joinLink(from, p);
            }
        }

        void becomeShade(Family from) {
            clear(from.points);
            for (int p = 0; p < points; p++) {
                joinRaised(from, p);
            }
        }

        void closeDown() {
            for (int p = 0; p < points; p++) {
                joinLink(this, p);
            }
        }

        void closeUp() {
            for (int p = 0; p < points; p++) {
                joinRaised(this, p);
            }
        }

        /** Each set becomes what is not in it. */
        void turnOver() {
            for (int p = 0; p < points; p++) {
                long oldLow = low;
                long oldHigh = high;
                if (p == TOP) {
                    low = oldHigh;
                    high = oldLow;
                } else {
                    int by = 1 << p;
                    low = (oldLow & LOW_WITH[p]) >>> by | (oldLow & ~LOW_WITH[p]) << by;
                    high = (oldHigh & HIGH_WITH[p]) >>> by | (oldHigh & ~HIGH_WITH[p]) << by;
                }
            }
        }

        /** Each set becomes what it has in common with one. */
        void cutTo(int set) {
            for (int p = 0; p < points; p++) {
                if ((set >> p & 1) == 0) {
                    joinLink(this, p);
                    keepLacking(p);
                }
            }
        }

        /** Each set becomes what it has together with one. */
        void widenBy(int set) {
            for (int p = 0; p < points; p++) {
                if ((set >> p & 1) == 1) {
                    joinRaised(this, p);
                    keepWith(p);
                }
            }
        }

        /** One pass over the first sets is enough: each joins its meets with all that came ahead of it. */
        void closeByMeets(Family first, Family work) {
            for (int s = 0; s < first.span(); s++) {
                if (first.holds(s)) {
                    work.become(this);
                    work.cutTo(s);
                    join(work);
                }
            }
        }

        void closeByJoins(Family first, Family work) {
            for (int s = 0; s < first.span(); s++) {
                if (first.holds(s)) {
                    work.become(this);
                    work.widenBy(s);
                    join(work);
                }
            }
        }

        /** Those of a family that have no other one of it within them. */
        void becomeLowest(Family from) {
            becomeShade(from);
            closeUp();
            becomeRestOf(from);
        }

        /** Those of a family that are within no other one of it. */
        void becomeHighest(Family from) {
            becomeShadow(from);
            closeDown();
            becomeRestOf(from);
        }

        /** All sets that meet all of a family: not those whose contrary has one of it within it. */
        void becomeAnswers(Family from) {
            become(from);
            closeUp();
            turnOver();
            long notLow = ~low;
            long notHigh = ~high;
            fill(from.points);
            low &= notLow;
            high &= notHigh;
        }

        void becomeRestOf(Family whole) {
            low = whole.low & ~low;
            high = whole.high & ~high;
        }

        /** Those of a family that are within a set or have it within them. */
        void becomeComparable(Family from, int set, Family work) {
            work.become(from);
            work.keepSharing(SETS - 1 & ~set, 0);
            become(from);
            keepSharing(set, set);
            join(work);
        }

        /** Those of a family that have one point and not another come, with the other in its place. */
        void becomeReplaced(Family from, int away, int instead) {
            clear(from.points);
            joinLink(from, away);
            keepLacking(instead);
            joinRaised(this, instead);
            keepWith(instead);
        }

        /** Two points get each other's names. */
        void exchange(int p, int q, Family work, Family more) {
            work.becomeReplaced(this, p, q);
            more.becomeReplaced(this, q, p);
            work.join(more);
            more.become(this);
            more.keepLacking(p);
            more.keepLacking(q);
            keepWith(p);
            keepWith(q);
            join(more);
            join(work);
        }
    }

    /** Counting of sets of one level, and fractions. */
    private static final class Numbers {
        /** C(n, k), 0 for k beyond. */
        static long binomial(int n, int k) {
            if (k < 0 || k > n) {
                return 0;
            }
            long ways = 1;
            for (int i = 1; i <= k; i++) {
                ways = ways * (n - k + i) / i;
            }
            return ways;
        }

        /** The greatest a with C(a, k) not above m (1 or more). */
        static int top(int m, int k) {
            if (k <= 1) {
                return m;
            }
            int a = k;
            while (a < 1000 && binomial(a + 1, k) <= m) {
                a++;
            }
            return a;
        }

        /** Writes a, b .. for m sets of level k: how many. */
        static int tops(int m, int k, int[] into) {
            int left = m;
            int written = 0;
            for (int i = 0; i < k && left > 0 && i < into.length; i++) {
                into[i] = top(left, k - i);
                left -= (int) binomial(into[i], k - i);
                written++;
            }
            return written;
        }

        /** The next set behind one (NONE: the first) of a level, of n points, or NONE. */
        static int nextOfLevel(int set, int level, int n) {
            for (int s = set + 1; s < 1 << n; s++) {
                if (Integer.bitCount(s) == level) {
                    return s;
                }
            }
            return NONE;
        }

        static long commonDivisor(long a, long b) {
            long x = a;
            long y = b;
            for (int turn = 0; turn < 1000 && y != 0; turn++) {
                long rest = x % y;
                x = y;
                y = rest;
            }
            return x;
        }

        static long quotient(long a, long divisor) {
            return divisor == 0 ? a : a / divisor;
        }
    }

    /** The last point, then an order of the others, round. */
    private static final class Rounds {
        private static final int[] FACTORIALS = {1, 1, 2, 6, 24, 120, 720, 5040};

        static boolean isRound(int n, int round) {
            return n >= 1 && n < FACTORIALS.length && round >= 0 && round < FACTORIALS[n - 1];
        }

        /** Lays a round of n points out in places. */
        static void lay(int n, int round, int[] into) {
            into[0] = n - 1;
            int unused = (1 << (n - 1)) - 1;
            int left = round;
            for (int i = 1; i < n; i++) {
                int block = FACTORIALS[n - 1 - i];
                into[i] = point(unused, left / block);
                unused &= ~(1 << into[i]);
                left %= block;
            }
        }

        /** The i-th point (from 0) of a set. */
        private static int point(int set, int i) {
            int seen = 0;
            for (int p = 0; p < MOST_POINTS; p++) {
                if ((set >> p & 1) == 1) {
                    if (seen == i) {
                        return p;
                    }
                    seen++;
                }
            }
            return 0;
        }

        /** The points of an arc stand in any order, and the others behind them in any order. */
        static int roundsWithArc(int n, int level) {
            if (level == 0 || level == n) {
                return FACTORIALS[n - 1];
            }
            return FACTORIALS[level] * FACTORIALS[n - level];
        }
    }

    /** The bytes that are fed, and the reading of a text of them. */
    private static final class Tape {
        private static final int MOST_BYTES = 800;
        private static final int END = 0;
        private static final int WORD = 1;
        private static final int DIGITS = 2;
        private static final int SIGN = 3;

        final byte[] bytes = new byte[MOST_BYTES];
        int length;
        int fault;
        int place = NONE;
        // The token that is looked at.
        private int kind;
        private int start;
        private int behind;

        boolean hasRoom(int more) {
            return length + more <= MOST_BYTES;
        }

        void append(int four) {
            for (int by = 24; by >= 0 && length < MOST_BYTES; by -= 8) {
                bytes[length] = (byte) (four >> by);
                length++;
            }
        }

        /** Reads the whole tape as a family; else the fault and its place are kept. */
        boolean read(Family into) {
            fault = 0;
            place = NONE;
            behind = 0;
            advance();
            if (!isWord("family")) {
                return fails(1, start);
            }
            advance();
            if (kind != DIGITS) {
                return fails(1, start);
            }
            int n = number();
            if (!isPointCount(n)) {
                return fails(2, start);
            }
            into.clear(n);
            advance();
            if (isSign(':') && !readSets(into)) {
                return false;
            }
            if (!isSign(';')) {
                return fails(1, start);
            }
            advance();
            return kind == END || fails(1, start);
        }

        /** Reads the sets, from the sign ahead of the first one to the token behind the last one. */
        private boolean readSets(Family into) {
            for (int i = 0; i < MOST_BYTES; i++) {
                advance();
                if (!readSet(into)) {
                    return false;
                }
                advance();
                if (!isSign(',')) {
                    break;
                }
            }
            return true;
        }

        private boolean readSet(Family into) {
            int set = 0;
            if (kind == DIGITS) {
                for (int i = start; i < behind; i++) {
                    int p = bytes[i] - '0';
                    if (p >= into.points || (set >> p & 1) == 1) {
                        return fails(3, i);
                    }
                    set |= 1 << p;
                }
            } else if (!isWord("none")) {
                return fails(1, start);
            }
            if (into.holds(set)) {
                return fails(4, start);
            }
            into.put(set);
            return true;
        }

        private boolean fails(int number, int where) {
            fault = number;
            place = where;
            return false;
        }

        /** Goes on to the next token; the end stands behind the last byte. */
        private void advance() {
            start = behind;
            while (start < length && isBlank(bytes[start])) {
                start++;
            }
            behind = start;
            kind = kindAt(start);
            if (kind == SIGN) {
                behind++;
            } else if (kind != END) {
                while (behind < length && kindAt(behind) == kind) {
                    behind++;
                }
            }
        }

        private int kindAt(int i) {
            if (i >= length) {
                return END;
            }
            if (bytes[i] >= 'a' && bytes[i] <= 'z') {
                return WORD;
            }
            return bytes[i] >= '0' && bytes[i] <= '9' ? DIGITS : SIGN;
        }

        private static boolean isBlank(byte b) {
            return b == 32 || b == 10;
        }

        private boolean isSign(char sign) {
            return kind == SIGN && bytes[start] == sign;
        }

        private boolean isWord(String word) {
            if (kind != WORD || behind - start != word.length()) {
                return false;
            }
            for (int i = 0; i < word.length(); i++) {
                if (bytes[start + i] != word.charAt(i)) {
                    return false;
                }
            }
            return true;
        }

        /** What the digits say, held at 1000: hundreds of them would run over. */
        private int number() {
            int value = 0;
            for (int i = start; i < behind; i++) {
                value = Math.min(1000, value * 10 + bytes[i] - '0');
            }
            return value;
        }
    }

    /** What was told last. */
    private static final class Teller {
        // All 128 sets of seven points need 589.
        private static final int ROOM = 640;

        private final byte[] bytes = new byte[ROOM];
        int length;

        int byteAt(int i) {
            return i >= 0 && i < length ? bytes[i] : NONE;
        }

        void write(Family f) {
            length = 0;
            word("family ");
            sign((char) ('0' + f.points));
            boolean first = true;
            for (int s = 0; s < f.span(); s++) {
                if (f.holds(s)) {
                    sign(first ? ':' : ',');
                    points(s);
                    first = false;
                }
            }
            sign(';');
        }

        private void points(int set) {
            if (set == 0) {
                word("none");
            }
            for (int p = 0; p < MOST_POINTS; p++) {
                if ((set >> p & 1) == 1) {
                    sign((char) ('0' + p));
                }
            }
        }

        private void word(String word) {
            for (int i = 0; i < word.length(); i++) {
                sign(word.charAt(i));
            }
        }

        private void sign(char sign) {
            if (length < ROOM) {
                bytes[length] = (byte) sign;
                length++;
            }
        }
    }

    /** Slots as they were ahead of the latest acts, in a round. */
    private static final class History {
        private static final int ROOM = 10;

        private final int[] slotOf = new int[ROOM];
        private final Family[] was = new Family[ROOM];
        // Where the next act is kept.
        private int at;
        int size;

        History() {
            for (int i = 0; i < ROOM; i++) {
                was[i] = new Family();
            }
        }

        void remember(int slot, Family before) {
            slotOf[at] = slot;
            was[at].become(before);
            at = (at + 1) % ROOM;
            size = Math.min(ROOM, size + 1);
        }

        int latestSlot() {
            return slotOf[latest()];
        }

        void restore(Family into) {
            at = latest();
            into.become(was[at]);
            size = Math.max(0, size - 1);
        }

        private int latest() {
            return (at + ROOM - 1) % ROOM;
        }
    }

    /** The most sets of a family any two of which go with one another. */
    private static final class Search {
        private static final int DEEPEST = SETS + 1;

        final Family found = new Family();
        int best;
        int tries;

        // Which sets go with a set.
        private final long[] goLow = new long[SETS];
        private final long[] goHigh = new long[SETS];
        // At each depth, so many sets being taken: those left, and the one taken last.
        private final long[] leftLow = new long[DEEPEST];
        private final long[] leftHigh = new long[DEEPEST];
        private final int[] taken = new int[DEEPEST];
        private final Family among = new Family();
        private final Family fit = new Family();
        private final Family work = new Family();

        /** Whether the search comes to its end within so many tries. */
        boolean run(Family f, int what, int limit) {
            among.become(f);
            if (what == 0) {
                among.remove(0);
            }
            found.clear(f.points);
            best = 0;
            tries = 0;
            pairUp(what);
            leftLow[0] = among.low;
            leftHigh[0] = among.high;
            int depth = 0;
            // Each turn takes a set or goes back from one.
            for (int turn = 0; turn <= 2 * limit + 2 && depth >= 0; turn++) {
                int left = leftAt(depth);
                if (depth + left <= best) {
                    depth--;
                } else if (left == 0) {
                    keepBest(depth);
                    depth--;
                } else {
                    tries++;
                    if (tries > limit) {
                        return false;
                    }
                    takeFirst(depth);
                    depth++;
                }
            }
            return true;
        }

        private int leftAt(int depth) {
            return Long.bitCount(leftLow[depth]) + Long.bitCount(leftHigh[depth]);
        }

        private void takeFirst(int depth) {
            long bits = leftLow[depth];
            int set;
            if (bits != 0) {
                set = Long.bitCount((bits & -bits) - 1);
                leftLow[depth] = bits & bits - 1;
            } else {
                bits = leftHigh[depth];
                set = 64 + Long.bitCount((bits & -bits) - 1);
                leftHigh[depth] = bits & bits - 1;
            }
            if (set >= SETS || depth + 1 >= DEEPEST) {
                return;
            }
            taken[depth + 1] = set;
            leftLow[depth + 1] = leftLow[depth] & goLow[set];
            leftHigh[depth + 1] = leftHigh[depth] & goHigh[set];
        }

        private void keepBest(int depth) {
            best = depth;
            found.clear(among.points);
            for (int i = 1; i <= depth; i++) {
                found.put(taken[i]);
            }
        }

        private void pairUp(int what) {
            for (int s = 0; s < among.span(); s++) {
                if (among.holds(s)) {
                    fitting(s, what);
                    goLow[s] = fit.low;
                    goHigh[s] = fit.high;
                }
            }
        }

        /** Those that go with a set: that meet it, are apart from it, free of it, in a chain with it. */
        private void fitting(int s, int what) {
            fit.become(among);
            if (what <= 1) {
                fit.keepSharing(s, 0);
            } else {
                fit.becomeComparable(among, s, work);
            }
            if (what == 0 || what == 2) {
                fit.becomeRestOf(among);
            }
        }
    }

    /** The sets of a family put into parts in which any two meet. */
    private static final class Parts {
        static final int FOUND = 0;
        static final int NO_WAY = 1;
        static final int TOO_LONG_SO_FAR = 2;

        private final int[] members = new int[SETS];
        private int size;
        // In which part each is, or was last.
        private final int[] where = new int[SETS];
        private final long[] apartLow = new long[SETS];
        private final long[] apartHigh = new long[SETS];
        private final Family[] part = new Family[MOST_POINTS];
        private final Family work = new Family();

        Parts() {
            for (int i = 0; i < MOST_POINTS; i++) {
                part[i] = new Family();
            }
        }

        int partOf(int k) {
            return k >= 0 && k < size ? where[k] : NONE;
        }

        /** Looks for a way to put the sets of f into c parts; FOUND, NO_WAY or TOO_LONG_SO_FAR. */
        int run(Family f, int c, int limit) {
            gather(f);
            int tries = 0;
            int at = 0;
            // Each turn puts a set into a part or goes back to the one ahead.
            for (int turn = 0; turn <= 2 * limit + 2 && at < size; turn++) {
                int next = nextPart(at, c);
                if (next == NONE) {
                    where[at] = NONE;
                    at--;
                    if (at < 0) {
                        return NO_WAY;
                    }
                    takeOut(at);
                } else {
                    tries++;
                    if (tries > limit) {
                        return TOO_LONG_SO_FAR;
                    }
                    where[at] = next;
                    part[next].put(members[at]);
                    at++;
                }
            }
            return FOUND;
        }

        private void takeOut(int at) {
            int last = where[at];
            if (last >= 0 && last < MOST_POINTS) {
                part[last].remove(members[at]);
            }
        }

        /** The least part behind the one it was in last in which a set can be, or NONE. */
        private int nextPart(int at, int c) {
            int set = members[at];
            for (int i = where[at] + 1; i < c; i++) {
                if (i > 0 && part[i - 1].isEmpty()) {
                    return NONE;
                }
                if ((part[i].low & apartLow[set] | part[i].high & apartHigh[set]) == 0) {
                    return i;
                }
            }
            return NONE;
        }

        private void gather(Family f) {
            size = 0;
            for (int s = 0; s < f.span(); s++) {
                if (f.holds(s)) {
                    work.become(f);
                    work.keepSharing(s, 0);
                    apartLow[s] = work.low;
                    apartHigh[s] = work.high;
                    members[size] = s;
                    where[size] = NONE;
                    size++;
                }
            }
            for (int i = 0; i < MOST_POINTS; i++) {
                part[i].clear(f.points);
            }
        }
    }
}

import java.util.NoSuchElementException;

/**
 * A house that asks which thefts of a land were done by the same hand, by how they were done.
 * What each call promises stands in ../shared/DOC.md; words in capitals here are words of that page.
 */
public final class OneHand {
    /** There is none. */
    public static final int NONE = -1;

    private static final int LAST_HOUR = 99999;
    private static final int MOST_HOURS_AT_ONCE = 10000;
    private static final int MOST_ACROSS = 99;
    private static final int LAST_LAND = 5;
    private static final int LAST_RANK = 9;
    private static final int MOST_APART = 198;
    private static final int MOST_PLACES = 30;
    private static final int MOST_MARKS = 16;
    private static final int MOST_HANDS = 20;
    private static final int MOST_OFFICERS = 10;
    private static final int MOST_DEEDS = 60;
    private static final int MOST_LINKS = 40;
    private static final int MOST_MAPS = 20;
    private static final int MOST_STEPS = 120;
    private static final int MOST_PARTED = 9;
    private static final int MOST_LOOKED_AT = 5;
    private static final int MOST_NEAR = 20000;
    private static final int MOST_BELOW_BEST = 1000000;
    private static final int WHOLE = 10000;
    private static final int MOST_TIMES = 20;
    private static final int TAPE = 300;
    private static final int MOST_LINES = 12;
    private static final int MOST_AROUND = 5;
    private static final int TRAYS = 4;
    private static final int LAST_SORT = 3;
    private static final int MOST_ON_TRAY = 40;

    private static final int NOT_LOOKED_FOR = 0;
    private static final int NOT_THERE = 1;
    private static final int THERE = 2;
    private static final int NOT_SEEN = 3;
    private static final int UNKNOWN = 3;
    private static final int TOGETHER = 3;
    private static final int SPENT = -3;

    private static final int SURELY_ONE = 1;
    private static final int SURELY_TWO = 2;
    private static final int COULD = 0;

    private final Land land;
    private final Deeds deeds;
    private final Links links;
    private final Sheet latest;
    private final Sheet early;
    private final Sheet trial;
    private final Likeness likeness;
    private final Partings partings;
    private final Groups groups;
    private final Trails trails;
    private final Rights rights;
    private final Reader reader;
    private final Trays trays;
    private final int[] tape;
    private int fed;
    private final int[] dealt;

    public OneHand() {
        land = new Land();
        deeds = new Deeds(land);
        links = new Links();
        latest = new Sheet();
        early = new Sheet();
        trial = new Sheet();
        likeness = new Likeness(land, deeds, early);
        partings = new Partings();
        groups = new Groups();
        trails = new Trails(land, deeds);
        rights = new Rights();
        reader = new Reader();
        trays = new Trays();
        tape = new int[TAPE];
        fed = 0;
        dealt = new int[MOST_DEEDS];
    }

    // ---- the land

    public int go(int hours) throws IllegalArgumentException, IllegalStateException {
        if (hours < 1 || hours > MOST_HOURS_AT_ONCE) {
            throw new IllegalArgumentException("not so many hours");
        }
        if (land.now + hours > LAST_HOUR) {
            throw new IllegalStateException("there is no such hour");
        }
        land.now += hours;
        return dropOutdated();
    }

    public int place(int x, int y, int land) throws IllegalArgumentException {
        if (!isWithin(x, 0, MOST_ACROSS) || !isWithin(y, 0, MOST_ACROSS) || !isWithin(land, 0, LAST_LAND)) {
            throw new IllegalArgumentException("no such x, y or land");
        }
        return this.land.addPlace(x, y, land);
    }

    public int mark() {
        return land.addMark();
    }

    public int hand(int home) throws NoSuchElementException {
        if (home != NONE) {
            needPlace(home);
        }
        return land.addHand(home);
    }

    public int officer(int land, int rank) throws IllegalArgumentException {
        if (!isWithin(land, 0, LAST_LAND) || !isWithin(rank, 0, LAST_RANK)) {
            throw new IllegalArgumentException("no such land or rank");
        }
        return this.land.addOfficer(land, rank);
    }

    // ---- deeds

    public int deed(int place, int from, int to) throws NoSuchElementException, IllegalArgumentException {
        needPlace(place);
        if (from < 0 || to < from || to > land.now) {
            throw new IllegalArgumentException("no such hours");
        }
        return deeds.add(place, from, to);
    }

    public int tell(int deed, int mark, int state) throws NoSuchElementException, IllegalArgumentException {
        needDeed(deed);
        needMark(mark);
        if (!isWithin(state, NOT_LOOKED_FOR, NOT_SEEN)) {
            throw new IllegalArgumentException("no such state");
        }
        int before = latest.stateOf(deed, mark);
        note(deed, mark, state);
        return before;
    }

    public int state(int deed, int mark, boolean late) throws NoSuchElementException {
        needDeed(deed);
        needMark(mark);
        return sheet(late).stateOf(deed, mark);
    }

    public boolean doubt(int deed, boolean is) throws NoSuchElementException {
        needDeed(deed);
        boolean before = has(deeds.doubted, deed);
        deeds.doubted = is ? deeds.doubted | only(deed) : deeds.doubted & ~only(deed);
        return before;
    }

    public void solve(int deed, int one, int other) throws NoSuchElementException {
        needDeed(deed);
        if (one != NONE || other != NONE) {
            needHand(one);
            needHand(other);
        }
        deeds.solveBy(deed, one, other);
    }

    public boolean bar(int a, int b) throws NoSuchElementException, IllegalArgumentException {
        needTwo(a, b);
        return deeds.tellBarred(a, b);
    }

    public int are(int a, int b) throws NoSuchElementException, IllegalArgumentException {
        needTwo(a, b);
        if (has(deeds.oneWith(a), b)) {
            return 1;
        }
        return has(deeds.barredFrom(a), b) ? 2 : 0;
    }

    public int link(int officer, int a, int b) throws NoSuchElementException, IllegalArgumentException {
        needOfficer(officer);
        needTwo(a, b);
        return links.add(officer, a, b);
    }

    public int right(int officer, boolean right) throws NoSuchElementException {
        needOfficer(officer);
        int many = 0;
        for (int k = 0; k < links.many; k++) {
            if (links.officer[k] == officer && isJudged(links.one[k], links.other[k], right)) {
                many++;
            }
        }
        return many;
    }

    public void forget(int deed) throws NoSuchElementException {
        needDeed(deed);
        drop(deed);
    }

    public void window(int from, int to) throws IllegalArgumentException {
        if (from < 0 || to < from || to > LAST_HOUR) {
            throw new IllegalArgumentException("no such hours");
        }
        deeds.windowFrom = from;
        deeds.windowTo = to;
    }

    // ---- what likeness is worth

    public int count(int mark, boolean one, int outcome, boolean late)
            throws NoSuchElementException, IllegalArgumentException {
        needMark(mark);
        if (!isWithin(outcome, 0, TOGETHER)) {
            throw new IllegalArgumentException("no such outcome");
        }
        likeness.lay(sheet(late));
        return likeness.tallied(mark, one, outcome);
    }

    public int span(int mark, boolean one, int outcome, boolean late, boolean high)
            throws NoSuchElementException, IllegalArgumentException {
        needMark(mark);
        if (!isWithin(outcome, 0, 2)) {
            throw new IllegalArgumentException("no such outcome");
        }
        likeness.lay(sheet(late));
        int many = likeness.tallied(mark, one, outcome);
        int by = likeness.tallied(mark, one, TOGETHER) + 2;
        return high ? quotient(1000 * (many + 2) + by - 1, by) : quotient(1000 * many, by);
    }

    public int weight(int a, int b, boolean late) throws NoSuchElementException, IllegalArgumentException {
        needMark(a);
        needMark(b);
        if (a == b) {
            throw new IllegalArgumentException("both marks are one");
        }
        likeness.lay(sheet(late));
        return likeness.weightOf(a, b);
    }

    public int parent(int mark, boolean late) throws NoSuchElementException {
        needMark(mark);
        likeness.lay(sheet(late));
        return likeness.parents[mark];
    }

    public int worth(int a, int b, boolean late) throws NoSuchElementException, IllegalArgumentException {
        needTwo(a, b);
        Sheet seen = sheet(late);
        likeness.lay(seen);
        return likeness.pairWorth(seen, a, b);
    }

    public int by(int a, int b, int mark, boolean late) throws NoSuchElementException, IllegalArgumentException {
        needDeed(a);
        needDeed(b);
        needMark(mark);
        if (a == b) {
            throw new IllegalArgumentException("both deeds are one");
        }
        Sheet seen = sheet(late);
        likeness.lay(seen);
        return likeness.markWorth(seen, a, b, mark);
    }

    // ---- partings

    public int best(long set, boolean late) throws IllegalArgumentException, IllegalStateException {
        needSet(set, 2, MOST_PARTED);
        partSet(set, late);
        return partings.best;
    }

    public int part(long set, boolean late, int deed) throws IllegalArgumentException, IllegalStateException {
        needSet(set, 2, MOST_PARTED);
        partSet(set, late);
        int member = partings.memberOf(deed);
        return member == NONE ? NONE : partings.bestRow[member];
    }

    public int near(long set, boolean late, int t) throws IllegalArgumentException, IllegalStateException {
        needSet(set, 2, MOST_PARTED);
        needBelow(t);
        partSet(set, late);
        partings.judgeNear(t);
        return partings.near > MOST_NEAR ? SPENT : partings.near;
    }

    public int sure(long set, boolean late, int t, int a, int b)
            throws IllegalArgumentException, IllegalStateException {
        needSet(set, 2, MOST_PARTED);
        needBelow(t);
        if (a == b || !isIn(set, a) || !isIn(set, b)) {
            throw new IllegalArgumentException("not two of the set");
        }
        partSet(set, late);
        partings.judgeNear(t);
        if (partings.near > MOST_NEAR) {
            return SPENT;
        }
        return partings.surety(partings.memberOf(a), partings.memberOf(b));
    }

    public int joined(int deed, boolean late) throws NoSuchElementException, IllegalStateException {
        needDeed(deed);
        needUndoubted(deed);
        join(late);
        return groups.headOf(deed);
    }

    public int bound(boolean late) {
        Sheet seen = sheet(late);
        likeness.lay(seen);
        long stands = deeds.standing();
        int together = 0;
        for (int a = 0; a < deeds.many; a++) {
            long others = has(stands, a) ? stands & above(a) & ~deeds.barredFrom(a) : 0L;
            for (int b = a + 1; b < deeds.many; b++) {
                if (has(others, b)) {
                    together += Math.max(0, likeness.pairWorth(seen, a, b));
                }
            }
        }
        return together;
    }

    // ---- hands that go on

    public int moves(int far, int soon) throws IllegalArgumentException {
        needSoon(far);
        needSoon(soon);
        trails.gather();
        return trails.movesOf(far, soon);
    }

    public int changes(int mark, int from, int to, boolean late)
            throws NoSuchElementException, IllegalArgumentException {
        needMark(mark);
        if (!isWithin(from, NOT_THERE, THERE) || !isWithin(to, NOT_THERE, THERE)) {
            throw new IllegalArgumentException("not looked for");
        }
        trails.gather();
        return trails.changesOf(sheet(late), mark, from, to);
    }

    public int share(int deed, int soon, int place) throws NoSuchElementException, IllegalArgumentException {
        needDeed(deed);
        needPlace(place);
        needSoon(soon);
        trails.draw(deed, soon);
        return trails.shares[place];
    }

    public int likely(int deed, int soon, int s) throws NoSuchElementException, IllegalArgumentException {
        needMap(deed, soon, s);
        trails.draw(deed, soon);
        return trails.likeliest(s);
    }

    public int keep(int deed, int soon, int s) throws NoSuchElementException, IllegalArgumentException {
        needMap(deed, soon, s);
        trails.draw(deed, soon);
        return trails.keepMap(trails.likeliest(s));
    }

    public boolean came(int map, int deed) throws NoSuchElementException, IllegalStateException {
        if (map < 0 || map >= trails.maps) {
            throw new NoSuchElementException("no such map");
        }
        needDeed(deed);
        if (trails.ends[map] != Trails.OPEN) {
            throw new IllegalStateException("that is known already");
        }
        return trails.endMap(map, deeds.at[deed]);
    }

    public int record(boolean is) {
        return trails.endedBy(is ? Trails.TRUE : Trails.FALSE);
    }

    public boolean stopped(int deed, boolean late) throws NoSuchElementException, IllegalStateException {
        needDeed(deed);
        needUndoubted(deed);
        join(late);
        trails.gather();
        int latestFrom = deeds.latestFrom(groups.members[groups.headOf(deed)]);
        return trails.steps > 0 && land.now - latestFrom > trails.longest();
    }

    public int guess(long set) throws IllegalArgumentException {
        needSet(set, 1, MOST_DEEDS);
        return trails.middle(set);
    }

    public int homes(int within, boolean is) throws IllegalArgumentException {
        if (!isWithin(within, 0, MOST_APART)) {
            throw new IllegalArgumentException("no such distance");
        }
        long stands = deeds.standing();
        int many = 0;
        for (int hand = 0; hand < land.hands; hand++) {
            long own = deeds.ofHand[hand] & stands;
            int home = land.home[hand];
            if (home != NONE && Long.bitCount(own) >= 2
                    && (land.distance(trails.middle(own), home) <= within) == is) {
                many++;
            }
        }
        return many;
    }

    // ---- looks, chance

    public int look(long set, boolean late, int t, int what) throws IllegalArgumentException, IllegalStateException {
        needSet(set, 2, MOST_LOOKED_AT);
        needBelow(t);
        if (!isWithin(what, 0, 2)) {
            throw new IllegalArgumentException("nothing of that kind is told");
        }
        partSet(set, late);
        trial.copyFrom(sheet(late));
        int bestDeed = NONE;
        int bestMark = NONE;
        int least = NONE;
        for (int deed = 0; deed < deeds.many; deed++) {
            for (int mark = 0; mark < land.marks; mark++) {
                if (has(set, deed) && trial.stateOf(deed, mark) == NOT_LOOKED_FOR) {
                    int number = Math.max(couldWith(set, t, deed, mark, NOT_THERE),
                            couldWith(set, t, deed, mark, THERE));
                    trial.put(deed, mark, NOT_LOOKED_FOR);
                    if (least == NONE || number < least) {
                        bestDeed = deed;
                        bestMark = mark;
                        least = number;
                    }
                }
            }
        }
        return what == 0 ? bestDeed : what == 1 ? bestMark : least;
    }

    public int others(int deed, int w, boolean late, boolean all) throws NoSuchElementException {
        needDeed(deed);
        Sheet seen = sheet(late);
        likeness.lay(seen);
        long barred = deeds.barredFrom(deed) & deeds.standing();
        int many = 0;
        for (int b = 0; b < deeds.many; b++) {
            if (has(barred, b) && (all || likeness.pairWorth(seen, deed, b) >= w)) {
                many++;
            }
        }
        return many;
    }

    public int lots(int deed, int w, int seed, int times, boolean late)
            throws NoSuchElementException, IllegalArgumentException, IllegalStateException {
        needDeed(deed);
        if (seed < 0 || !isWithin(times, 1, MOST_TIMES)) {
            throw new IllegalArgumentException("no such seed or times");
        }
        needUndoubted(deed);
        likeness.lay(sheet(late));
        int row = layRow(deeds.standing() & ~only(deed));
        long x = seed;
        int often = 0;
        for (int k = 0; k < times; k++) {
            trial.copyFrom(sheet(late));
            for (int mark = 0; mark < land.marks; mark++) {
                x = trial.deal(mark, dealt, row, x);
            }
            if (someIsWorth(deed, w, row)) {
                often++;
            }
        }
        return often;
    }

    // ---- rights

    public int feed(int a, int b, int c, int d, int e) {
        if (fed + 20 > TAPE) {
            return NONE;
        }
        feedOne(a);
        feedOne(b);
        feedOne(c);
        feedOne(d);
        feedOne(e);
        return fed;
    }

    public int text(int n) throws IllegalArgumentException {
        if (n < 0 || n > fed) {
            throw new IllegalArgumentException("the tape has not so many");
        }
        fed = 0;
        reader.read(tape, n);
        if (reader.fault != Reader.FAULTLESS) {
            return -10 - reader.fault;
        }
        rights.copyFrom(reader.draft);
        return rights.lines;
    }

    public int fault(int what) {
        if (what == 0) {
            return reader.fault;
        }
        return what == 1 ? reader.faultPlace : NONE;
    }

    public boolean may(int officer, int deed) throws NoSuchElementException {
        needOfficer(officer);
        needDeed(deed);
        return isLet(officer, deed);
    }

    public int ask(int officer, int deed, int mark) {
        if (!isWithin(officer, 0, land.officers - 1) || !isDeed(deed) || !isWithin(mark, 0, land.marks - 1)) {
            return NONE;
        }
        return isLet(officer, deed) ? latest.stateOf(deed, mark) : NONE;
    }

    public int kept(int deed) throws NoSuchElementException {
        needDeed(deed);
        return keepOf(deed);
    }

    // ---- trays

    public void tray(int tray, int sort, int many) throws NoSuchElementException, IllegalArgumentException {
        needTray(tray);
        if (!isWithin(sort, 0, LAST_SORT) || !isWithin(many, 0, MOST_ON_TRAY)) {
            throw new IllegalArgumentException("no such sort, or not so many");
        }
        trays.lay(tray, sort, many);
    }

    public long write(int tray, int place, long v)
            throws NoSuchElementException, IllegalStateException, IndexOutOfBoundsException {
        needTray(tray);
        needLaid(tray);
        if (place < 0 || place >= trays.many[tray]) {
            throw new IndexOutOfBoundsException("the tray has no such place");
        }
        return trays.put(tray, place, v);
    }

    public int take(int tray, int deed) throws NoSuchElementException, IllegalStateException, IllegalArgumentException {
        needTray(tray);
        needDeed(deed);
        needLaid(tray);
        if (trays.many[tray] > land.marks || !trays.hasAllWithin(tray, NOT_LOOKED_FOR, NOT_SEEN)) {
            throw new IllegalArgumentException("the tray is no row of states");
        }
        int many = trays.many[tray];
        for (int mark = 0; mark < many; mark++) {
            note(deed, mark, (int) trays.at(tray, mark));
        }
        return many;
    }

    public int check(long set, boolean late, int tray) throws NoSuchElementException, IllegalArgumentException {
        needTray(tray);
        needSet(set, 2, MOST_PARTED);
        if (trays.many[tray] == Trays.MISSING) {
            return -2;
        }
        return firstThatDiffers(set, sheet(late), tray);
    }

    public int number(int what) {
        switch (what) {
            case 0: return land.now;
            case 1: return land.places;
            case 2: return land.marks;
            case 3: return land.hands;
            case 4: return land.officers;
            case 5: return deeds.many;
            case 6: return Long.bitCount(deeds.standing());
            case 7: return links.many;
            case 8: return trails.maps;
            case 9: return rights.lines;
            case 10: return fed;
            case 11: return deeds.pairs(true);
            case 12: return deeds.pairs(false);
            default: return NONE;
        }
    }

    // ---- what the calls refuse

    private void needPlace(int place) {
        if (place < 0 || place >= land.places) {
            throw new NoSuchElementException("no such place");
        }
    }

    private void needMark(int mark) {
        if (mark < 0 || mark >= land.marks) {
            throw new NoSuchElementException("no such mark");
        }
    }

    private void needHand(int hand) {
        if (hand < 0 || hand >= land.hands) {
            throw new NoSuchElementException("no such hand");
        }
    }

    private void needOfficer(int officer) {
        if (officer < 0 || officer >= land.officers) {
            throw new NoSuchElementException("no such officer");
        }
    }

    private void needDeed(int deed) {
        if (!isDeed(deed)) {
            throw new NoSuchElementException("no such deed");
        }
    }

    private void needTwo(int a, int b) {
        needDeed(a);
        needDeed(b);
        if (a == b) {
            throw new IllegalArgumentException("both deeds are one");
        }
    }

    private void needUndoubted(int deed) {
        if (has(deeds.doubted, deed)) {
            throw new IllegalStateException("the deed is doubted");
        }
    }

    private void needSet(long set, int least, int most) {
        if ((set & ~deeds.standing()) != 0L || !isWithin(Long.bitCount(set), least, most)) {
            throw new IllegalArgumentException("no such set of deeds that stand");
        }
    }

    private void needBelow(int t) {
        if (!isWithin(t, 0, MOST_BELOW_BEST)) {
            throw new IllegalArgumentException("t is not 0 to 1,000,000");
        }
    }

    private void needSoon(int soon) {
        if (!isWithin(soon, 0, 3)) {
            throw new IllegalArgumentException("it is not 0 to 3");
        }
    }

    private void needMap(int deed, int soon, int s) {
        needDeed(deed);
        needSoon(soon);
        if (!isWithin(s, 1, WHOLE)) {
            throw new IllegalArgumentException("s is not 1 to 10,000");
        }
    }

    private void needTray(int tray) {
        if (tray < 0 || tray >= TRAYS) {
            throw new NoSuchElementException("no such tray");
        }
    }

    private void needLaid(int tray) {
        if (trays.many[tray] == Trays.MISSING) {
            throw new IllegalStateException("the tray is missing");
        }
    }

    // ---- what the calls share

    private boolean isDeed(int deed) {
        return deed >= 0 && deed < deeds.many && !has(deeds.gone, deed);
    }

    private Sheet sheet(boolean late) {
        return late ? latest : early;
    }

    /** What is told of a DEED behind a LINK may be filled in to fit it, so it stays off the early sheet. */
    private void note(int deed, int mark, int state) {
        latest.put(deed, mark, state);
        if (links.with(deed) == 0) {
            early.put(deed, mark, state);
        }
    }

    private void drop(int deed) {
        deeds.drop(deed);
        links.dropWith(deed);
    }

    private int dropOutdated() {
        int dropped = 0;
        for (int deed = 0; deed < deeds.many; deed++) {
            if (isDeed(deed)) {
                int keep = keepOf(deed);
                if (keep != NONE && keep <= land.now - deeds.told[deed]) {
                    drop(deed);
                    dropped++;
                }
            }
        }
        return dropped;
    }

    private boolean isJudged(int a, int b, boolean right) {
        boolean one = has(deeds.oneWith(a), b);
        return right ? one : !one && has(deeds.solved, a) && has(deeds.solved, b);
    }

    /** Parts a set, and tells the caller of the call when there is no PARTING. */
    private void partSet(long set, boolean late) {
        Sheet seen = sheet(late);
        likeness.lay(seen);
        partings.load(set, deeds, likeness, seen);
        partings.findBest();
        if (!partings.found) {
            throw new IllegalStateException("there is no parting");
        }
    }

    private void join(boolean late) {
        Sheet seen = sheet(late);
        likeness.lay(seen);
        groups.load(deeds, likeness, seen);
        groups.joinAll();
    }

    private int couldWith(long set, int t, int deed, int mark, int answer) {
        trial.put(deed, mark, answer);
        likeness.lay(trial);
        partings.load(set, deeds, likeness, trial);
        partings.findBest();
        partings.judgeNear(t);
        return partings.pairsThatCould();
    }

    private int layRow(long set) {
        int many = 0;
        for (int deed = 0; deed < MOST_DEEDS; deed++) {
            if (has(set, deed)) {
                dealt[many] = deed;
                many++;
            }
        }
        return many;
    }

    private boolean someIsWorth(int deed, int w, int row) {
        for (int k = 0; k < row && k < MOST_DEEDS; k++) {
            if (likeness.pairWorth(trial, deed, dealt[k]) >= w) {
                return true;
            }
        }
        return false;
    }

    private void feedOne(int four) {
        for (int shift = 24; shift >= 0 && fed < TAPE; shift -= 8) {
            tape[fed] = four >>> shift & 255;
            fed++;
        }
    }

    private boolean isLet(int officer, int deed) {
        boolean own = land.officerLand[officer] == land.landOf[deeds.at[deed]];
        nameFor(deed, land.rank[officer], own ? 1 : 0);
        return rights.lets();
    }

    private int keepOf(int deed) {
        nameFor(deed, 0, 0);
        return rights.keeps();
    }

    /** Puts what the NAMES of RIGHTS stand for, in the order in which Reader.WORDS tells them. */
    private void nameFor(int deed, int rank, int own) {
        long[] names = rights.names;
        names[0] = rank;
        names[1] = own;
        names[2] = land.now - deeds.told[deed];
        names[3] = has(deeds.solved, deed) ? 1 : 0;
        names[4] = has(deeds.doubted, deed) ? 1 : 0;
        names[5] = latest.thereIn(deed);
        names[6] = links.with(deed);
    }

    private int firstThatDiffers(long set, Sheet seen, int tray) {
        likeness.lay(seen);
        int place = 0;
        for (int a = 0; a < deeds.many; a++) {
            for (int b = a + 1; b < deeds.many; b++) {
                if (has(set, a) && has(set, b)) {
                    if (place >= trays.many[tray]) {
                        return -3 - place;
                    }
                    if (trays.at(tray, place) != likeness.pairWorth(seen, a, b)) {
                        return place;
                    }
                    place++;
                }
            }
        }
        return -1;
    }

    // ---- sets and numbers

    private static boolean isWithin(long v, long least, long most) {
        return v >= least && v <= most;
    }

    private static boolean has(long set, int number) {
        return (set >>> number & 1L) != 0L;
    }

    private static boolean isIn(long set, int number) {
        return number >= 0 && number < MOST_DEEDS && has(set, number);
    }

    private static long only(int number) {
        return 1L << number;
    }

    private static long above(int number) {
        return -2L << number;
    }

    /** Every division of the class goes through here, so that each divisor is tested. */
    private static int quotient(int v, int by) {
        return by > 0 ? v / by : 0;
    }

    private static int logOf(int v) {
        int b = 0;
        for (int k = 0; k < 30 && v >> b > 1; k++) {
            b++;
        }
        return 64 * b + (64 * (v - (1 << b)) >> b);
    }

    // ---- the classes inside

    /** What a land has, and the HOUR it is there. */
    private static final class Land {
        int now = 0;
        int places = 0;
        final int[] x = new int[MOST_PLACES];
        final int[] y = new int[MOST_PLACES];
        final int[] landOf = new int[MOST_PLACES];
        int marks = 0;
        int hands = 0;
        final int[] home = new int[MOST_HANDS];
        int officers = 0;
        final int[] officerLand = new int[MOST_OFFICERS];
        final int[] rank = new int[MOST_OFFICERS];

        int addPlace(int atX, int atY, int inLand) {
            if (places >= MOST_PLACES) {
                return NONE;
            }
            x[places] = atX;
            y[places] = atY;
            landOf[places] = inLand;
            return places++;
        }

        int addMark() {
            return marks >= MOST_MARKS ? NONE : marks++;
        }

        int addHand(int itsHome) {
            if (hands >= MOST_HANDS) {
                return NONE;
            }
            home[hands] = itsHome;
            return hands++;
        }

        int addOfficer(int itsLand, int itsRank) {
            if (officers >= MOST_OFFICERS) {
                return NONE;
            }
            officerLand[officers] = itsLand;
            rank[officers] = itsRank;
            return officers++;
        }

        int distance(int a, int b) {
            return Math.abs(x[a] - x[b]) + Math.abs(y[a] - y[b]);
        }
    }

    /** The DEEDS, and what they are to one another; a set of them is a number with a bit for each. */
    private static final class Deeds {
        final Land land;
        int many = 0;
        final int[] at = new int[MOST_DEEDS];
        final int[] from = new int[MOST_DEEDS];
        final int[] to = new int[MOST_DEEDS];
        final int[] told = new int[MOST_DEEDS];
        final int[] one = new int[MOST_DEEDS];
        final int[] other = new int[MOST_DEEDS];
        final long[] apart = new long[MOST_DEEDS];
        final long[] toldBarred = new long[MOST_DEEDS];
        final long[] ofHand = new long[MOST_HANDS];
        long solved = 0L;
        long doubted = 0L;
        long gone = 0L;
        int windowFrom = 0;
        int windowTo = LAST_HOUR;

        Deeds(Land land) {
            this.land = land;
        }

        int add(int place, int itsFrom, int itsTo) {
            if (many >= MOST_DEEDS) {
                return NONE;
            }
            at[many] = place;
            from[many] = itsFrom;
            to[many] = itsTo;
            told[many] = land.now;
            one[many] = NONE;
            other[many] = NONE;
            for (int b = 0; b < many; b++) {
                if (areApart(many, b)) {
                    apart[many] |= only(b);
                    apart[b] |= only(many);
                }
            }
            return many++;
        }

        private boolean areApart(int a, int b) {
            int hours = Math.max(to[a] - from[b], to[b] - from[a]);
            return hours * 4 < land.distance(at[a], at[b]);
        }

        void solveBy(int deed, int hand, int otherHand) {
            long rest = ~only(deed);
            for (int k = 0; k < MOST_HANDS; k++) {
                ofHand[k] &= rest;
            }
            solved &= rest;
            one[deed] = hand;
            other[deed] = otherHand;
            if (hand != NONE && otherHand != NONE) {
                ofHand[hand] |= only(deed);
                ofHand[otherHand] |= only(deed);
                solved |= only(deed);
            }
        }

        /** A DEED that is gone leaves its HANDS, so that no STEP and no pair finds it there. */
        void drop(int deed) {
            solveBy(deed, NONE, NONE);
            gone |= only(deed);
        }

        boolean tellBarred(int a, int b) {
            boolean anew = !has(toldBarred[a], b);
            toldBarred[a] |= only(b);
            toldBarred[b] |= only(a);
            return anew;
        }

        long oneWith(int deed) {
            return (setOf(one[deed]) | setOf(other[deed])) & ~only(deed);
        }

        private long setOf(int hand) {
            return hand >= 0 && hand < MOST_HANDS ? ofHand[hand] : 0L;
        }

        long barredFrom(int deed) {
            long barred = apart[deed] | toldBarred[deed];
            if (has(solved, deed)) {
                barred |= solved;
            }
            return barred & ~oneWith(deed) & ~only(deed) & ~gone;
        }

        long standing() {
            return only(many) - 1L & ~gone & ~doubted;
        }

        long counting() {
            long stands = standing();
            long counts = 0L;
            for (int deed = 0; deed < many; deed++) {
                if (has(stands, deed) && from[deed] >= windowFrom && from[deed] <= windowTo) {
                    counts |= only(deed);
                }
            }
            return counts;
        }

        int pairs(boolean ofOne) {
            long counts = counting();
            int found = 0;
            for (int deed = 0; deed < many; deed++) {
                if (has(counts, deed)) {
                    long with = ofOne ? oneWith(deed) : barredFrom(deed);
                    found += Long.bitCount(with & counts & above(deed));
                }
            }
            return found;
        }

        int latestFrom(long set) {
            int found = 0;
            for (int deed = 0; deed < many; deed++) {
                if (has(set, deed)) {
                    found = Math.max(found, from[deed]);
                }
            }
            return found;
        }
    }

    /** What OFFICERS say of two DEEDS. */
    private static final class Links {
        int many = 0;
        final int[] officer = new int[MOST_LINKS];
        final int[] one = new int[MOST_LINKS];
        final int[] other = new int[MOST_LINKS];

        int add(int by, int a, int b) {
            if (many >= MOST_LINKS) {
                return NONE;
            }
            officer[many] = by;
            one[many] = a;
            other[many] = b;
            many++;
            return many;
        }

        int with(int deed) {
            int found = 0;
            for (int k = 0; k < many; k++) {
                if (one[k] == deed || other[k] == deed) {
                    found++;
                }
            }
            return found;
        }

        void dropWith(int deed) {
            int left = 0;
            for (int k = 0; k < many; k++) {
                if (one[k] != deed && other[k] != deed) {
                    officer[left] = officer[k];
                    one[left] = one[k];
                    other[left] = other[k];
                    left++;
                }
            }
            many = left;
        }
    }

    /** The STATES of all MARKS: for each MARK the DEEDS of a STATE as a set. */
    private static final class Sheet {
        final long[] looked = new long[MOST_MARKS];
        final long[] there = new long[MOST_MARKS];
        final long[] unseen = new long[MOST_MARKS];

        int stateOf(int deed, int mark) {
            if (has(looked[mark], deed)) {
                return has(there[mark], deed) ? THERE : NOT_THERE;
            }
            return has(unseen[mark], deed) ? NOT_SEEN : NOT_LOOKED_FOR;
        }

        void put(int deed, int mark, int state) {
            long rest = ~only(deed);
            looked[mark] &= rest;
            there[mark] &= rest;
            unseen[mark] &= rest;
            if (state == NOT_THERE || state == THERE) {
                looked[mark] |= only(deed);
            }
            if (state == THERE) {
                there[mark] |= only(deed);
            }
            if (state == NOT_SEEN) {
                unseen[mark] |= only(deed);
            }
        }

        int outcomeOf(int mark, int a, int b) {
            if (!has(looked[mark], a) || !has(looked[mark], b)) {
                return UNKNOWN;
            }
            return (has(there[mark], a) ? 1 : 0) + (has(there[mark], b) ? 1 : 0);
        }

        int thereIn(int deed) {
            int found = 0;
            for (int mark = 0; mark < MOST_MARKS; mark++) {
                if (has(there[mark], deed)) {
                    found++;
                }
            }
            return found;
        }

        void copyFrom(Sheet sheet) {
            for (int mark = 0; mark < MOST_MARKS; mark++) {
                looked[mark] = sheet.looked[mark];
                there[mark] = sheet.there[mark];
                unseen[mark] = sheet.unseen[mark];
            }
        }

        /** Deals the STATES of a MARK anew among a row of DEEDS; x goes on. */
        long deal(int mark, int[] row, int many, long x) {
            long goes = x;
            for (int i = Math.min(many, row.length) - 1; i >= 1; i--) {
                goes = goes * 1103515245L + 12345L & 2147483647L;
                int high = (int) (goes >> 16);
                int j = high - quotient(high, i + 1) * (i + 1);
                int state = stateOf(row[i], mark);
                put(row[i], mark, stateOf(row[j], mark));
                put(row[j], mark, state);
            }
            return goes;
        }
    }

    /** COUNTS, THE TREE and WORTH, all by the sheet that was laid last. */
    private static final class Likeness {
        private static final int KIND = MOST_MARKS * 16;

        final Land land;
        final Deeds deeds;
        Sheet sheet;
        long counts = 0L;
        final long[] ones = new long[MOST_DEEDS];
        final long[] twos = new long[MOST_DEEDS];
        final int[] parents = new int[MOST_MARKS];
        final int[] weights = new int[MOST_MARKS * MOST_MARKS];
        final int[] hanging = new int[MOST_MARKS];
        final int[] tied = new int[MOST_MARKS];
        final int[] row = new int[MOST_MARKS];
        final int[] tally = new int[2 * KIND];
        final int[] worths = new int[KIND];
        final boolean[] ready = new boolean[MOST_MARKS * 4];

        Likeness(Land land, Deeds deeds, Sheet sheet) {
            this.land = land;
            this.deeds = deeds;
            this.sheet = sheet;
        }

        void lay(Sheet laid) {
            sheet = laid;
            counts = deeds.counting();
            for (int deed = 0; deed < deeds.many; deed++) {
                boolean in = has(counts, deed);
                long greater = counts & above(deed);
                ones[deed] = in ? deeds.oneWith(deed) & greater : 0L;
                twos[deed] = in ? deeds.barredFrom(deed) & greater : 0L;
            }
            for (int k = 0; k < ready.length; k++) {
                ready[k] = false;
            }
            weighAll();
            tieAll();
            hangAll();
        }

        int weightOf(int a, int b) {
            long both = counts & sheet.looked[a] & sheet.looked[b];
            long thereA = sheet.there[a];
            long thereB = sheet.there[b];
            int two = Long.bitCount(both & thereA & thereB);
            int first = Long.bitCount(both & thereA & ~thereB);
            int second = Long.bitCount(both & ~thereA & thereB);
            int none = Long.bitCount(both & ~thereA & ~thereB);
            return Math.abs(two * none - first * second);
        }

        private void weighAll() {
            for (int a = 0; a < land.marks; a++) {
                hanging[a] = 1 << a;
                tied[a] = 0;
                parents[a] = NONE;
                for (int b = a + 1; b < land.marks; b++) {
                    weights[a * MOST_MARKS + b] = weightOf(a, b);
                }
            }
        }

        private void tieAll() {
            int next = heaviest();
            for (int k = 0; k < MOST_MARKS && next != NONE; k++) {
                tie(next / MOST_MARKS, next % MOST_MARKS);
                next = heaviest();
            }
        }

        /** The first pair of the greatest WEIGHT that does not hang together yet. */
        private int heaviest() {
            int found = NONE;
            int most = 0;
            for (int a = 0; a < land.marks; a++) {
                for (int b = a + 1; b < land.marks; b++) {
                    int pair = a * MOST_MARKS + b;
                    if (weights[pair] > most && (hanging[a] >> b & 1) == 0) {
                        found = pair;
                        most = weights[pair];
                    }
                }
            }
            return found;
        }

        private void tie(int a, int b) {
            tied[a] |= 1 << b;
            tied[b] |= 1 << a;
            int all = hanging[a] | hanging[b];
            for (int m = 0; m < land.marks; m++) {
                if ((all >> m & 1) != 0) {
                    hanging[m] = all;
                }
            }
        }

        private void hangAll() {
            int seen = 0;
            for (int root = 0; root < land.marks; root++) {
                if ((seen >> root & 1) == 0) {
                    seen |= hangOn(root);
                }
            }
        }

        /** Walks from a root over all that hangs together with it, the near ones first. */
        private int hangOn(int root) {
            int seen = 1 << root;
            int many = 1;
            row[0] = root;
            for (int k = 0; k < MOST_MARKS && k < many; k++) {
                int by = row[k];
                for (int m = 0; m < land.marks && many < MOST_MARKS; m++) {
                    if ((tied[by] >> m & 1) != 0 && (seen >> m & 1) == 0) {
                        parents[m] = by;
                        seen |= 1 << m;
                        row[many] = m;
                        many++;
                    }
                }
            }
            return seen;
        }

        int tallied(int mark, boolean one, int outcome) {
            tallyWith(mark, UNKNOWN);
            return tally[(one ? 0 : KIND) + mark * 16 + UNKNOWN * 4 + outcome];
        }

        /** COUNTS and WORTHS of a MARK by pairs with an OUTCOME of its PARENT (UNKNOWN: by all), each once a sheet. */
        private void tallyWith(int mark, int above) {
            if (ready[mark * 4 + above]) {
                return;
            }
            ready[mark * 4 + above] = true;
            int to = mark * 16 + above * 4;
            for (int k = 0; k < 4; k++) {
                tally[to + k] = 0;
                tally[KIND + to + k] = 0;
            }
            long in = counts & sheet.looked[mark];
            for (int deed = 0; deed < deeds.many; deed++) {
                if (has(in, deed)) {
                    long with = in & matching(mark, above, deed);
                    boolean there = has(sheet.there[mark], deed);
                    tallyPairs(to, there, ones[deed] & with, sheet.there[mark]);
                    tallyPairs(KIND + to, there, twos[deed] & with, sheet.there[mark]);
                }
            }
            for (int outcome = 0; outcome < TOGETHER; outcome++) {
                worths[to + outcome] = worthOf(to, to + outcome);
            }
        }

        private int worthOf(int all, int some) {
            return logOf(tally[some] + 1) - logOf(tally[all + TOGETHER] + 3)
                    - logOf(tally[KIND + some] + 1) + logOf(tally[KIND + all + TOGETHER] + 3);
        }

        private void tallyPairs(int to, boolean there, long with, long allThere) {
            int same = Long.bitCount(with & allThere);
            int rest = Long.bitCount(with & ~allThere);
            int least = there ? 1 : 0;
            tally[to + least] += rest;
            tally[to + least + 1] += same;
            tally[to + TOGETHER] += rest + same;
        }

        /** The DEEDS that have, with a DEED, an OUTCOME of a MARK's PARENT. */
        private long matching(int mark, int above, int deed) {
            int by = parents[mark];
            if (above == UNKNOWN || by == NONE) {
                return -1L;
            }
            if (!has(sheet.looked[by], deed)) {
                return 0L;
            }
            int more = has(sheet.there[by], deed) ? above - 1 : above;
            if (more == 1) {
                return sheet.looked[by] & sheet.there[by];
            }
            return more == 0 ? sheet.looked[by] & ~sheet.there[by] : 0L;
        }

        int markWorth(Sheet seen, int a, int b, int mark) {
            int outcome = seen.outcomeOf(mark, a, b);
            if (outcome == UNKNOWN) {
                return 0;
            }
            int by = parents[mark];
            int above = by == NONE ? UNKNOWN : seen.outcomeOf(by, a, b);
            tallyWith(mark, above);
            return worths[mark * 16 + above * 4 + outcome];
        }

        int pairWorth(Sheet seen, int a, int b) {
            int all = 0;
            for (int mark = 0; mark < land.marks; mark++) {
                all += markWorth(seen, a, b, mark);
            }
            return all;
        }
    }

    /** All PARTINGS of a small set, its DEEDS as members 0, 1, 2 .. by number; a part is a set of members. */
    private static final class Partings {
        final int[] members = new int[MOST_PARTED];
        int many = 0;
        final int[] barred = new int[MOST_PARTED];
        final int[] ones = new int[MOST_PARTED];
        final int[] gains = new int[1 << MOST_PARTED];
        final int[] parts = new int[MOST_PARTED];
        final int[] row = new int[MOST_PARTED];
        final int[] bestRow = new int[MOST_PARTED];
        boolean found = false;
        int best = 0;
        int least = 0;
        int near = 0;
        long everOne = 0L;
        long everTwo = 0L;

        void load(long set, Deeds deeds, Likeness likeness, Sheet seen) {
            many = 0;
            for (int deed = 0; deed < MOST_DEEDS && many < MOST_PARTED; deed++) {
                if (has(set, deed)) {
                    members[many] = deed;
                    many++;
                }
            }
            for (int i = 0; i < many; i++) {
                barred[i] = 0;
                ones[i] = 0;
                gains[1 << i] = 0;
                long barredFrom = deeds.barredFrom(members[i]);
                long oneWith = deeds.oneWith(members[i]);
                for (int j = 0; j < i; j++) {
                    barred[i] |= has(barredFrom, members[j]) ? 1 << j : 0;
                    ones[i] |= has(oneWith, members[j]) ? 1 << j : 0;
                    setGain(i, j, likeness.pairWorth(seen, members[j], members[i]));
                }
            }
        }

        /** What member i brings to a part stands at (1 << i) + part; j comes behind all lesser ones. */
        private void setGain(int i, int j, int worth) {
            int base = 1 << i;
            int bit = 1 << j;
            for (int part = 0; part < bit; part++) {
                gains[base + bit + part] = gains[base + part] + worth;
            }
        }

        int memberOf(int deed) {
            for (int i = 0; i < many; i++) {
                if (members[i] == deed) {
                    return i;
                }
            }
            return NONE;
        }

        void findBest() {
            found = false;
            best = 0;
            settle(0, 0, 0, 0L, false);
        }

        void judgeNear(int t) {
            least = best - t;
            near = 0;
            everOne = 0L;
            everTwo = 0L;
            settle(0, 0, 0, 0L, true);
        }

        /** The pairs of a member and all lesser ones stand from here on in a row of bits, one for each pair. */
        private int firstPair(int member) {
            return member * (member - 1) / 2;
        }

        /** Puts a member into each part that takes it, the first part first, so that rows come in order. */
        private void settle(int member, int used, int worth, long joins, boolean judging) {
            if (member >= many) {
                if (judging) {
                    judge(worth, joins);
                } else {
                    compare(worth);
                }
                return;
            }
            for (int p = 0; p <= used && p < MOST_PARTED; p++) {
                int part = p < used ? parts[p] : 0;
                if ((part & barred[member]) == 0 && (ones[member] & ~part) == 0) {
                    parts[p] = part | 1 << member;
                    row[member] = p;
                    settle(member + 1, Math.max(used, p + 1), worth + gains[(1 << member) + part],
                            joins | (long) part << firstPair(member), judging);
                    parts[p] = part;
                }
            }
        }

        private void compare(int worth) {
            if (!found || worth > best) {
                found = true;
                best = worth;
                for (int i = 0; i < many; i++) {
                    bestRow[i] = row[i];
                }
            }
        }

        private void judge(int worth, long joins) {
            if (worth >= least) {
                near++;
                everOne |= joins;
                everTwo |= ~joins;
            }
        }

        int surety(int i, int j) {
            int pair = firstPair(Math.max(i, j)) + Math.min(i, j);
            if (!has(everTwo, pair)) {
                return SURELY_ONE;
            }
            return has(everOne, pair) ? COULD : SURELY_TWO;
        }

        int pairsThatCould() {
            int could = 0;
            for (int i = 0; i < many; i++) {
                for (int j = i + 1; j < many; j++) {
                    if (surety(i, j) == COULD) {
                        could++;
                    }
                }
            }
            return could;
        }
    }

    /** JOINED: groups of DEEDS, each known by its least DEED, its head. */
    private static final class Groups {
        int deeds = 0;
        long heads = 0L;
        final long[] members = new long[MOST_DEEDS];
        final long[] barred = new long[MOST_DEEDS];
        final int[] sums = new int[MOST_DEEDS * MOST_DEEDS];

        void load(Deeds from, Likeness likeness, Sheet seen) {
            deeds = from.many;
            heads = from.standing();
            for (int a = 0; a < deeds; a++) {
                members[a] = has(heads, a) ? only(a) : 0L;
                barred[a] = from.barredFrom(a);
                for (int b = a + 1; b < deeds; b++) {
                    if (has(heads, a) && has(heads, b)) {
                        int worth = likeness.pairWorth(seen, a, b);
                        sums[a * MOST_DEEDS + b] = worth;
                        sums[b * MOST_DEEDS + a] = worth;
                    }
                }
            }
        }

        void joinAll() {
            int next = likest();
            for (int k = 0; k < MOST_DEEDS && next != NONE; k++) {
                unite(next / MOST_DEEDS, next % MOST_DEEDS);
                next = likest();
            }
        }

        private int likest() {
            int found = NONE;
            int most = 0;
            for (int a = 0; a < deeds; a++) {
                for (int b = a + 1; b < deeds && has(heads, a); b++) {
                    int pair = a * MOST_DEEDS + b;
                    if (has(heads, b) && sums[pair] > most && (barred[a] & members[b]) == 0L) {
                        found = pair;
                        most = sums[pair];
                    }
                }
            }
            return found;
        }

        private void unite(int a, int b) {
            heads &= ~only(b);
            members[a] |= members[b];
            barred[a] |= barred[b];
            for (int c = 0; c < deeds; c++) {
                if (c != a && has(heads, c)) {
                    int sum = sums[a * MOST_DEEDS + c] + sums[b * MOST_DEEDS + c];
                    sums[a * MOST_DEEDS + c] = sum;
                    sums[c * MOST_DEEDS + a] = sum;
                }
            }
        }

        int headOf(int deed) {
            for (int head = 0; head < deeds; head++) {
                if (has(heads, head) && has(members[head], deed)) {
                    return head;
                }
            }
            return deed;
        }
    }

    /** STEPS of HANDS, MAPS that are drawn by them, and the record of those that are KEPT. */
    private static final class Trails {
        static final int OPEN = 0;
        static final int TRUE = 1;
        static final int FALSE = 2;

        final Land land;
        final Deeds deeds;
        int steps = 0;
        final int[] stepFrom = new int[MOST_STEPS];
        final int[] stepTo = new int[MOST_STEPS];
        final int[] row = new int[MOST_DEEDS];
        final int[] shares = new int[MOST_PLACES];
        final int[] rests = new int[MOST_PLACES];
        int maps = 0;
        final int[] likelies = new int[MOST_MAPS];
        final int[] ends = new int[MOST_MAPS];

        Trails(Land land, Deeds deeds) {
            this.land = land;
            this.deeds = deeds;
        }

        void gather() {
            steps = 0;
            long stands = deeds.standing();
            for (int hand = 0; hand < land.hands; hand++) {
                int many = order(deeds.ofHand[hand] & stands);
                for (int k = 1; k < many && steps < MOST_STEPS; k++) {
                    stepFrom[steps] = row[k - 1];
                    stepTo[steps] = row[k];
                    steps++;
                }
            }
        }

        /** Lays a set as a row by from; those of one HOUR stay by number. */
        private int order(long set) {
            int many = 0;
            for (int deed = 0; deed < deeds.many; deed++) {
                if (has(set, deed)) {
                    int k = many;
                    for (; k > 0 && deeds.from[row[k - 1]] > deeds.from[deed]; k--) {
                        row[k] = row[k - 1];
                    }
                    row[k] = deed;
                    many++;
                }
            }
            return many;
        }

        private int hoursOf(int step) {
            return deeds.from[stepTo[step]] - deeds.from[stepFrom[step]];
        }

        private int farOf(int distance) {
            if (distance == 0) {
                return 0;
            }
            return distance < 10 ? 1 : distance < 50 ? 2 : 3;
        }

        private int soonOf(int hours) {
            if (hours < 24) {
                return 0;
            }
            return hours < 168 ? 1 : hours < 720 ? 2 : 3;
        }

        int movesOf(int far, int soon) {
            int found = 0;
            for (int k = 0; k < steps; k++) {
                int distance = land.distance(deeds.at[stepFrom[k]], deeds.at[stepTo[k]]);
                if (farOf(distance) == far && soonOf(hoursOf(k)) == soon) {
                    found++;
                }
            }
            return found;
        }

        int changesOf(Sheet seen, int mark, int from, int to) {
            int found = 0;
            for (int k = 0; k < steps; k++) {
                if (seen.stateOf(stepFrom[k], mark) == from && seen.stateOf(stepTo[k], mark) == to) {
                    found++;
                }
            }
            return found;
        }

        int longest() {
            int found = 0;
            for (int k = 0; k < steps; k++) {
                found = Math.max(found, hoursOf(k));
            }
            return found;
        }

        /** Makes the SHARES of the MAP behind a DEED. */
        void draw(int deed, int soon) {
            gather();
            int all = 0;
            for (int place = 0; place < land.places; place++) {
                shares[place] = 1 + movesOf(farOf(land.distance(deeds.at[deed], place)), soon);
                all += shares[place];
            }
            int left = WHOLE;
            for (int place = 0; place < land.places; place++) {
                int parts = WHOLE * shares[place];
                shares[place] = quotient(parts, all);
                rests[place] = parts - shares[place] * all;
                left -= shares[place];
            }
            for (int k = 0; k < MOST_PLACES && k < left; k++) {
                int place = greatest(rests, 0);
                if (place != NONE) {
                    shares[place]++;
                    rests[place] = NONE;
                }
            }
        }

        /** The first PLACE with the greatest number of those that aren't in a set; NONE below 0. */
        private int greatest(int[] numbers, int without) {
            int found = NONE;
            int most = NONE;
            for (int place = 0; place < land.places; place++) {
                if (numbers[place] > most && (without >> place & 1) == 0) {
                    found = place;
                    most = numbers[place];
                }
            }
            return found;
        }

        int likeliest(int s) {
            int set = 0;
            int together = 0;
            for (int k = 0; k < MOST_PLACES && together < s; k++) {
                int place = greatest(shares, set);
                if (place != NONE) {
                    set |= 1 << place;
                    together += shares[place];
                }
            }
            return set;
        }

        int keepMap(int places) {
            if (maps >= MOST_MAPS) {
                return NONE;
            }
            likelies[maps] = places;
            ends[maps] = OPEN;
            return maps++;
        }

        boolean endMap(int map, int place) {
            boolean in = (likelies[map] >> place & 1) != 0;
            ends[map] = in ? TRUE : FALSE;
            return in;
        }

        int endedBy(int end) {
            int found = 0;
            for (int map = 0; map < maps; map++) {
                if (ends[map] == end) {
                    found++;
                }
            }
            return found;
        }

        /** GUESS of a set of DEEDS. */
        int middle(long set) {
            int found = 0;
            int least = NONE;
            for (int place = 0; place < land.places; place++) {
                int together = 0;
                for (int deed = 0; deed < deeds.many; deed++) {
                    if (has(set, deed)) {
                        together += land.distance(place, deeds.at[deed]);
                    }
                }
                if (least == NONE || together < least) {
                    found = place;
                    least = together;
                }
            }
            return found;
        }
    }

    /** RIGHTS as they are worked: the LINES, and their SUMS and TESTS with each sign behind what it joins. */
    private static final class Rights {
        static final int OR = -20;
        static final int AND = -21;
        static final int NOT = -22;
        private static final int NAMES = 7;

        int lines = 0;
        final int[] says = new int[MOST_LINES];
        final int[] sumAt = new int[MOST_LINES];
        final int[] testAt = new int[MOST_LINES];
        final int[] endAt = new int[MOST_LINES];
        final int[] code = new int[TAPE];
        int size = 0;
        final long[] names = new long[NAMES];
        final long[] stack = new long[TAPE];

        void clear() {
            lines = 0;
            size = 0;
        }

        void emit(int sign) {
            if (size < TAPE) {
                code[size] = sign;
                size++;
            }
        }

        void copyFrom(Rights draft) {
            lines = draft.lines;
            for (int k = 0; k < draft.lines; k++) {
                says[k] = draft.says[k];
                sumAt[k] = draft.sumAt[k];
                testAt[k] = draft.testAt[k];
                endAt[k] = draft.endAt[k];
            }
            size = draft.size;
            for (int k = 0; k < draft.size; k++) {
                code[k] = draft.code[k];
            }
        }

        boolean lets() {
            for (int k = lines - 1; k >= 0; k--) {
                if (says[k] != Reader.KEEP && holds(k)) {
                    return says[k] == Reader.LET;
                }
            }
            return false;
        }

        int keeps() {
            for (int k = lines - 1; k >= 0; k--) {
                if (says[k] == Reader.KEEP && holds(k)) {
                    long sum = work(sumAt[k], testAt[k]);
                    return (int) Math.max(1L, Math.min((long) LAST_HOUR, sum));
                }
            }
            return NONE;
        }

        private boolean holds(int line) {
            return testAt[line] >= endAt[line] || work(testAt[line], endAt[line]) != 0L;
        }

        private long work(int from, int to) {
            int top = 0;
            for (int k = from; k < to && k < TAPE; k++) {
                int sign = code[k];
                if (sign >= -NAMES && top < TAPE) {
                    stack[top] = sign >= 0 ? sign : names[-1 - sign];
                    top++;
                } else if (sign == NOT && top >= 1) {
                    stack[top - 1] = 1L - stack[top - 1];
                } else if (top >= 2) {
                    top--;
                    stack[top - 1] = joinedBy(sign, stack[top - 1], stack[top]);
                }
            }
            return top > 0 ? stack[0] : 0L;
        }

        private long joinedBy(int sign, long a, long b) {
            switch (-sign) {
                case '+': return a + b;
                case '-': return a - b;
                case '*': return a * b;
                case '<': return a < b ? 1L : 0L;
                case '>': return a > b ? 1L : 0L;
                case '=': return a == b ? 1L : 0L;
                default: return sign == OR ? a | b : a & b;
            }
        }
    }

    /**
     * Reads a TEXT: first all its TOKENS, then what they say. The kind of a TOKEN is a number,
     * that of a sign being its character's.
     */
    private static final class Reader {
        static final int FAULTLESS = 0;
        private static final int NO_TOKEN = 1;
        private static final int CANNOT_STAND = 2;
        private static final int LINE_TOO_MANY = 3;
        private static final int TOO_DEEP = 4;

        static final int LET = 0;
        private static final int BAR = 1;
        static final int KEEP = 2;
        private static final int IF = 3;
        private static final int OR = 4;
        private static final int AND = 5;
        private static final int NOT = 6;
        private static final int FIRST_NAME = 7;
        private static final int OTHER_WORD = 14;
        private static final int NUMBER = 15;
        private static final int END = 16;
        private static final int WRONG = 17;
        private static final int REFUSED = 18;
        private static final int MOST_DIGITS = 5;
        private static final int LONGEST_WORD = 7;
        private static final String WORDS =
                "let    bar    keep   if     or     and    not    rank   land   age    solved doubtedthere  links  ";

        final Rights draft = new Rights();
        int fault = FAULTLESS;
        int faultPlace = NONE;
        private final int[] kinds = new int[TAPE + 1];
        private final int[] values = new int[TAPE + 1];
        private final int[] places = new int[TAPE + 1];
        private int tokens = 0;
        private int at = 0;
        private int token = END;

        void read(int[] text, int length) {
            scan(text, length);
            fault = FAULTLESS;
            faultPlace = NONE;
            draft.clear();
            at = 0;
            token = kinds[0];
            for (int k = 0; k < tokens && token != END && fault == FAULTLESS; k++) {
                line();
            }
        }

        /** Behind the last TOKEN, or the first that is none, the end stands as one more. */
        private void scan(int[] text, int length) {
            tokens = 0;
            int place = 0;
            boolean goes = true;
            for (int k = 0; k < TAPE && place < length && goes; k++) {
                int c = text[place];
                if (c == 10 || c == 32) {
                    place++;
                } else {
                    places[tokens] = place;
                    place = isLetter(c) ? scanWord(text, length, place)
                            : isDigit(c) ? scanNumber(text, length, place) : scanSign(c, place);
                    goes = kinds[tokens] != WRONG;
                    tokens++;
                }
            }
            kinds[tokens] = END;
            places[tokens] = length;
        }

        private int scanWord(int[] text, int length, int place) {
            int end = place;
            for (; end < length && isLetter(text[end]); end++) {
                kinds[tokens] = OTHER_WORD;
            }
            for (int word = 0; word < OTHER_WORD; word++) {
                if (isWord(word, text, place, end)) {
                    kinds[tokens] = word;
                }
            }
            return end;
        }

        private boolean isWord(int word, int[] text, int place, int end) {
            if (end - place > LONGEST_WORD) {
                return false;
            }
            for (int k = 0; k < LONGEST_WORD; k++) {
                int is = place + k < end ? text[place + k] : ' ';
                if (is != WORDS.charAt(word * LONGEST_WORD + k)) {
                    return false;
                }
            }
            return true;
        }

        private int scanNumber(int[] text, int length, int place) {
            int value = 0;
            int end = place;
            for (; end < length && isDigit(text[end]); end++) {
                if (end - place < MOST_DIGITS) {
                    value = value * 10 + text[end] - '0';
                }
            }
            kinds[tokens] = end - place > MOST_DIGITS ? WRONG : NUMBER;
            values[tokens] = value;
            return end;
        }

        private int scanSign(int c, int place) {
            switch (c) {
                case ';': case '<': case '>': case '=': case '+': case '-':
                case '*': case '(': case ')': case '[': case ']':
                    kinds[tokens] = c;
                    break;
                default:
                    kinds[tokens] = WRONG;
                    break;
            }
            return place + 1;
        }

        private boolean isLetter(int c) {
            return c >= 'a' && c <= 'z';
        }

        private boolean isDigit(int c) {
            return c >= '0' && c <= '9';
        }

        private void advance() {
            if (at < tokens) {
                at++;
                token = kinds[at];
            }
        }

        /** No TOKEN is taken behind a FAULT, so the first along the text is the one that is kept. */
        private void refuse(int kind) {
            if (fault == FAULTLESS) {
                fault = token == WRONG ? NO_TOKEN : kind;
                faultPlace = places[at];
            }
            token = REFUSED;
        }

        private void expect(int due) {
            if (token == due) {
                advance();
            } else {
                refuse(CANNOT_STAND);
            }
        }

        private void line() {
            if (token != LET && token != BAR && token != KEEP) {
                refuse(CANNOT_STAND);
                return;
            }
            int number = draft.lines;
            if (number >= MOST_LINES) {
                refuse(LINE_TOO_MANY);
                return;
            }
            draft.says[number] = token;
            draft.sumAt[number] = draft.size;
            boolean keeps = token == KEEP;
            advance();
            if (keeps) {
                sum(0);
            }
            draft.testAt[number] = draft.size;
            if (token == IF) {
                advance();
                test(0);
            }
            draft.endAt[number] = draft.size;
            draft.lines++;
            expect(';');
        }

        private void test(int around) {
            both(around);
            for (int k = 0; k < tokens && token == OR; k++) {
                advance();
                both(around);
                draft.emit(Rights.OR);
            }
        }

        private void both(int around) {
            one(around);
            for (int k = 0; k < tokens && token == AND; k++) {
                advance();
                one(around);
                draft.emit(Rights.AND);
            }
        }

        private void one(int around) {
            if ((token == NOT || token == '[') && around >= MOST_AROUND) {
                refuse(TOO_DEEP);
            } else if (token == NOT) {
                advance();
                one(around + 1);
                draft.emit(Rights.NOT);
            } else if (token == '[') {
                advance();
                test(around + 1);
                expect(']');
            } else {
                compare(around);
            }
        }

        private void compare(int around) {
            sum(around);
            int sign = token;
            if (sign == '<' || sign == '>' || sign == '=') {
                advance();
                sum(around);
                draft.emit(-sign);
            } else {
                refuse(CANNOT_STAND);
            }
        }

        private void sum(int around) {
            item(around);
            for (int k = 0; k < tokens && (token == '+' || token == '-'); k++) {
                int sign = token;
                advance();
                item(around);
                draft.emit(-sign);
            }
        }

        private void item(int around) {
            atom(around);
            for (int k = 0; k < tokens && token == '*'; k++) {
                advance();
                atom(around);
                draft.emit(-'*');
            }
        }

        private void atom(int around) {
            if (token == NUMBER) {
                draft.emit(values[at]);
                advance();
            } else if (token >= FIRST_NAME && token < OTHER_WORD) {
                draft.emit(FIRST_NAME - 1 - token);
                advance();
            } else if (token != '(') {
                refuse(CANNOT_STAND);
            } else if (around >= MOST_AROUND) {
                refuse(TOO_DEEP);
            } else {
                advance();
                sum(around + 1);
                expect(')');
            }
        }
    }

    /** TRAYS: rows of numbers, all in one. */
    private static final class Trays {
        static final int MISSING = -1;

        final int[] many = new int[TRAYS];
        final int[] sort = new int[TRAYS];
        final long[] numbers = new long[TRAYS * MOST_ON_TRAY];

        Trays() {
            for (int tray = 0; tray < TRAYS; tray++) {
                many[tray] = MISSING;
            }
        }

        void lay(int tray, int itsSort, int itsMany) {
            sort[tray] = itsSort;
            many[tray] = itsMany;
            for (int k = 0; k < MOST_ON_TRAY; k++) {
                numbers[tray * MOST_ON_TRAY + k] = 0L;
            }
        }

        long put(int tray, int place, long v) {
            long cut = cutTo(sort[tray], v);
            numbers[tray * MOST_ON_TRAY + place] = cut;
            return cut;
        }

        private long cutTo(int itsSort, long v) {
            switch (itsSort) {
                case 0: return (byte) v;
                case 1: return (short) v;
                case 2: return (int) v;
                default: return v;
            }
        }

        long at(int tray, int place) {
            return numbers[tray * MOST_ON_TRAY + place];
        }

        boolean hasAllWithin(int tray, int least, int most) {
            for (int k = 0; k < many[tray]; k++) {
                if (!isWithin(at(tray, k), least, most)) {
                    return false;
                }
            }
            return true;
        }
    }
}

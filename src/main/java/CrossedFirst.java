/** Beasts, ranked by the order in which they come over a river. */
public final class CrossedFirst {
    public static final int BAD = -1, NO = -2, FULL = -3, NONE = -4;

    private static final int MOST_LETTERS = 200;
    private static final int MOST_BEASTS = 8;
    private static final int MOST_CURRENTS = 4;
    private static final int MOST_RAFTS = 2;
    private static final int MOST_CHANGES = 8;
    private static final int MOST_SEEN = 6;
    private static final int MOST_KEPT = 2;
    private static final int MOST_FLOODS = 5;
    private static final int MOST_NUMBERS = 4;
    private static final int LATEST_START = 30;
    private static final int USUAL_WIDTH = 30;
    private static final int WIDEST = 99;
    private static final int HEAVIEST = 9;
    private static final int MINUTES = 200;
    // Greater than every minute, so that who never lands comes behind all who do.
    private static final int NEVER = MINUTES + 1;
    private static final int LIGHT = 1, HELPER = 2, SLEEPER = 3;
    // A raft moves like a beast of a kind of its own, which no text can tell.
    private static final int RAFT = 4;
    private static final int NOBODY_RIDES = 64;
    // More ranks than all beasts can be off together.
    private static final int FARTHER_OFF = MOST_BEASTS * MOST_BEASTS;
    private static final String FIRST_TEXT =
            "b3,1,1,0;b5,8,0,2;b7,6,2,0;b4,3,3,0;b6,4,0,1;b2,2,0,0;w40;c0,1;c8,2;r0,1;a3,4,5;s5;s0;v0,1;v2,1;v1,3;y0,12;y1,30;y2,7;";

    private final char[] letters;
    private int length;
    private final Reader reader;
    private River laid;
    // Texts are read into this one, so that a text that cannot be laid changes nothing.
    private River spare;
    private final Race race;
    private final Changes changes;
    private final Kept kept;
    private final Sightings sightings;
    private final Bridge spans;
    private final Giving giving;

    public CrossedFirst() {
        letters = new char[MOST_LETTERS];
        length = 0;
        reader = new Reader();
        laid = firstRiver();
        spare = new River();
        race = new Race(laid);
        changes = new Changes();
        kept = new Kept();
        sightings = new Sightings();
        spans = new Bridge();
        giving = new Giving();
    }

    // ---- rivers

    public int write(int letter) {
        if (!within(letter, 32, 126)) {
            return BAD;
        }
        if (length < 0 || length >= MOST_LETTERS) {
            return FULL;
        }
        letters[length] = (char) letter;
        length++;
        return length;
    }

    public int wipe() {
        int was = length;
        length = 0;
        return was;
    }

    public int fault() {
        return reader.readText(letters, length, spare);
    }

    public int lay() {
        if (reader.readText(letters, length, spare) != NONE || !spare.canBeLaid()) {
            return NO;
        }
        spare.settle();
        River before = laid;
        laid = spare;
        spare = before;
        changes.clear();
        kept.clear();
        sightings.clear();
        return laid.beasts;
    }

    public int beast(int i, int what) {
        if (!laid.has(i)) {
            return BAD;
        }
        switch (what) {
            case 0: return laid.strokes[i];
            case 1: return laid.weights[i];
            case 2: return laid.kinds[i];
            case 3: return laid.starts[i];
            case 4: return laid.carriers[i];
            case 5: return laid.rafts[i];
            case 6: return laid.voices[i];
            default: return BAD;
        }
    }

    public int current(int m) {
        return within(m, 1, MINUTES) ? laid.flow[m] : BAD;
    }

    public int where(int i, int m) {
        if (!laid.has(i) || !within(m, 0, MINUTES)) {
            return BAD;
        }
        race.prepare(laid);
        race.mount(i);
        race.moveUntil(m);
        return Math.min(race.far, laid.width);
    }

    public int lands(int i) {
        if (!laid.has(i)) {
            return BAD;
        }
        race.prepare(laid);
        race.mount(i);
        int minute = race.moveUntil(MINUTES);
        return minute == NEVER ? NONE : minute;
    }

    public int rank(int i) {
        if (!laid.has(i)) {
            return BAD;
        }
        raceAsItIs();
        return race.ranks[i];
    }

    public int who(int rank) {
        if (!within(rank, 1, laid.beasts)) {
            return BAD;
        }
        raceAsItIs();
        return race.byRank[rank - 1];
    }

    // ---- changes

    public int start(int i, int t) {
        if (!laid.has(i) || !within(t, 0, LATEST_START)) {
            return BAD;
        }
        int was = laid.starts[i];
        changes.note(laid, i);
        laid.starts[i] = t;
        return was;
    }

    public int ride(int i, int j) {
        if (!laid.has(i) || !laid.has(j) || i == j) {
            return BAD;
        }
        if (laid.rafts[i] != NONE || laid.isRidden(i) || laid.carriers[j] != NONE) {
            return NO;
        }
        return changeCarrier(i, j);
    }

    public int leave(int i) {
        if (!laid.has(i)) {
            return BAD;
        }
        if (laid.carriers[i] == NONE) {
            return NO;
        }
        return changeCarrier(i, NONE);
    }

    public int undo() {
        return changes.takeBack(laid) ? changes.size : NO;
    }

    // ---- what would be

    public int late(int i) {
        if (!laid.has(i)) {
            return BAD;
        }
        raceAsItIs();
        int now = race.ranks[i];
        // The start that it has keeps the rank, so nothing below that needs a look.
        for (int t = LATEST_START; t > laid.starts[i]; t--) {
            race.starts[i] = t;
            race.run();
            if (race.ranks[i] <= now) {
                return t;
            }
        }
        return laid.starts[i];
    }

    public int back(int i, int what) {
        if (!laid.has(i) || !within(what, 0, 1)) {
            return BAD;
        }
        if (laid.isRidden(i) || laid.rafts[i] != NONE) {
            return NO;
        }
        race.prepare(laid);
        int best = NONE;
        int bestRank = rankRidingOn(i, NONE);
        for (int j = 0; j < laid.beasts; j++) {
            if (j != i && laid.carriers[j] == NONE) {
                int reached = rankRidingOn(i, j);
                if (reached < bestRank) {
                    best = j;
                    bestRank = reached;
                }
            }
        }
        return what == 0 ? best : bestRank;
    }

    public int twos() {
        int pairs = 0;
        // Who bears a heavy one bears the lighter ones too: with the heaviest first, it does not
        // matter on whom each rides, only whether one is left.
        for (int weight = HEAVIEST; weight >= 1; weight--) {
            pairs = Math.min(pairs + lightOnes(weight), bearersOf(weight));
        }
        return pairs;
    }

    public int bridge(int i) {
        if (i != -1 && !laid.has(i)) {
            return BAD;
        }
        race.prepare(laid);
        spans.span(race, laid);
        return i == -1 ? spans.firstBits() : spans.widthsOf(i);
    }

    // ---- ranks

    public int calm(int what) {
        if (!within(what, 0, 1)) {
            return BAD;
        }
        raceAsItIs();
        int many = 0;
        int earliest = NONE;
        for (int i = 0; i < laid.beasts; i++) {
            for (int j = i + 1; j < laid.beasts; j++) {
                if (wouldRather(i, j) && wouldRather(j, i)) {
                    many++;
                    if (earliest == NONE) {
                        earliest = 8 * i + j;
                    }
                }
            }
        }
        return what == 0 ? many : earliest;
    }

    public int order(int rank) {
        if (!within(rank, 0, laid.beasts)) {
            return BAD;
        }
        giving.weigh(laid);
        return rank == 0 ? giving.least[0] : giving.holder(laid, rank);
    }

    public int harvest(int n) {
        if (!within(n, 1, 99) || laid.beasts < 1) {
            return BAD;
        }
        raceAsItIs();
        int sum = 0;
        for (int year = 0; year < n; year++) {
            sum += laid.harvests[race.byRank[year % laid.beasts]];
        }
        return sum;
    }

    // ---- floods, riders

    public int odds(int i, int n, int x, int part) {
        if (!laid.has(i) || !within(n, 0, MOST_FLOODS) || !within(x, 0, 10)
                || !within(part, 0, 1)) {
            return BAD;
        }
        int below = 1;
        for (int k = 0; k < n; k++) {
            below *= 10;
        }
        int above = chancesOfFirst(i, n, x);
        int shared = commonDivisor(above, below);
        if (shared < 1) {
            return BAD;
        }
        return (part == 0 ? above : below) / shared;
    }

    public int seen(int i, int rank) {
        if (!laid.has(i) || !within(rank, 1, laid.beasts)) {
            return BAD;
        }
        return sightings.add(i, rank) ? sightings.size : FULL;
    }

    public int forget() {
        int were = sightings.size;
        sightings.clear();
        return were;
    }

    public int rides(int what) {
        if (!within(what, 0, 1)) {
            return BAD;
        }
        race.prepare(laid);
        race.unseatAll();
        int many = 0;
        int earliest = NONE;
        for (int i = 0; i < laid.beasts; i++) {
            for (int j = 0; j < laid.beasts; j++) {
                if (i != j && laid.rafts[i] == NONE && explains(i, j)) {
                    many++;
                    if (earliest == NONE) {
                        earliest = 8 * i + j;
                    }
                }
            }
        }
        race.run();
        if (sightings.agreeWith(race)) {
            many++;
            if (earliest == NONE) {
                earliest = NOBODY_RIDES;
            }
        }
        return what == 0 ? many : earliest;
    }

    public int river(int z, int what) {
        if (!within(z, 0, 9999) || !within(what, 0, 1)) {
            return BAD;
        }
        race.prepare(laid);
        race.drawFlow(z);
        race.run();
        return what == 0 ? race.byRank[0] : race.lastLanding();
    }

    // ---- kept

    public int keep() {
        return kept.push(laid) ? kept.size : FULL;
    }

    public int restore() {
        if (!kept.pop(laid)) {
            return NO;
        }
        changes.clear();
        return kept.size;
    }

    public int count(int what) {
        switch (what) {
            case 0: return laid.beasts;
            case 1: return laid.width;
            case 2: return laid.currents;
            case 3: return laid.raftsTold;
            case 4: return laid.riders();
            case 5: return sightings.size;
            case 6: return changes.size;
            case 7: return kept.size;
            case 8: return length;
            default: return BAD;
        }
    }

    private static River firstRiver() {
        River first = new River();
        char[] text = FIRST_TEXT.toCharArray();
        new Reader().readText(text, text.length, first);
        first.settle();
        return first;
    }

    private static boolean within(int number, int low, int high) {
        return number >= low && number <= high;
    }

    private static int commonDivisor(int a, int b) {
        int large = a;
        int small = b;
        for (int k = 0; k < 64 && small != 0; k++) {
            int left = large % small;
            large = small;
            small = left;
        }
        return large;
    }

    private void raceAsItIs() {
        race.prepare(laid);
        race.run();
    }

    private int changeCarrier(int i, int j) {
        int was = laid.carriers[i];
        changes.note(laid, i);
        laid.carriers[i] = j;
        return was;
    }

    private int rankRidingOn(int i, int j) {
        race.carriers[i] = j;
        race.run();
        return race.ranks[i];
    }

    private int lightOnes(int weight) {
        int many = 0;
        for (int i = 0; i < laid.beasts; i++) {
            many += laid.rafts[i] == NONE && laid.kinds[i] == LIGHT
                    && laid.weights[i] == weight ? 1 : 0;
        }
        return many;
    }

    private int bearersOf(int weight) {
        int many = 0;
        for (int i = 0; i < laid.beasts; i++) {
            many += laid.rafts[i] == NONE && laid.kinds[i] != LIGHT
                    && laid.weights[i] > weight ? 1 : 0;
        }
        return many;
    }

    private boolean wouldRather(int i, int j) {
        int wanted = laid.wants[i];
        return wanted != NONE
                && Math.abs(race.ranks[j] - wanted) < Math.abs(race.ranks[i] - wanted);
    }

    private int chancesOfFirst(int i, int n, int x) {
        race.prepare(laid);
        int sum = 0;
        for (int floods = 0; floods < 1 << n; floods++) {
            int chance = 1;
            for (int k = 0; k < n; k++) {
                chance *= (floods >> k & 1) == 1 ? x : 10 - x;
            }
            if (chance > 0) {
                race.floods = floods;
                race.run();
                sum += race.byRank[0] == i ? chance : 0;
            }
        }
        return sum;
    }

    private boolean explains(int i, int j) {
        race.carriers[i] = j;
        race.run();
        race.carriers[i] = NONE;
        return sightings.agreeWith(race);
    }

    /** What a text tells of a river, with the starts and rides as they are changed later. */
    private static final class River {
        final int[] strokes = new int[MOST_BEASTS];
        final int[] weights = new int[MOST_BEASTS];
        final int[] kinds = new int[MOST_BEASTS];
        final int[] starts = new int[MOST_BEASTS];
        final int[] carriers = new int[MOST_BEASTS];
        final int[] rafts = new int[MOST_BEASTS];
        final int[] voices = new int[MOST_BEASTS];
        final int[] wants = new int[MOST_BEASTS];
        final int[] harvests = new int[MOST_BEASTS];
        final int[] currentsFrom = new int[MOST_CURRENTS];
        final int[] currentsTake = new int[MOST_CURRENTS];
        final int[] flow = new int[MINUTES + 1];
        int beasts = 0;
        int width = USUAL_WIDTH;
        int currents = 0;
        int raftsTold = 0;
        int voicesTold = 0;
        boolean sharedByRafts = false;

        void clear() {
            beasts = 0;
            width = USUAL_WIDTH;
            currents = 0;
            raftsTold = 0;
            voicesTold = 0;
            sharedByRafts = false;
        }

        boolean has(int i) {
            return i >= 0 && i < beasts;
        }

        boolean addBeast(int yards, int weight, int kind, int begin) {
            if (beasts >= MOST_BEASTS || !within(yards, 1, 9) || !within(weight, 1, HEAVIEST)
                    || !within(kind, 0, 3) || !within(begin, 0, LATEST_START)) {
                return false;
            }
            strokes[beasts] = yards;
            weights[beasts] = weight;
            kinds[beasts] = kind;
            starts[beasts] = begin;
            carriers[beasts] = NONE;
            rafts[beasts] = NONE;
            voices[beasts] = NONE;
            wants[beasts] = NONE;
            harvests[beasts] = 0;
            beasts++;
            return true;
        }

        boolean setWidth(int yards) {
            if (!within(yards, 1, WIDEST)) {
                return false;
            }
            width = yards;
            return true;
        }

        boolean addCurrent(int minute, int yards) {
            if (currents >= MOST_CURRENTS || !within(minute, 0, 99) || !within(yards, 0, 5)) {
                return false;
            }
            currentsFrom[currents] = minute;
            currentsTake[currents] = yards;
            currents++;
            return true;
        }

        boolean setCarrier(int i, int j) {
            if (!has(i) || !has(j) || i == j) {
                return false;
            }
            carriers[i] = j;
            return true;
        }

        boolean addRaft(int i, int j, int k) {
            if (raftsTold >= MOST_RAFTS || !has(i) || !has(j) || !has(k)
                    || i == j || i == k || j == k) {
                return false;
            }
            putOnRaft(i);
            putOnRaft(j);
            putOnRaft(k);
            raftsTold++;
            return true;
        }

        private void putOnRaft(int i) {
            if (rafts[i] != NONE) {
                sharedByRafts = true;
            }
            rafts[i] = raftsTold;
        }

        boolean addVoice(int i) {
            if (!has(i)) {
                return false;
            }
            if (voices[i] == NONE) {
                voices[i] = voicesTold;
                voicesTold++;
            }
            return true;
        }

        boolean setWant(int i, int wanted) {
            if (!has(i) || !within(wanted, 1, MOST_BEASTS)) {
                return false;
            }
            wants[i] = wanted;
            return true;
        }

        boolean setHarvest(int i, int brought) {
            if (!has(i) || !within(brought, 0, 99)) {
                return false;
            }
            harvests[i] = brought;
            return true;
        }

        boolean canBeLaid() {
            if (beasts < 1 || sharedByRafts) {
                return false;
            }
            for (int i = 0; i < beasts; i++) {
                int j = carriers[i];
                if (j != NONE && (rafts[i] != NONE || !has(j) || carriers[j] != NONE)) {
                    return false;
                }
            }
            return true;
        }

        void settle() {
            for (int i = 0; i < beasts; i++) {
                addVoice(i);
            }
            for (int m = 0; m <= MINUTES; m++) {
                flow[m] = takenFrom(m);
            }
        }

        private int takenFrom(int m) {
            int begun = -1;
            int yards = 0;
            for (int k = 0; k < currents; k++) {
                if (currentsFrom[k] <= m && currentsFrom[k] >= begun) {
                    begun = currentsFrom[k];
                    yards = currentsTake[k];
                }
            }
            return yards;
        }

        boolean isRidden(int j) {
            for (int i = 0; i < beasts; i++) {
                if (carriers[i] == j) {
                    return true;
                }
            }
            return false;
        }

        int riders() {
            int many = 0;
            for (int i = 0; i < beasts; i++) {
                many += carriers[i] == NONE ? 0 : 1;
            }
            return many;
        }
    }

    /** Reads a text, item by item, into a river. */
    private static final class Reader {
        private final int[] numbers = new int[MOST_NUMBERS];
        private int behind = 0;

        int readText(char[] text, int length, River into) {
            into.clear();
            int at = 0;
            for (int items = 0; items < MOST_LETTERS && at < length; items++) {
                if (!readItem(text, length, at) || !tell(text[at], into)) {
                    return at;
                }
                at = behind;
            }
            return NONE;
        }

        private boolean readItem(char[] text, int length, int at) {
            int many = numbersBehind(text[at]);
            behind = at + 1;
            for (int k = 0; k < many; k++) {
                if (!readNumber(text, length, k)) {
                    return false;
                }
                char close = k == many - 1 ? ';' : ',';
                if (behind >= length || text[behind] != close) {
                    return false;
                }
                behind++;
            }
            return many > 0;
        }

        private boolean readNumber(char[] text, int length, int k) {
            int value = 0;
            int figures = 0;
            while (figures < 2 && behind < length && within(text[behind], '0', '9')) {
                value = 10 * value + text[behind] - '0';
                figures++;
                behind++;
            }
            numbers[k] = value;
            return figures > 0;
        }

        private static int numbersBehind(int letter) {
            switch (letter) {
                case 'b': return 4;
                case 'a': return 3;
                case 'c':
                case 'r':
                case 'v':
                case 'y': return 2;
                case 'w':
                case 's': return 1;
                default: return 0;
            }
        }

        private boolean tell(int letter, River into) {
            switch (letter) {
                case 'b': return into.addBeast(numbers[0], numbers[1], numbers[2], numbers[3]);
                case 'w': return into.setWidth(numbers[0]);
                case 'c': return into.addCurrent(numbers[0], numbers[1]);
                case 'r': return into.setCarrier(numbers[0], numbers[1]);
                case 'a': return into.addRaft(numbers[0], numbers[1], numbers[2]);
                case 's': return into.addVoice(numbers[0]);
                case 'v': return into.setWant(numbers[0], numbers[1]);
                case 'y': return into.setHarvest(numbers[0], numbers[1]);
                default: return false;
            }
        }
    }

    /** One crossing. It has its own starts and rides, so that what would be can be tried. */
    private static final class Race {
        final int[] starts = new int[MOST_BEASTS];
        final int[] carriers = new int[MOST_BEASTS];
        final int[] landings = new int[MOST_BEASTS];
        final int[] ranks = new int[MOST_BEASTS];
        final int[] byRank = new int[MOST_BEASTS];
        private final int[] drawn = new int[MINUTES + 1];
        private River over;
        private int[] flow;
        private int width;
        // Bit 0 is minute 1.
        int floods;
        private int helpFrom;
        // Of who is moved just now: a beast or a raft.
        private int pull;
        private int kind;
        int from;
        int far;

        Race(River river) {
            over = river;
            flow = river.flow;
            width = river.width;
        }

        void prepare(River river) {
            over = river;
            flow = river.flow;
            width = river.width;
            floods = 0;
            System.arraycopy(river.starts, 0, starts, 0, MOST_BEASTS);
            System.arraycopy(river.carriers, 0, carriers, 0, MOST_BEASTS);
        }

        void unseatAll() {
            for (int i = 0; i < MOST_BEASTS; i++) {
                carriers[i] = NONE;
            }
        }

        void drawFlow(int z) {
            for (int m = 1; m <= MINUTES; m++) {
                long x = 7919L * z + 6151L * m + 1L;
                drawn[m] = (int) (x * x % 65521L % 6L);
            }
            flow = drawn;
        }

        void run() {
            for (int i = 0; i < over.beasts; i++) {
                mount(i);
                landings[i] = moveUntil(MINUTES);
            }
            for (int i = 0; i < over.beasts; i++) {
                int ahead = 0;
                for (int j = 0; j < over.beasts; j++) {
                    ahead += j != i && isAhead(j, i) ? 1 : 0;
                }
                ranks[i] = ahead + 1;
                byRank[ahead] = i;
            }
        }

        void mount(int i) {
            int mover = over.has(carriers[i]) ? carriers[i] : i;
            if (over.rafts[mover] == NONE) {
                mountBeast(mover);
            } else {
                mountRaft(over.rafts[mover]);
            }
            helpFrom = earliestHelp();
        }

        private void mountBeast(int i) {
            int load = 0;
            for (int j = 0; j < over.beasts; j++) {
                load += carriers[j] == i ? over.weights[j] : 0;
            }
            pull = over.strokes[i] - load / 3;
            kind = over.kinds[i];
            from = kind == SLEEPER ? starts[i] + 3 : starts[i];
        }

        private void mountRaft(int raft) {
            int sum = 0;
            from = 0;
            for (int i = 0; i < over.beasts; i++) {
                if (over.rafts[i] == raft) {
                    sum += over.strokes[i];
                    from = Math.max(from, starts[i]);
                }
            }
            pull = sum / 3;
            kind = RAFT;
        }

        private int earliestHelp() {
            int earliest = NEVER;
            for (int i = 0; i < over.beasts; i++) {
                if (over.kinds[i] == HELPER) {
                    earliest = Math.min(earliest, starts[i]);
                }
            }
            return earliest;
        }

        int moveUntil(int last) {
            far = 0;
            for (int m = from + 1; m <= last; m++) {
                far += yardsIn(m);
                if (far >= width) {
                    return m;
                }
            }
            return NEVER;
        }

        int yardsIn(int m) {
            boolean flooded = m <= MOST_FLOODS && (floods >> m - 1 & 1) == 1;
            if (flooded || kind == HELPER && m % 5 == 0) {
                return 0;
            }
            return Math.max(1, pull - takenIn(m));
        }

        private int takenIn(int m) {
            if (!within(m, 1, MINUTES)) {
                return 0;
            }
            if (kind == RAFT || kind == HELPER) {
                return flow[m];
            }
            if (m > 5 && m % 5 == 1 && helpFrom < m) {
                return 0;
            }
            return kind == LIGHT ? Math.max(0, flow[m] - 1) : flow[m];
        }

        private boolean isAhead(int i, int j) {
            int first = leader(i);
            int second = leader(j);
            if (first == second) {
                return j == second || i != first && over.voices[i] < over.voices[j];
            }
            if (landings[first] != landings[second]) {
                return landings[first] < landings[second];
            }
            return over.voices[first] < over.voices[second];
        }

        // By whose landing and voice the place among the others goes.
        private int leader(int i) {
            boolean follows = over.has(carriers[i]) && landings[i] != NEVER;
            return follows ? carriers[i] : i;
        }

        int firstRiderOrSelf(int i) {
            int found = i;
            for (int j = 0; j < over.beasts; j++) {
                if (carriers[j] == i && (found == i || over.voices[j] < over.voices[found])) {
                    found = j;
                }
            }
            return found;
        }

        int lastLanding() {
            int last = 0;
            for (int i = 0; i < over.beasts; i++) {
                if (landings[i] != NEVER) {
                    last = Math.max(last, landings[i]);
                }
            }
            return last;
        }
    }

    /** Who is first over rivers of all widths, by one crossing of the widest. */
    private static final class Bridge {
        private final int[] minutes = new int[WIDEST + 1];
        private final int[] firsts = new int[WIDEST + 1];

        void span(Race race, River river) {
            for (int w = 0; w <= WIDEST; w++) {
                minutes[w] = NEVER;
                firsts[w] = NONE;
            }
            for (int i = 0; i < river.beasts; i++) {
                if (race.carriers[i] == NONE) {
                    crossWidest(race, river, i);
                }
            }
            for (int w = 1; w <= WIDEST; w++) {
                if (firsts[w] != NONE) {
                    firsts[w] = race.firstRiderOrSelf(firsts[w]);
                }
            }
        }

        private void crossWidest(Race race, River river, int i) {
            race.mount(i);
            int far = 0;
            for (int m = race.from + 1; m <= MINUTES && far < WIDEST; m++) {
                int before = far;
                far = Math.min(WIDEST, far + race.yardsIn(m));
                for (int w = before + 1; w <= far; w++) {
                    offer(river, w, m, i);
                }
            }
        }

        private void offer(River river, int w, int m, int i) {
            boolean earlier = m < minutes[w];
            boolean louder = m == minutes[w] && river.has(firsts[w])
                    && river.voices[i] < river.voices[firsts[w]];
            if (earlier || louder) {
                minutes[w] = m;
                firsts[w] = i;
            }
        }

        int firstBits() {
            int bits = 0;
            for (int w = 1; w <= WIDEST; w++) {
                bits |= firsts[w] < 0 ? 0 : 1 << firsts[w];
            }
            return bits;
        }

        int widthsOf(int i) {
            int many = 0;
            for (int w = 1; w <= WIDEST; w++) {
                many += firsts[w] == i ? 1 : 0;
            }
            return many;
        }
    }

    /** The ranks as all want them. */
    private static final class Giving {
        // By the beasts (bits) that have ranks already, the lowest ones: how far off the
        // others are at least, together.
        final int[] least = new int[1 << MOST_BEASTS];

        void weigh(River river) {
            int all = (1 << river.beasts) - 1;
            least[all] = 0;
            for (int given = all - 1; given >= 0; given--) {
                int rank = Integer.bitCount(given) + 1;
                int best = FARTHER_OFF;
                for (int i = 0; i < river.beasts; i++) {
                    if ((given & 1 << i) == 0) {
                        best = Math.min(best, off(river, i, rank) + least[given | 1 << i]);
                    }
                }
                least[given] = best;
            }
        }

        int holder(River river, int rank) {
            int given = 0;
            int found = NONE;
            for (int r = 1; r <= rank; r++) {
                found = lowestFitting(river, given, r);
                if (found == NONE) {
                    return NONE;
                }
                given |= 1 << found;
            }
            return found;
        }

        private int lowestFitting(River river, int given, int rank) {
            for (int i = 0; i < river.beasts; i++) {
                if ((given & 1 << i) == 0
                        && off(river, i, rank) + least[given | 1 << i] == least[given]) {
                    return i;
                }
            }
            return NONE;
        }

        private static int off(River river, int i, int rank) {
            return river.wants[i] == NONE ? 0 : Math.abs(river.wants[i] - rank);
        }
    }

    /** What a start and a ride were ahead of the latest changes, the oldest first. */
    private static final class Changes {
        private final int[] changed = new int[MOST_CHANGES];
        private final int[] startsWere = new int[MOST_CHANGES];
        private final int[] carriersWere = new int[MOST_CHANGES];
        int size = 0;

        void clear() {
            size = 0;
        }

        void note(River river, int i) {
            if (size >= MOST_CHANGES) {
                dropOldest();
            }
            changed[size] = i;
            startsWere[size] = river.starts[i];
            carriersWere[size] = river.carriers[i];
            size++;
        }

        private void dropOldest() {
            size = MOST_CHANGES - 1;
            System.arraycopy(changed, 1, changed, 0, size);
            System.arraycopy(startsWere, 1, startsWere, 0, size);
            System.arraycopy(carriersWere, 1, carriersWere, 0, size);
        }

        boolean takeBack(River river) {
            if (size < 1 || !river.has(changed[size - 1])) {
                return false;
            }
            size--;
            river.starts[changed[size]] = startsWere[size];
            river.carriers[changed[size]] = carriersWere[size];
            return true;
        }
    }

    /** Starts and rides that were kept. */
    private static final class Kept {
        private final int[] starts = new int[MOST_KEPT * MOST_BEASTS];
        private final int[] carriers = new int[MOST_KEPT * MOST_BEASTS];
        int size = 0;

        void clear() {
            size = 0;
        }

        boolean push(River river) {
            if (size >= MOST_KEPT) {
                return false;
            }
            System.arraycopy(river.starts, 0, starts, size * MOST_BEASTS, MOST_BEASTS);
            System.arraycopy(river.carriers, 0, carriers, size * MOST_BEASTS, MOST_BEASTS);
            size++;
            return true;
        }

        boolean pop(River river) {
            if (size < 1) {
                return false;
            }
            size--;
            System.arraycopy(starts, size * MOST_BEASTS, river.starts, 0, MOST_BEASTS);
            System.arraycopy(carriers, size * MOST_BEASTS, river.carriers, 0, MOST_BEASTS);
            return true;
        }
    }

    /** Ranks that beasts were seen to have. */
    private static final class Sightings {
        private final int[] sighted = new int[MOST_SEEN];
        private final int[] ranks = new int[MOST_SEEN];
        int size = 0;

        void clear() {
            size = 0;
        }

        boolean add(int i, int rank) {
            if (size >= MOST_SEEN) {
                return false;
            }
            sighted[size] = i;
            ranks[size] = rank;
            size++;
            return true;
        }

        boolean agreeWith(Race race) {
            for (int k = 0; k < size; k++) {
                if (race.ranks[sighted[k]] != ranks[k]) {
                    return false;
                }
            }
            return true;
        }
    }
}

import java.util.Arrays;

/**
 * Cities, nights, trials and sightings told as texts, and what follows from them.
 *
 * Inside, a place is a SPOT on a grid of 8 by 8 (8 times row and column), whatever the city's size, and a set of
 * spots is the 64 bits of a long. Spots and the document's CELLS rise in the same order, so that the least spot
 * is the least cell.
 */
public final class CityChords {
    public static final int NONE = -1;

    private static final int NO_SUCH = -2;

    private static final int SIDE = 8;
    private static final int SPOTS = 64;
    private static final long FIRST_COLUMN = 0x0101010101010101L;
    private static final long LAST_COLUMN = 0x8080808080808080L;

    private static final int DIRECTIONS = 4;
    private static final int NO_WIND = 4;

    private static final int MOST_PLAYERS = 6;
    private static final int MOST_PEOPLE = 6;
    private static final int MOST_DEEDS = 40;
    private static final int MOST_SAYINGS = 12;
    private static final int MOST_FACTS = 10;
    private static final int MOST_WITNESSES = 8;
    private static final int MOST_SETS = 256;

    private static final int CITY = 0;
    private static final int NIGHT = 1;
    private static final int TRIAL = 2;
    private static final int SIGHT = 3;
    private static final int SORTS = 4;
    private static final int MOST_OF_A_SORT = 2;

    private static final int TAPE = 600;
    private static final int FEED = 20;
    private static final int IMAGES = 3;

    private static final int[] RANGES = {3, 4, 6, 9};

    private static final int THIEF = 1;
    private static final int CHILD = 2;
    private static final int DEAF = 3;

    private static final int STAND = 0;
    private static final int FREE = 1;
    private static final int TELL = 2;
    private static final int MARCH = 3;
    private static final int COMMANDS = 4;

    private static final int WALK = 4;
    private static final int GO = 5;
    private static final int REST = 6;

    private static final int MINUTES = 12;
    private static final int MOST_DRAWN = 60;

    private final Told told;
    private final Told[] images;
    private final boolean[] taken;
    private final Reader reader;
    private final Sound sound;
    private final Ears ears;
    private final Play play;
    private final Streets streets;
    private final Hunt hunt;
    private final Programme programme;
    private final int[] fitting;

    public CityChords() {
        told = new Told();
        images = new Told[IMAGES];
        for (int k = 0; k < IMAGES; k++) {
            images[k] = new Told();
        }
        taken = new boolean[IMAGES];
        reader = new Reader();
        sound = new Sound();
        ears = new Ears();
        play = new Play();
        streets = new Streets();
        hunt = new Hunt();
        programme = new Programme();
        fitting = new int[MOST_SETS];
    }

    public int feed(int a, int b, int c, int d, int e) {
        if (told.length + FEED > TAPE) {
            return NONE;
        }
        told.write(a);
        told.write(b);
        told.write(c);
        told.write(d);
        told.write(e);
        return told.length;
    }

    public int end(int n) {
        if (n < 0 || n > told.length) {
            return NONE;
        }
        told.length = n;
        return n;
    }

    public int text(int sort, int at) {
        int length = told.length;
        told.length = 0;
        told.fault = 0;
        told.place = NONE;
        int many = told.manyOf(sort);
        boolean further = at == NONE && many < MOST_OF_A_SORT;
        boolean instead = at >= 0 && at < many;
        if (many == NO_SUCH || !further && !instead) {
            return NO_SUCH;
        }
        reader.read(sort, told.tape, length);
        told.fault = reader.fault;
        told.place = reader.place;
        if (told.fault != 0) {
            return NONE;
        }
        int number = further ? many : at;
        told.put(sort, number, reader);
        return number;
    }

    public int fault(int what) {
        switch (what) {
            case 0: return told.fault;
            case 1: return told.place;
            default: return NONE;
        }
    }

    public int city(int city, int what) {
        City town = told.cityAt(city);
        return town == null ? NONE : town.tell(what);
    }

    public int deed(int night, int k, int what) {
        Rows deeds = told.nightAt(night);
        return deeds == null ? NO_SUCH : deeds.tell(k, what);
    }

    public int stop(int city, int night) {
        City town = told.cityAt(city);
        Rows deeds = told.nightAt(night);
        if (town == null || deeds == null) {
            return NONE;
        }
        return play.playNight(town, deeds, deeds.size);
    }

    public int state(int city, int night, int n, int what) {
        City town = told.cityAt(city);
        Rows deeds = told.nightAt(night);
        if (town == null || deeds == null || n < 0 || n > deeds.size) {
            return NO_SUCH;
        }
        if (play.playNight(town, deeds, n) < n) {
            return NO_SUCH;
        }
        return play.tell(town, what);
    }

    public int hears(int city, int player, int cell) {
        City town = told.cityAt(city);
        if (town == null || !town.hasPlayer(player)) {
            return NONE;
        }
        int spot = town.spotOf(cell);
        return spot == NONE ? NONE : sound.cost(town, town.playerSpot[player], spot);
    }

    public int enough(int city) {
        City town = told.cityAt(city);
        if (town == null) {
            return NONE;
        }
        ears.listen(town);
        return ears.fewestPlayers(town);
    }

    public int fresh(int city, int instrument, int n, int what) {
        City town = told.cityAt(city);
        boolean known = instrument >= 0 && instrument < RANGES.length;
        if (town == null || !known || n < 1 || n > 2 || what < 0 || what > n) {
            return NONE;
        }
        if (Long.bitCount(town.open()) < n) {
            return NONE;
        }
        ears.listen(town);
        return ears.bestPlaces(town, RANGES[instrument], n, what);
    }

    public int gather(int city, int player, int a, int b, boolean direction) {
        City town = told.cityAt(city);
        if (town == null || !town.hasPlayer(player) || !town.hasPerson(a) || !town.hasPerson(b) || a == b) {
            return NONE;
        }
        hunt.layWays(town.open(), sound.heard(town, town.playerSpot[player], town.rangeOf(player)));
        return hunt.fewestMarches(town.personSpot[a], town.personSpot[b], direction);
    }

    public int chase(int city, int player, int person) {
        City town = told.cityAt(city);
        if (town == null || !town.hasPlayer(player) || !town.hasPerson(person)) {
            return NONE;
        }
        return hunt.turnsToCatch(town.open(), town.playerSpot[player], town.personSpot[person]);
    }

    public int programme(int city, int n, int k) {
        City town = told.cityAt(city);
        if (town == null || n < 0 || n > MINUTES || k < NO_SUCH || k >= n) {
            return NONE;
        }
        boolean habit = k == NO_SUCH;
        programme.plan(town.value, n, habit);
        return k < 0 ? programme.mostOf(n) : programme.commandAt(town.value, n, k);
    }

    public int part(int city, int column, boolean right) {
        City town = told.cityAt(city);
        if (town == null || column < NONE || column > town.wide) {
            return NONE;
        }
        if (column == NONE) {
            return town.fairestColumn();
        }
        int left = town.peopleLeftOf(column);
        return right ? town.people - left : left;
    }

    public int line(int city) {
        City town = told.cityAt(city);
        return town == null ? NONE : town.longestLine();
    }

    public int trial(int trial, int what) {
        Trial court = told.trialAt(trial);
        return court == null ? NO_SUCH : court.tell(what);
    }

    public int thieves(int trial, int what) {
        Trial court = told.trialAt(trial);
        return court == null ? NO_SUCH : court.judge(what, fitting);
    }

    public int fact(int sight, int k, int what) {
        Rows facts = told.sightAt(sight);
        return facts == null ? NO_SUCH : facts.tell(k, what);
    }

    public int seen(int city, int sight, int what) {
        City town = told.cityAt(city);
        Rows facts = told.sightAt(sight);
        if (town == null || facts == null || !town.holds(facts)) {
            return NO_SUCH;
        }
        ears.listen(town);
        return ears.whoPlayed(town, facts, what);
    }

    public int drawn(int city, int seed, int n, int what) {
        City town = told.cityAt(city);
        if (town == null || n < 0 || n > MOST_DRAWN) {
            return NO_SUCH;
        }
        play.begin(town);
        int x = seed;
        for (int k = 0; k < n; k++) {
            x = play.playOneDrawn(town, x);
        }
        return play.tell(town, what);
    }

    public int steps(int city, int from, int to) {
        City town = told.cityAt(city);
        if (town == null) {
            return NONE;
        }
        return streets.fewestSteps(town.open(), town.spotOf(from), town.spotOf(to));
    }

    public int blocks(int city, boolean largest) {
        City town = told.cityAt(city);
        return town == null ? NONE : streets.parts(town.open(), largest);
    }

    public int cordon(int city, int a, int b) {
        City town = told.cityAt(city);
        if (town == null) {
            return NONE;
        }
        return streets.fewestWalls(town.open(), town.spotOf(a), town.spotOf(b));
    }

    public int square(int city, boolean many) {
        City town = told.cityAt(city);
        if (town == null) {
            return NONE;
        }
        ears.listen(town);
        return ears.loudest(town, many);
    }

    public int silent(int city) {
        City town = told.cityAt(city);
        if (town == null) {
            return NONE;
        }
        ears.listen(town);
        return ears.whoHearsNothing(town);
    }

    public int round(int city, int player) {
        City town = told.cityAt(city);
        if (town == null || !town.hasPlayer(player)) {
            return NONE;
        }
        return streets.shortestVisit(town, town.playerSpot[player]);
    }

    public int count(int sort) {
        return told.manyOf(sort);
    }

    public boolean image(int k) {
        if (k < 0 || k >= IMAGES) {
            return false;
        }
        images[k].take(told);
        taken[k] = true;
        return true;
    }

    public boolean again(int k) {
        if (k < 0 || k >= IMAGES || !taken[k]) {
            return false;
        }
        told.take(images[k]);
        return true;
    }

    private static int spotAt(int column, int row) {
        return SIDE * row + column;
    }

    private static long only(int spot) {
        return 1L << spot;
    }

    private static boolean has(long set, int spot) {
        return spot >= 0 && spot < SPOTS && (set & only(spot)) != 0;
    }

    /** The least spot of a set, NONE of an empty one. */
    private static int leastOf(long set) {
        return set == 0 ? NONE : Long.bitCount((set & -set) - 1);
    }

    /** All spots of a set, one step on in a direction; what leaves the grid is lost. */
    private static long moved(long set, int direction) {
        switch (direction) {
            case 0: return set >>> SIDE;
            case 1: return (set & ~LAST_COLUMN) << 1;
            case 2: return set << SIDE;
            case 3: return (set & ~FIRST_COLUMN) >>> 1;
            default: return 0;
        }
    }

    /** The next spot in a direction, NONE if it is not open. */
    private static int nextSpot(int spot, int direction, long open) {
        return leastOf(moved(only(spot), direction) & open);
    }

    /** A set, and all open spots next to it. */
    private static long grown(long set, long open) {
        long all = set;
        for (int d = 0; d < DIRECTIONS; d++) {
            all |= moved(set, d) & open;
        }
        return all;
    }

    private static int contrary(int direction) {
        return direction ^ 2;
    }

    /** A CITY as told. */
    private static final class City {
        private int wide;
        private int high;
        private int wind;
        private long walls;
        private int players;
        private int people;
        private final int[] instrument = new int[MOST_PLAYERS];
        private final int[] playerSpot = new int[MOST_PLAYERS];
        private final int[] kind = new int[MOST_PEOPLE];
        private final int[] personSpot = new int[MOST_PEOPLE];
        private final int[] value = new int[COMMANDS];

        private void reset() {
            wide = 6;
            high = 6;
            wind = NO_WIND;
            walls = 0;
            players = 0;
            people = 0;
            Arrays.fill(value, 3);
        }

        private void take(City other) {
            wide = other.wide;
            high = other.high;
            wind = other.wind;
            walls = other.walls;
            players = other.players;
            people = other.people;
            System.arraycopy(other.instrument, 0, instrument, 0, MOST_PLAYERS);
            System.arraycopy(other.playerSpot, 0, playerSpot, 0, MOST_PLAYERS);
            System.arraycopy(other.kind, 0, kind, 0, MOST_PEOPLE);
            System.arraycopy(other.personSpot, 0, personSpot, 0, MOST_PEOPLE);
            System.arraycopy(other.value, 0, value, 0, COMMANDS);
        }

        private void addPlayer(int its, int spot) {
            if (players < MOST_PLAYERS) {
                instrument[players] = its;
                playerSpot[players] = spot;
                players++;
            }
        }

        private void addPerson(int its, int spot) {
            if (people < MOST_PEOPLE) {
                kind[people] = its;
                personSpot[people] = spot;
                people++;
            }
        }

        private boolean hasPlayer(int p) {
            return p >= 0 && p < players && p < MOST_PLAYERS;
        }

        private int rangeOf(int player) {
            int its = instrument[player];
            return its >= 0 && its < RANGES.length ? RANGES[its] : 0;
        }

        private boolean hasPerson(int p) {
            return p >= 0 && p < people && p < MOST_PEOPLE;
        }

        private long inside() {
            long row = only(wide) - 1;
            long all = 0;
            for (int r = 0; r < high; r++) {
                all |= row << SIDE * r;
            }
            return all;
        }

        private long open() {
            return inside() & ~walls;
        }

        /** The spots of all PLAYERS and all PEOPLE. */
        private long inhabited() {
            long all = 0;
            for (int p = 0; p < players; p++) {
                all |= only(playerSpot[p]);
            }
            for (int p = 0; p < people; p++) {
                all |= only(personSpot[p]);
            }
            return all;
        }

        /** NONE, if there is no such CELL. */
        private int spotOf(int cell) {
            if (wide < 1 || cell < 0 || cell >= wide * high) {
                return NONE;
            }
            return spotAt(cell % wide, cell / wide);
        }

        private int cellOf(int spot) {
            return wide * (spot / SIDE) + spot % SIDE;
        }

        private boolean holds(Rows facts) {
            long all = inside();
            for (int k = 0; k < facts.size; k++) {
                if (!has(all, facts.spotAtRow(k))) {
                    return false;
                }
            }
            return true;
        }

        private int tell(int what) {
            if (what >= 100) {
                int spot = spotOf(what - 100);
                return spot == NONE ? NONE : has(walls, spot) ? 1 : 0;
            }
            switch (what) {
                case 0: return wide;
                case 1: return high;
                case 2: return wind;
                case 3: return players;
                case 4: return people;
                default: return what < 10 ? NONE : tellOne(what / 10, what % 10);
            }
        }

        private int tellOne(int group, int k) {
            switch (group) {
                case 1: return k < COMMANDS ? value[k] : NONE;
                case 2: return hasPlayer(k) ? instrument[k] : NONE;
                case 3: return hasPlayer(k) ? cellOf(playerSpot[k]) : NONE;
                case 4: return hasPerson(k) ? kind[k] : NONE;
                case 5: return hasPerson(k) ? cellOf(personSpot[k]) : NONE;
                default: return NONE;
            }
        }

        private int peopleLeftOf(int column) {
            int left = 0;
            for (int p = 0; p < people; p++) {
                if (personSpot[p] % SIDE < column) {
                    left++;
                }
            }
            return left;
        }

        private int fairestColumn() {
            int best = 0;
            int least = people + 1;
            for (int column = 0; column <= wide; column++) {
                int apart = Math.abs(people - 2 * peopleLeftOf(column));
                if (apart < least) {
                    least = apart;
                    best = column;
                }
            }
            return best;
        }

        private int longestLine() {
            int most = 0;
            for (int k = 0; k < SIDE; k++) {
                int inRow = 0;
                int inColumn = 0;
                for (int p = 0; p < people; p++) {
                    inRow += personSpot[p] / SIDE == k ? 1 : 0;
                    inColumn += personSpot[p] % SIDE == k ? 1 : 0;
                }
                most = Math.max(most, Math.max(inRow, inColumn));
            }
            return most;
        }
    }

    /** Lines of a text that are further ones: the DEEDS of a NIGHT, a TRIAL's SAYINGS, a SIGHT's FACTS. */
    private static final class Rows {
        private final int[] kind = new int[MOST_DEEDS];
        private final int[] first = new int[MOST_DEEDS];
        private final int[] second = new int[MOST_DEEDS];
        private int size;

        private void take(Rows other) {
            size = other.size;
            System.arraycopy(other.kind, 0, kind, 0, MOST_DEEDS);
            System.arraycopy(other.first, 0, first, 0, MOST_DEEDS);
            System.arraycopy(other.second, 0, second, 0, MOST_DEEDS);
        }

        private void add(int its, int a, int b) {
            if (size < MOST_DEEDS) {
                kind[size] = its;
                first[size] = a;
                second[size] = b;
                size++;
            }
        }

        /** Of a FACT: its column and its row are its numbers. */
        private int spotAtRow(int k) {
            return spotAt(first[k], second[k]);
        }

        private int tell(int k, int what) {
            if (k == NONE) {
                return what == 0 ? size : NO_SUCH;
            }
            if (k < 0 || k >= size) {
                return NO_SUCH;
            }
            switch (what) {
                case 0: return kind[k];
                case 1: return first[k];
                case 2: return second[k];
                default: return NO_SUCH;
            }
        }
    }

    /** A TRIAL as told, and who may be a THIEF by it. */
    private static final class Trial {
        private int witnesses;
        private int thieves;
        private final Rows sayings = new Rows();

        private void reset() {
            witnesses = 4;
            thieves = NONE;
            sayings.size = 0;
        }

        private void take(Trial other) {
            witnesses = other.witnesses;
            thieves = other.thieves;
            sayings.take(other.sayings);
        }

        private int tell(int what) {
            switch (what) {
                case 0: return witnesses;
                case 1: return thieves;
                case 2: return sayings.size;
                default: break;
            }
            if (what < 10 || what >= 70) {
                return NO_SUCH;
            }
            int group = (what - 10) / 20;
            return sayings.tell((what - 10) % 20, group);
        }

        private boolean namesOneWhoIsNotThere() {
            for (int k = 0; k < sayings.size; k++) {
                if (sayings.first[k] >= witnesses || sayings.second[k] >= witnesses) {
                    return true;
                }
            }
            return false;
        }

        private boolean isAsMany(int set) {
            return thieves == NONE || Integer.bitCount(set) == thieves;
        }

        /** How many SAYINGS of a THIEF are so and of another one are not. */
        private int wrongSayings(int set) {
            int wrong = 0;
            for (int k = 0; k < sayings.size; k++) {
                int lies = set >> sayings.first[k] & 1;
                int guilty = set >> sayings.second[k] & 1;
                int isSo = guilty == sayings.kind[k] ? 1 : 0;
                wrong += isSo == lies ? 1 : 0;
            }
            return wrong;
        }

        private int findFitting(int[] fitting) {
            int many = 0;
            for (int set = 0; set < 1 << witnesses; set++) {
                if (isAsMany(set) && wrongSayings(set) == 0 && many < fitting.length) {
                    fitting[many] = set;
                    many++;
                }
            }
            return many;
        }

        private int judge(int what, int[] fitting) {
            if (what == 4 || what == 5) {
                return leastBroken(what == 5);
            }
            int many = findFitting(fitting);
            switch (what) {
                case 0: return many;
                case 1: return many == 0 ? NONE : inAll(fitting, many);
                case 2: return many == 0 ? NONE : inNone(fitting, many);
                case 3: return many == 0 ? NONE : bestQuestion(fitting, many);
                default: break;
            }
            return what >= 10 && what - 10 < many ? fitting[what - 10] : NO_SUCH;
        }

        private int inAll(int[] fitting, int many) {
            int all = (1 << witnesses) - 1;
            for (int k = 0; k < many; k++) {
                all &= fitting[k];
            }
            return all;
        }

        private int inNone(int[] fitting, int many) {
            int none = (1 << witnesses) - 1;
            for (int k = 0; k < many; k++) {
                none &= ~fitting[k];
            }
            return none;
        }

        private int bestQuestion(int[] fitting, int many) {
            int best = NONE;
            int least = many + 1;
            for (int witness = 0; witness < witnesses; witness++) {
                for (int whom = 0; whom < witnesses; whom++) {
                    int says = saidBy(fitting, many, witness, whom);
                    int greater = Math.max(says, many - says);
                    if (greater < least) {
                        least = greater;
                        best = MOST_WITNESSES * witness + whom;
                    }
                }
            }
            return best;
        }

        /** By how many sets the one would say that the other is a THIEF: a THIEF says so of those who are none. */
        private static int saidBy(int[] fitting, int many, int witness, int whom) {
            int says = 0;
            for (int k = 0; k < many; k++) {
                says += (fitting[k] >> witness ^ fitting[k] >> whom) & 1;
            }
            return says;
        }

        private int leastBroken(boolean theSet) {
            int best = NONE;
            int least = NONE;
            for (int set = 0; set < 1 << witnesses; set++) {
                if (isAsMany(set)) {
                    int wrong = wrongSayings(set);
                    if (least == NONE || wrong < least) {
                        least = wrong;
                        best = set;
                    }
                }
            }
            return theSet ? best : least;
        }
    }

    /** All that is told: the tape, the FAULT, the texts taken. An image is another one of these. */
    private static final class Told {
        private final byte[] tape = new byte[TAPE];
        private int length;
        private int fault;
        private int place = NONE;
        private final int[] many = new int[SORTS];
        private final City[] cities = new City[MOST_OF_A_SORT];
        private final Rows[] nights = new Rows[MOST_OF_A_SORT];
        private final Trial[] trials = new Trial[MOST_OF_A_SORT];
        private final Rows[] sights = new Rows[MOST_OF_A_SORT];

        private Told() {
            for (int k = 0; k < MOST_OF_A_SORT; k++) {
                cities[k] = new City();
                nights[k] = new Rows();
                trials[k] = new Trial();
                sights[k] = new Rows();
            }
        }

        private void take(Told other) {
            System.arraycopy(other.tape, 0, tape, 0, TAPE);
            length = other.length;
            fault = other.fault;
            place = other.place;
            System.arraycopy(other.many, 0, many, 0, SORTS);
            for (int k = 0; k < MOST_OF_A_SORT; k++) {
                cities[k].take(other.cities[k]);
                nights[k].take(other.nights[k]);
                trials[k].take(other.trials[k]);
                sights[k].take(other.sights[k]);
            }
        }

        private void write(int number) {
            for (int shift = 24; shift >= 0 && length < TAPE; shift -= 8) {
                tape[length] = (byte) (number >>> shift);
                length++;
            }
        }

        private int manyOf(int sort) {
            return sort >= 0 && sort < SORTS ? many[sort] : NO_SUCH;
        }

        private boolean hasOne(int sort, int k) {
            return k >= 0 && k < many[sort] && k < MOST_OF_A_SORT;
        }

        private City cityAt(int k) {
            return hasOne(CITY, k) ? cities[k] : null;
        }

        private Rows nightAt(int k) {
            return hasOne(NIGHT, k) ? nights[k] : null;
        }

        private Trial trialAt(int k) {
            return hasOne(TRIAL, k) ? trials[k] : null;
        }

        private Rows sightAt(int k) {
            return hasOne(SIGHT, k) ? sights[k] : null;
        }

        private void put(int sort, int at, Reader reader) {
            if (sort < 0 || sort >= SORTS || at < 0 || at >= MOST_OF_A_SORT) {
                return;
            }
            switch (sort) {
                case CITY: cities[at].take(reader.city); break;
                case NIGHT: nights[at].take(reader.rows); break;
                case TRIAL: trials[at].take(reader.trial); break;
                default: sights[at].take(reader.rows); break;
            }
            many[sort] = Math.max(many[sort], at + 1);
        }
    }

    /** Reads a text off the tape into a draft, token by token, and keeps the FAULT that is to be told. */
    private static final class Reader {
        private static final int THE_END = 0;
        private static final int WORD = 1;
        private static final int NUMBER = 2;
        private static final int SEMICOLON = 3;
        private static final int NO_TOKEN = 4;

        private static final int STUCK = 1;
        private static final int BAD_NUMBER = 2;
        private static final int TOO_MANY = 3;
        private static final int NOT_THERE = 4;
        private static final int IN_A_WALL = 5;

        private static final String CITY_WORDS =
            "fiddle flute drum horn citizen thief child deaf wall size wind value ";
        private static final int FIRST_KIND = 4;
        private static final int WALL = 8;
        private static final int SIZE = 9;
        private static final int WIND = 10;
        private static final int VALUE = 11;
        private static final String COMMAND_WORDS = "stand free tell march ";
        private static final String NIGHT_WORDS = "stand free tell march walk go rest ";
        private static final String TRIAL_WORDS = "denies says voices thieves ";
        private static final int SAYS = 1;
        private static final int VOICES = 2;
        private static final String SIGHT_WORDS = "quiet loud ";

        private final byte[] tape = new byte[TAPE];
        private int length;
        private int start;
        private int behind;
        private int token;
        private int number;
        private int fault;
        private int place;
        private final City city = new City();
        private final Rows rows = new Rows();
        private final Trial trial = new Trial();

        private void read(int sort, byte[] bytes, int many) {
            length = Math.max(0, Math.min(many, Math.min(bytes.length, TAPE)));
            System.arraycopy(bytes, 0, tape, 0, length);
            behind = 0;
            fault = 0;
            place = NONE;
            city.reset();
            rows.size = 0;
            trial.reset();
            goOn();
            // A line takes one byte at least.
            for (int lines = 0; lines <= TAPE && token != THE_END && fault != STUCK; lines++) {
                switch (sort) {
                    case CITY: readCityLine(); break;
                    case NIGHT: readDeed(); break;
                    case TRIAL: readTrialLine(); break;
                    default: readFact(); break;
                }
                takeSemicolon();
            }
            if (fault == 0) {
                checkWhole(sort);
            }
        }

        private void readCityLine() {
            int line = start;
            int word = takeWord(CITY_WORDS);
            switch (word) {
                case NONE: break;
                case SIZE:
                    city.wide = takeNumber(2, SIDE);
                    city.high = takeNumber(2, SIDE);
                    break;
                case WIND:
                    city.wind = takeNumber(0, NO_WIND);
                    break;
                case VALUE:
                    readValue();
                    break;
                default:
                    readPlace(word, line);
                    break;
            }
        }

        private void readValue() {
            int command = takeWord(COMMAND_WORDS);
            int worth = takeNumber(0, 9);
            if (command >= 0 && command < COMMANDS) {
                city.value[command] = worth;
            }
        }

        private void readPlace(int word, int line) {
            boolean isPlayer = word < FIRST_KIND;
            boolean isPerson = !isPlayer && word < WALL;
            if (isPlayer && city.players >= MOST_PLAYERS || isPerson && city.people >= MOST_PEOPLE) {
                note(TOO_MANY, line);
            }
            int column = takeNumber(0, SIDE - 1);
            int row = takeNumber(0, SIDE - 1);
            int spot = spotAt(column, row);
            if (isPlayer) {
                city.addPlayer(word, spot);
            } else if (isPerson) {
                city.addPerson(word - FIRST_KIND, spot);
            } else {
                city.walls |= only(spot);
            }
        }

        private void readDeed() {
            int line = start;
            int kind = takeWord(NIGHT_WORDS);
            if (kind == NONE) {
                return;
            }
            noteIfFull(MOST_DEEDS, line);
            int who = NONE;
            int direction = NONE;
            if (kind != REST) {
                who = takeNumber(0, MOST_PLAYERS - 1);
            }
            if (kind >= MARCH && kind != REST) {
                direction = takeNumber(0, DIRECTIONS - 1);
            }
            rows.add(kind, who, direction);
        }

        private void readTrialLine() {
            int line = start;
            int word = takeWord(TRIAL_WORDS);
            if (word == NONE) {
                return;
            }
            if (word > SAYS) {
                if (word == VOICES) {
                    trial.witnesses = takeNumber(1, MOST_WITNESSES);
                } else {
                    trial.thieves = takeNumber(0, MOST_WITNESSES);
                }
                return;
            }
            if (trial.sayings.size >= MOST_SAYINGS) {
                note(TOO_MANY, line);
            }
            int witness = takeNumber(0, MOST_WITNESSES - 1);
            int whom = takeNumber(0, MOST_WITNESSES - 1);
            trial.sayings.add(word, witness, whom);
        }

        private void readFact() {
            int line = start;
            int loud = takeWord(SIGHT_WORDS);
            if (loud == NONE) {
                return;
            }
            noteIfFull(MOST_FACTS, line);
            int column = takeNumber(0, SIDE - 1);
            int row = takeNumber(0, SIDE - 1);
            rows.add(loud, column, row);
        }

        private void noteIfFull(int most, int line) {
            if (rows.size >= most) {
                note(TOO_MANY, line);
            }
        }

        private void checkWhole(int sort) {
            if (sort == CITY) {
                long people = city.inhabited();
                if (((people | city.walls) & ~city.inside()) != 0) {
                    note(NOT_THERE, length);
                } else if ((people & city.walls) != 0) {
                    note(IN_A_WALL, length);
                }
            } else if (sort == TRIAL && trial.namesOneWhoIsNotThere()) {
                note(NOT_THERE, length);
            }
        }

        /** Keeps a FAULT, if there is none: they are noted in the order of their places. */
        private void note(int its, int where) {
            if (fault == 0) {
                fault = its;
                place = where;
            }
        }

        /** No text goes on with this token: this FAULT is told before all others, and nothing more is read. */
        private void stick() {
            if (fault != STUCK) {
                fault = STUCK;
                place = start;
            }
        }

        /** The number of the word in a list of words, each with a blank behind it; NONE, and stuck, without. */
        private int takeWord(String words) {
            int word = fault != STUCK && token == WORD ? wordIn(words) : NONE;
            if (word == NONE) {
                stick();
            } else {
                goOn();
            }
            return word;
        }

        private int wordIn(String words) {
            int from = 0;
            int word = 0;
            for (int k = 0; k < words.length(); k++) {
                if (words.charAt(k) == ' ') {
                    if (isToken(words, from, k)) {
                        return word;
                    }
                    from = k + 1;
                    word++;
                }
            }
            return NONE;
        }

        private boolean isToken(String words, int from, int to) {
            if (to - from != behind - start) {
                return false;
            }
            for (int k = 0; k < to - from; k++) {
                if (words.charAt(from + k) != byteAt(start + k)) {
                    return false;
                }
            }
            return true;
        }

        /** The number told, or the least one that can be, and a FAULT. */
        private int takeNumber(int least, int most) {
            if (fault == STUCK || token != NUMBER) {
                stick();
                return least;
            }
            int its = number;
            if (its < least || its > most) {
                note(BAD_NUMBER, start);
                its = least;
            }
            goOn();
            return its;
        }

        private void takeSemicolon() {
            if (fault == STUCK || token != SEMICOLON) {
                stick();
            } else {
                goOn();
            }
        }

        /** To the next token. */
        private void goOn() {
            start = behind;
            while (start < length && isBlank(byteAt(start))) {
                start++;
            }
            behind = start;
            if (start >= length) {
                token = THE_END;
                return;
            }
            int sign = byteAt(start);
            behind = start + 1;
            if (isLetter(sign)) {
                token = WORD;
                while (behind < length && isLetter(byteAt(behind))) {
                    behind++;
                }
            } else if (isDigit(sign)) {
                readDigits();
            } else {
                token = sign == ';' ? SEMICOLON : NO_TOKEN;
            }
        }

        private void readDigits() {
            number = byteAt(start) - '0';
            while (behind < length && isDigit(byteAt(behind))) {
                number = 10 * number + byteAt(behind) - '0';
                behind++;
            }
            token = behind - start <= 2 ? NUMBER : NO_TOKEN;
        }

        private int byteAt(int at) {
            return at >= 0 && at < TAPE ? tape[at] & 255 : 0;
        }

        private static boolean isBlank(int sign) {
            return sign == 10 || sign == 32;
        }

        private static boolean isLetter(int sign) {
            return sign >= 'a' && sign <= 'z';
        }

        private static boolean isDigit(int sign) {
            return sign >= '0' && sign <= '9';
        }
    }

    /** How SOUND goes from a spot. */
    private static final class Sound {
        // No cell is farther off than 14 steps, and no step, onto a WALL and against the WIND, is dearer than 4.
        private static final int DEAREST = 56;

        private final long[] within = new long[DEAREST + 1];

        /** Where one is heard who plays at a spot. */
        private long heard(City city, int spot, int range) {
            long open = city.open();
            within[0] = only(spot);
            for (int cost = 1; cost <= range && cost <= DEAREST; cost++) {
                spread(city, open, cost);
            }
            return within[Math.min(range, DEAREST)];
        }

        private int cost(City city, int from, int to) {
            long open = city.open();
            within[0] = only(from);
            for (int cost = 0; cost <= DEAREST; cost++) {
                if (cost > 0) {
                    spread(city, open, cost);
                }
                if (has(within[cost], to)) {
                    return cost;
                }
            }
            return NONE;
        }

        /** Finds what is reached at a cost from what is reached at the lesser ones. */
        private void spread(City city, long open, int cost) {
            long all = within[cost - 1];
            for (int d = 0; d < DIRECTIONS; d++) {
                boolean against = city.wind != NO_WIND && d == contrary(city.wind);
                int before = cost - (against ? 2 : 1);
                if (before >= 0) {
                    all |= moved(within[before], d) & open;
                }
                if (before >= 2) {
                    all |= moved(within[before - 2], d) & city.walls;
                }
            }
            within[cost] = all;
        }
    }

    /** Who hears whom in a CITY as told, and what follows from it. */
    private static final class Ears {
        private final Sound sound = new Sound();
        private final long[] heardOf = new long[MOST_PLAYERS];
        private final int[] playersAt = new int[SPOTS];
        private final long[] gain = new long[SPOTS];
        private int bestFirst;
        private int bestSecond;
        private int bestMany;

        private void listen(City city) {
            Arrays.fill(playersAt, 0);
            for (int p = 0; p < city.players; p++) {
                heardOf[p] = sound.heard(city, city.playerSpot[p], city.rangeOf(p));
                for (int spot = 0; spot < SPOTS; spot++) {
                    if (has(heardOf[p], spot)) {
                        playersAt[spot] |= 1 << p;
                    }
                }
            }
        }

        /** All spots at which one of a set of PLAYERS is heard. */
        private long heardOfSet(City city, int set) {
            long all = 0;
            for (int p = 0; p < city.players; p++) {
                if ((set >> p & 1) != 0) {
                    all |= heardOf[p];
                }
            }
            return all;
        }

        private int fewestPlayers(City city) {
            int everybody = (1 << city.players) - 1;
            long open = city.open();
            long all = heardOfSet(city, everybody) & open;
            int best = everybody;
            for (int set = everybody; set >= 0; set--) {
                boolean fewer = Integer.bitCount(set) <= Integer.bitCount(best);
                if (fewer && (heardOfSet(city, set) & open) == all) {
                    best = set;
                }
            }
            return best;
        }

        private int bestPlaces(City city, int range, int n, int what) {
            long open = city.open();
            long unheard = open & ~heardOfSet(city, (1 << city.players) - 1);
            for (int spot = 0; spot < SPOTS; spot++) {
                gain[spot] = has(open, spot) ? sound.heard(city, spot, range) & unheard : 0;
            }
            bestFirst = NONE;
            bestSecond = NONE;
            bestMany = NONE;
            for (int spot = 0; spot < SPOTS; spot++) {
                if (has(open, spot)) {
                    tryPlaces(open, spot, n);
                }
            }
            switch (what) {
                case 0: return bestMany;
                case 1: return city.cellOf(bestFirst);
                default: return city.cellOf(bestSecond);
            }
        }

        private void tryPlaces(long open, int spot, int n) {
            if (n == 1) {
                keepIfMore(Long.bitCount(gain[spot]), spot, NONE);
                return;
            }
            for (int other = spot + 1; other < SPOTS; other++) {
                if (has(open, other)) {
                    keepIfMore(Long.bitCount(gain[spot] | gain[other]), spot, other);
                }
            }
        }

        private void keepIfMore(int many, int first, int second) {
            if (many > bestMany) {
                bestMany = many;
                bestFirst = first;
                bestSecond = second;
            }
        }

        private int loudest(City city, boolean many) {
            long inside = city.inside();
            int best = 0;
            int most = NONE;
            for (int spot = 0; spot < SPOTS; spot++) {
                int here = Integer.bitCount(playersAt[spot]);
                if (has(inside, spot) && here > most) {
                    most = here;
                    best = spot;
                }
            }
            return many ? most : city.cellOf(best);
        }

        private int whoHearsNothing(City city) {
            int who = 0;
            for (int p = 0; p < city.people; p++) {
                if (playersAt[city.personSpot[p]] == 0) {
                    who |= 1 << p;
                }
            }
            return who;
        }

        private int whoPlayed(City city, Rows facts, int what) {
            long sets = setsSeen(city, facts);
            int many = Long.bitCount(sets);
            switch (what) {
                case 0: return many;
                case 1: return many == 0 ? NONE : inAll(city, sets);
                case 2: return many == 0 ? NONE : city.cellOf(bestToListen(city, sets, many));
                default: break;
            }
            return what >= 10 && what - 10 < many ? kthOf(sets, what - 10) : NO_SUCH;
        }

        /** The sets of PLAYERS that are SEEN, a bit for each set. */
        private long setsSeen(City city, Rows facts) {
            long sets = 0;
            for (int set = 0; set < 1 << city.players; set++) {
                if (agrees(set, facts)) {
                    sets |= 1L << set;
                }
            }
            return sets;
        }

        private boolean agrees(int set, Rows facts) {
            for (int k = 0; k < facts.size; k++) {
                int loud = isLoud(set, facts.spotAtRow(k)) ? 1 : 0;
                if (loud != facts.kind[k]) {
                    return false;
                }
            }
            return true;
        }

        private boolean isLoud(int set, int spot) {
            return (playersAt[spot] & set) != 0;
        }

        private int inAll(City city, long sets) {
            int all = (1 << city.players) - 1;
            for (int set = 0; set < 1 << city.players; set++) {
                if (has(sets, set)) {
                    all &= set;
                }
            }
            return all;
        }

        private int kthOf(long sets, int k) {
            long rest = sets;
            for (int passed = 0; passed < k; passed++) {
                rest &= rest - 1;
            }
            return leastOf(rest);
        }

        private int bestToListen(City city, long sets, int many) {
            long inside = city.inside();
            int best = 0;
            int least = many + 1;
            for (int spot = 0; spot < SPOTS; spot++) {
                if (has(inside, spot)) {
                    int loud = howManyLoud(sets, spot);
                    int greater = Math.max(loud, many - loud);
                    if (greater < least) {
                        least = greater;
                        best = spot;
                    }
                }
            }
            return best;
        }

        private int howManyLoud(long sets, int spot) {
            int loud = 0;
            for (int set = 0; set < SPOTS; set++) {
                if (has(sets, set) && isLoud(set, spot)) {
                    loud++;
                }
            }
            return loud;
        }
    }

    /** A NIGHT of a CITY as it is played: who stands where, has heard and done what. */
    private static final class Play {
        private static final int EIGHT_DEEDS = 8;

        private final Sound sound = new Sound();
        private final int[] playerSpot = new int[MOST_PLAYERS];
        private final int[] personSpot = new int[MOST_PEOPLE];
        private final int[] heardLast = new int[MOST_PEOPLE];
        private final int[] heardOften = new int[MOST_PEOPLE];
        private int standing;
        private int toldOf;
        private int obeyed;

        private void begin(City city) {
            System.arraycopy(city.playerSpot, 0, playerSpot, 0, MOST_PLAYERS);
            System.arraycopy(city.personSpot, 0, personSpot, 0, MOST_PEOPLE);
            Arrays.fill(heardLast, NONE);
            Arrays.fill(heardOften, 0);
            standing = 0;
            toldOf = 0;
            obeyed = 0;
        }

        /** Plays the first n DEEDS; how many of them can be, up to the first that can't. */
        private int playNight(City city, Rows deeds, int n) {
            begin(city);
            for (int k = 0; k < n && k < deeds.size; k++) {
                if (!act(city, deeds.kind[k], deeds.first[k], deeds.second[k])) {
                    return k;
                }
            }
            return n;
        }

        /** Plays what is drawn by a SEED; the SEED behind it. */
        private int playOneDrawn(City city, int seed) {
            int x = nextSeed(seed);
            int drawn = drawnBelow(x, EIGHT_DEEDS);
            int kind = drawn > MARCH ? drawn - 1 : drawn;
            if (kind == REST) {
                act(city, kind, NONE, NONE);
                return x;
            }
            int many = kind == WALK ? city.people : city.players;
            if (many == 0) {
                return x;
            }
            x = nextSeed(x);
            int who = drawnBelow(x, many);
            int direction = NONE;
            if (kind >= MARCH) {
                x = nextSeed(x);
                direction = drawnBelow(x, DIRECTIONS);
            }
            act(city, kind, who, direction);
            return x;
        }

        private static int nextSeed(int seed) {
            return seed * 1103515245 + 12345;
        }

        private static int drawnBelow(int seed, int n) {
            return n < 1 ? 0 : (seed >>> 16) % n;
        }

        /** Does a DEED, if it can be: true. */
        private boolean act(City city, int kind, int who, int direction) {
            switch (kind) {
                case REST:
                    Arrays.fill(heardLast, NONE);
                    return true;
                case WALK:
                    return city.hasPerson(who) && isFree(who) && moveOn(personSpot, who, direction, city.open());
                case GO:
                    return city.hasPlayer(who) && moveOn(playerSpot, who, direction, city.open());
                default:
                    if (!city.hasPlayer(who)) {
                        return false;
                    }
                    playCommand(city, kind, who, direction);
                    return true;
            }
        }

        private boolean isFree(int person) {
            return (standing >> person & 1) == 0;
        }

        private static boolean moveOn(int[] spots, int who, int direction, long open) {
            int next = nextSpot(spots[who], direction, open);
            if (next == NONE) {
                return false;
            }
            spots[who] = next;
            return true;
        }

        private void playCommand(City city, int command, int player, int direction) {
            long heard = sound.heard(city, playerSpot[player], city.rangeOf(player));
            long open = city.open();
            for (int p = 0; p < city.people; p++) {
                if (city.kind[p] == DEAF || !has(heard, personSpot[p])) {
                    continue;
                }
                boolean isNew = heardLast[p] != command;
                boolean childsPlay = city.kind[p] == CHILD && command == STAND;
                heardLast[p] = command;
                heardOften[p]++;
                if (isNew && !childsPlay) {
                    obeyed++;
                    obey(city, p, command, direction, open);
                }
            }
        }

        private void obey(City city, int p, int command, int direction, long open) {
            switch (command) {
                case STAND:
                    standing |= 1 << p;
                    break;
                case FREE:
                    standing &= ~(1 << p);
                    break;
                case TELL:
                    if (city.kind[p] == THIEF) {
                        toldOf |= 1 << p;
                    }
                    break;
                default:
                    int next = nextSpot(personSpot[p], direction, open);
                    if (isFree(p) && next != NONE) {
                        personSpot[p] = next;
                    }
                    break;
            }
        }

        private int tell(City city, int what) {
            switch (what) {
                case 0: return standing;
                case 1: return toldOf;
                case 2: return obeyed;
                default: break;
            }
            if (what < 10) {
                return NO_SUCH;
            }
            int group = what / 10;
            int p = what % 10;
            if (group == 4) {
                return city.hasPlayer(p) ? city.cellOf(playerSpot[p]) : NO_SUCH;
            }
            if (!city.hasPerson(p)) {
                return NO_SUCH;
            }
            switch (group) {
                case 1: return city.cellOf(personSpot[p]);
                case 2: return heardLast[p];
                case 3: return heardOften[p];
                default: return NO_SUCH;
            }
        }
    }

    /** Steps over CELLS that are no WALLS. */
    private static final class Streets {
        private static final int MOST_WAYS = 4;

        // For CORDON each spot has two nodes, its entry (the spot) and its exit (64 more), and one way at most
        // goes through it: as many ways that share no spot as there are, so many walls are needed.
        private final int[] queue = new int[2 * SPOTS];
        private final int[] cameFrom = new int[2 * SPOTS];
        private final long[] flows = new long[DIRECTIONS];
        private long through;
        private int waiting;

        private final int[] stops = new int[MOST_PEOPLE + 1];
        private final int[] apart = new int[(MOST_PEOPLE + 1) * (MOST_PEOPLE + 1)];
        private final int[] shortest = new int[(1 << MOST_PEOPLE) * MOST_PEOPLE];

        private int fewestSteps(long open, int from, int to) {
            if (!has(open, from) || !has(open, to)) {
                return NONE;
            }
            long reached = only(from);
            for (int steps = 0; steps < SPOTS; steps++) {
                if (has(reached, to)) {
                    return steps;
                }
                reached = grown(reached, open);
            }
            return NONE;
        }

        private static long allReached(long open, int from) {
            long reached = only(from);
            for (int steps = 0; steps < SPOTS; steps++) {
                long further = grown(reached, open);
                if (further == reached) {
                    return reached;
                }
                reached = further;
            }
            return reached;
        }

        private int parts(long open, boolean largest) {
            int many = 0;
            int most = 0;
            long rest = open;
            for (int k = 0; k < SPOTS && rest != 0; k++) {
                long one = allReached(open, leastOf(rest));
                rest &= ~one;
                many++;
                most = Math.max(most, Long.bitCount(one));
            }
            return largest ? most : many;
        }

        private int fewestWalls(long open, int a, int b) {
            if (!has(open, a) || !has(open, b) || has(grown(only(a), open), b)) {
                return NONE;
            }
            Arrays.fill(flows, 0L);
            through = 0;
            for (int ways = 0; ways < MOST_WAYS; ways++) {
                if (!findWay(open, a, b)) {
                    return ways;
                }
                layWay(a, b);
            }
            return MOST_WAYS;
        }

        /** One way more from a to b, taking back parts of the others where that helps. */
        private boolean findWay(long open, int a, int b) {
            Arrays.fill(cameFrom, NONE);
            waiting = 0;
            comeTo(SPOTS + a, SPOTS + a);
            for (int head = 0; head < waiting && head < queue.length; head++) {
                int node = queue[head];
                if (node == b) {
                    return true;
                }
                boolean isExit = node >= SPOTS;
                int spot = node % SPOTS;
                for (int d = 0; d < DIRECTIONS; d++) {
                    int next = nextSpot(spot, d, open);
                    if (next == NONE || next == a) {
                        continue;
                    }
                    if (isExit && !has(flows[d], spot)) {
                        comeTo(next, node);
                    } else if (!isExit && has(flows[contrary(d)], next)) {
                        comeTo(SPOTS + next, node);
                    }
                }
                if (spot != a && isExit == has(through, spot)) {
                    comeTo(isExit ? spot : SPOTS + spot, node);
                }
            }
            return false;
        }

        private void comeTo(int node, int from) {
            if (cameFrom[node] == NONE && waiting < queue.length) {
                cameFrom[node] = from;
                queue[waiting] = node;
                waiting++;
            }
        }

        private void layWay(int a, int b) {
            int node = b;
            for (int k = 0; k < 2 * SPOTS && node != SPOTS + a && node >= 0; k++) {
                int from = cameFrom[node];
                if (from < 0) {
                    return;
                }
                int here = node % SPOTS;
                int before = from % SPOTS;
                boolean intoEntry = node < SPOTS;
                if (here == before) {
                    through ^= only(here);
                } else if (intoEntry) {
                    flows[directionOf(before, here)] |= only(before);
                } else {
                    flows[directionOf(here, before)] &= ~only(here);
                }
                node = from;
            }
        }

        private static int directionOf(int spot, int next) {
            switch (next - spot) {
                case -SIDE: return 0;
                case 1: return 1;
                case SIDE: return 2;
                default: return 3;
            }
        }

        private int shortestVisit(City city, int from) {
            int many = city.people;
            if (!measure(city, from)) {
                return NONE;
            }
            if (many == 0) {
                return 0;
            }
            for (int set = 1; set < 1 << many; set++) {
                for (int last = 0; last < many; last++) {
                    if ((set >> last & 1) != 0) {
                        shortest[set * MOST_PEOPLE + last] = shortestTo(set, last, many);
                    }
                }
            }
            int best = shortest[((1 << many) - 1) * MOST_PEOPLE];
            for (int last = 1; last < many; last++) {
                best = Math.min(best, shortest[((1 << many) - 1) * MOST_PEOPLE + last]);
            }
            return best;
        }

        /** The steps between all PEOPLE and the start, which stands behind them; false, if one can't be come to. */
        private boolean measure(City city, int from) {
            long open = city.open();
            int many = city.people;
            System.arraycopy(city.personSpot, 0, stops, 0, many);
            stops[many] = from;
            for (int i = 0; i <= many; i++) {
                for (int j = 0; j <= i; j++) {
                    int steps = fewestSteps(open, stops[i], stops[j]);
                    if (steps == NONE) {
                        return false;
                    }
                    apart[i * stops.length + j] = steps;
                    apart[j * stops.length + i] = steps;
                }
            }
            return true;
        }

        /** The fewest steps by which all of a set are visited, one of them last. */
        private int shortestTo(int set, int last, int many) {
            int before = set & ~(1 << last);
            if (before == 0) {
                return apart[many * stops.length + last];
            }
            int best = NONE;
            for (int p = 0; p < many; p++) {
                if ((before >> p & 1) != 0) {
                    int steps = shortest[before * MOST_PEOPLE + p] + apart[p * stops.length + last];
                    best = best == NONE ? steps : Math.min(best, steps);
                }
            }
            return best;
        }
    }

    /** Two who are marched together; one who catches another by turns. */
    private static final class Hunt {
        private final int[] queue = new int[SPOTS * SPOTS];
        private final int[] marches = new int[SPOTS * SPOTS];
        private final int[] opening = new int[SPOTS * SPOTS];
        private final int[] way = new int[SPOTS * DIRECTIONS];
        private final long[] caught = new long[SPOTS];
        private final long[] held = new long[SPOTS];

        /** Where a MARCH brings one from each spot: on, if he hears it there and can go. */
        private void layWays(long open, long heard) {
            for (int spot = 0; spot < SPOTS; spot++) {
                for (int d = 0; d < DIRECTIONS; d++) {
                    int next = has(heard, spot) ? nextSpot(spot, d, open) : NONE;
                    way[spot * DIRECTIONS + d] = next == NONE ? spot : next;
                }
            }
        }

        /** Pairs of spots are looked at in the order of their first rows, so that the first pair at one spot is due. */
        private int fewestMarches(int a, int b, boolean direction) {
            Arrays.fill(marches, NONE);
            int start = a * SPOTS + b;
            marches[start] = 0;
            opening[start] = NONE;
            queue[0] = start;
            int waiting = 1;
            for (int head = 0; head < waiting && head < queue.length; head++) {
                int pair = queue[head];
                int first = pair / SPOTS;
                int second = pair % SPOTS;
                if (first == second) {
                    return direction ? opening[pair] : marches[pair];
                }
                for (int d = 0; d < DIRECTIONS; d++) {
                    int next = way[first * DIRECTIONS + d] * SPOTS + way[second * DIRECTIONS + d];
                    if (marches[next] == NONE && waiting < queue.length) {
                        marches[next] = marches[pair] + 1;
                        opening[next] = pair == start ? d : opening[pair];
                        queue[waiting] = next;
                        waiting++;
                    }
                }
            }
            return NONE;
        }

        /** CAUGHT has, for each spot of the PLAYER, who is to go, where he is sure to catch in so many turns. */
        private int turnsToCatch(long open, int player, int person) {
            for (int spot = 0; spot < SPOTS; spot++) {
                caught[spot] = only(spot);
            }
            for (int turns = 0; turns <= SPOTS * SPOTS; turns++) {
                if (has(caught[player], person)) {
                    return turns;
                }
                if (!addTurn(open)) {
                    return NONE;
                }
            }
            return NONE;
        }

        /** One turn more; false, if nobody is caught that was not. */
        private boolean addTurn(long open) {
            for (int spot = 0; spot < SPOTS; spot++) {
                long escapes = grown(open & ~caught[spot], open);
                held[spot] = open & ~escapes | only(spot);
            }
            boolean more = false;
            for (int spot = 0; spot < SPOTS; spot++) {
                if (has(open, spot)) {
                    long now = heldAround(open, spot);
                    more |= now != caught[spot];
                    caught[spot] = now;
                }
            }
            return more;
        }

        private long heldAround(long open, int spot) {
            long all = held[spot];
            for (int d = 0; d < DIRECTIONS; d++) {
                int next = nextSpot(spot, d, open);
                if (next != NONE) {
                    all |= held[next];
                }
            }
            return all;
        }
    }

    /** Rows of COMMANDS that bring most. Only 57 of the 625 ways to be WORN are ever come to. */
    private static final class Programme {
        private static final int MOST_WORN = 4;
        private static final int LEVELS = 5;
        private static final int ALL_WAYS = 625;
        private static final int WAYS = 57;
        private static final int ANY = 4;
        private static final int LASTS = 5;

        private final int[] worn = new int[WAYS * COMMANDS];
        private final int[] after = new int[WAYS * COMMANDS];
        private final int[] most = new int[(MINUTES + 1) * WAYS * LASTS];
        private int ways;

        private Programme() {
            int[] numberOf = new int[ALL_WAYS];
            Arrays.fill(numberOf, NONE);
            numberOf[0] = 0;
            ways = 1;
            for (int way = 0; way < ways && way < WAYS; way++) {
                for (int c = 0; c < COMMANDS; c++) {
                    int code = codeAfter(way, c);
                    if (numberOf[code] == NONE && ways < WAYS) {
                        numberOf[code] = ways;
                        addWay(code);
                    }
                    after[way * COMMANDS + c] = Math.max(0, numberOf[code]);
                }
            }
        }

        private void addWay(int code) {
            int rest = code;
            for (int c = 0; c < COMMANDS; c++) {
                worn[ways * COMMANDS + c] = rest % LEVELS;
                rest /= LEVELS;
            }
            ways++;
        }

        private int codeAfter(int way, int command) {
            int code = 0;
            for (int c = COMMANDS - 1; c >= 0; c--) {
                int before = worn[way * COMMANDS + c];
                int now = c == command ? Math.min(MOST_WORN, before + 1) : Math.max(0, before - 1);
                code = LEVELS * code + now;
            }
            return code;
        }

        /** Finds what each way to be WORN still brings in 0 to n minutes; by HABIT also for each last COMMAND. */
        private void plan(int[] value, int n, boolean habit) {
            for (int way = 0; way < WAYS; way++) {
                for (int last = 0; last < LASTS; last++) {
                    most[indexOf(0, way, last)] = 0;
                }
            }
            for (int left = 1; left <= n && left <= MINUTES; left++) {
                for (int way = 0; way < WAYS; way++) {
                    for (int last = habit ? 0 : ANY; last < LASTS; last++) {
                        most[indexOf(left, way, last)] = bestOf(value, left, way, last, habit);
                    }
                }
            }
        }

        private static int indexOf(int left, int way, int last) {
            return (left * WAYS + way) * LASTS + last;
        }

        private int bestOf(int[] value, int left, int way, int last, boolean habit) {
            int best = 0;
            for (int c = 0; c < COMMANDS; c++) {
                if (c != last) {
                    best = Math.max(best, brings(value, left, way, c, habit));
                }
            }
            return best;
        }

        /** What a COMMAND brings now, and all minutes behind it. */
        private int brings(int[] value, int left, int way, int command, boolean habit) {
            int here = Math.max(0, value[command] - worn[way * COMMANDS + command]);
            return here + most[indexOf(left - 1, after[way * COMMANDS + command], habit ? command : ANY)];
        }

        private int mostOf(int n) {
            return most[indexOf(n, 0, ANY)];
        }

        /** The k-th COMMAND of the first best row (without HABIT). */
        private int commandAt(int[] value, int n, int k) {
            int way = 0;
            int command = NONE;
            for (int minute = 0; minute <= k && minute < n; minute++) {
                int left = n - minute;
                command = firstBest(value, left, way);
                way = after[way * COMMANDS + command];
            }
            return command;
        }

        private int firstBest(int[] value, int left, int way) {
            for (int c = 0; c < COMMANDS; c++) {
                if (brings(value, left, way, c, false) == most[indexOf(left, way, ANY)]) {
                    return c;
                }
            }
            return 0;
        }
    }
}

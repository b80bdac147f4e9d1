/**
 * Parking by streets: who may leave a car where, how the cars find bays at night, what moved lines
 * do, how wardens go around, and how tickets are judged. The promises stand in ../shared/DOC.md.
 */
public final class ParkDesk {

    public static final int NUMBER = -1;
    public static final int FULL = -2;
    public static final int NONE = -3;

    private static final int STREETS = 5;
    private static final int CARS = 7;
    private static final int TICKETS = 20;
    private static final int ZONES = 4;
    private static final int SORTS = 3;
    private static final int NIGHTS = 7;
    private static final int HOURS = 24;
    private static final int SIGNS = 3;

    private static final int MOST_BAYS = 5;
    private static final int MOST_WALK = 50;
    private static final int MOST_CARDS = 9;
    private static final int MOST_LIMIT = 99;
    private static final int MOST_GAIN = 99;
    private static final int MOST_FINE = 500;
    private static final int FIRST_WALK = 10;
    private static final int FIRST_FINE = 100;

    /** OUT is a place behind the last street, so that comparing places is what the document asks. */
    private static final int OUT = STREETS;
    private static final int PLACES = STREETS + 1;

    private static final int MAY_NOT = 0;
    private static final int MAY_BY_CARD = 1;
    private static final int MAY_FREELY = 2;

    private static final int TELL_WALKS = 0;
    private static final int TELL_OUT = 1;
    private static final int TELL_BY_CARD = 2;

    private static final int MISSING = 0;
    private static final int SEEN = 1;

    private static final int VOID = 0;
    private static final int GOOD = 1;
    private static final int DOUBT = 2;

    private final Zones zones;
    private final Streets streets;
    private final Cars cars;
    private final Laying laying;
    private final Wardens wardens;
    private final Tickets tickets;

    public ParkDesk() {
        zones = new Zones();
        streets = new Streets();
        cars = new Cars(zones);
        laying = new Laying(streets, cars);
        wardens = new Wardens(streets);
        tickets = new Tickets();
    }

    // ---- streets

    public int street(int zone, int bays) {
        if (!isZone(zone) || !isUpTo(bays, MOST_BAYS)) {
            return NUMBER;
        }
        return streets.add(zone, bays);
    }

    public int move(int street, int zone) {
        if (!isStreet(street) || !isZone(zone)) {
            return NUMBER;
        }
        int was = streets.zone[street];
        streets.zone[street] = zone;
        return was;
    }

    public int walk(int street, int other, int v) {
        if (!isStreet(street) || !isStreet(other) || street == other || !isUpTo(v, MOST_WALK)) {
            return NUMBER;
        }
        int was = streets.walk[street][other];
        streets.walk[street][other] = v;
        streets.walk[other][street] = v;
        return was;
    }

    public int close(int street, int night, int n) {
        if (!isStreet(street) || !isNight(night) || !isUpTo(n, streets.bays[street])) {
            return NUMBER;
        }
        int was = streets.closed[street][night];
        streets.closed[street][night] = n;
        return was;
    }

    public int rule(int zone, int a, int b) {
        if (!isZone(zone) || !isSpan(a, b)) {
            return NUMBER;
        }
        zones.ruled[zone] = span(a, b);
        return 1;
    }

    public int hours(int zone, int sort, int a, int b) {
        if (!isZone(zone) || !isSpan(a, b) || !isSort(sort)) {
            return NUMBER;
        }
        zones.good[zone][sort] = span(a, b);
        return 1;
    }

    // ---- cars

    public int car(int home) {
        return isStreet(home) ? cars.add(home) : NUMBER;
    }

    public int permit(int car, int sort, int zone, boolean is) {
        if (!isCar(car) || !isSort(sort) || !isZone(zone)) {
            return NUMBER;
        }
        return cars.setPermit(car, sort, zone, is) ? 1 : 0;
    }

    public int cards(int car, int zone, int n) {
        if (!isCar(car) || !isZone(zone) || !isUpTo(n, MOST_CARDS)) {
            return NUMBER;
        }
        int was = cars.cards[car][zone];
        cars.cards[car][zone] = n;
        return was;
    }

    public int limit(int car, int v) {
        if (!isCar(car) || !isUpTo(v, MOST_LIMIT)) {
            return NUMBER;
        }
        int was = cars.limit[car];
        cars.limit[car] = v;
        return was;
    }

    public int late(int car) {
        return isCar(car) ? cars.putLast(car) : NUMBER;
    }

    public int may(int car, int street, int hour) {
        if (!isCar(car) || !isStreet(street) || !isHour(hour)) {
            return NUMBER;
        }
        return cars.right(car, streets.zone[street], hour);
    }

    // ---- nights

    public int stands(int night, int hour, int car, boolean least) {
        if (!isNight(night) || !isHour(hour) || !isCar(car)) {
            return NUMBER;
        }
        laying.lay(night, hour, least);
        int place = laying.place[car];
        return place == OUT ? NONE : place;
    }

    public int told(int night, int hour, int what, boolean least) {
        if (!isNight(night) || !isHour(hour) || !isUpTo(what, TELL_BY_CARD)) {
            return NUMBER;
        }
        laying.lay(night, hour, least);
        return laying.tell(what);
    }

    public int keep(int night, int hour) {
        if (!isNight(night) || !isHour(hour)) {
            return NUMBER;
        }
        laying.lay(night, hour, false);
        return laying.useCards();
    }

    public int moved(int night, int hour, int street, int zone, int what) {
        if (!isNight(night) || !isHour(hour) || !isStreet(street) || !isZone(zone)
                || !isUpTo(what, TELL_OUT)) {
            return NUMBER;
        }
        int was = streets.zone[street];
        streets.zone[street] = zone;
        laying.lay(night, hour, true);
        int answer = laying.tell(what);
        streets.zone[street] = was;
        return answer;
    }

    // ---- wardens

    public int gain(int street, int v) {
        if (!isStreet(street) || !isUpTo(v, MOST_GAIN)) {
            return NUMBER;
        }
        int was = streets.gain[street];
        streets.gain[street] = v;
        return was;
    }

    public int fine(int v) {
        if (v < 1 || v > MOST_FINE) {
            return NUMBER;
        }
        int was = wardens.fine;
        wardens.fine = v;
        return was;
    }

    public int turn(int street, int what) {
        if (!isStreet(street) || !isUpTo(what, 1)) {
            return NUMBER;
        }
        return wardens.chance(street).part(what);
    }

    public int stake(int what) {
        return isUpTo(what, 1) ? wardens.greatest().part(what) : NUMBER;
    }

    // ---- tickets

    public int ticket(int car, int street, int hour, int sign) {
        if (!isCar(car) || !isStreet(street) || !isHour(hour) || !isNumbered(sign, SIGNS)) {
            return NUMBER;
        }
        int zone = streets.zone[street];
        int state = Tickets.judge(cars.right(car, zone, hour), sign);
        return tickets.add(car, street, hour, sign, zone, state);
    }

    public int of(int ticket, int what) {
        if (!isNumbered(ticket, tickets.count)) {
            return NUMBER;
        }
        if (isUpTo(what, Tickets.STATE)) {
            return tickets.row[ticket][what];
        }
        switch (what) {
            case 6: return tickets.stateByLikes(ticket);
            case 7: return tickets.countLikes(ticket, SEEN) + tickets.countLikes(ticket, MISSING);
            default: return NUMBER;
        }
    }

    public int many(int what) {
        switch (what) {
            case 0: return streets.count;
            case 1: return cars.count;
            case 2: return tickets.count;
            case 3: return tickets.countState(GOOD);
            case 4: return tickets.countState(VOID);
            case 5: return tickets.countState(DOUBT);
            case 6: return streets.countBays();
            case 7: return cars.countCards();
            default: return NUMBER;
        }
    }

    // ---- numbers that may be

    private static boolean isUpTo(int v, int most) {
        return v >= 0 && v <= most;
    }

    private static boolean isNumbered(int v, int count) {
        return v >= 0 && v < count;
    }

    private boolean isStreet(int v) {
        return isNumbered(v, streets.count);
    }

    private boolean isCar(int v) {
        return isNumbered(v, cars.count);
    }

    private static boolean isZone(int v) {
        return isNumbered(v, ZONES);
    }

    private static boolean isSort(int v) {
        return isNumbered(v, SORTS);
    }

    private static boolean isNight(int v) {
        return isNumbered(v, NIGHTS);
    }

    private static boolean isHour(int v) {
        return isNumbered(v, HOURS);
    }

    /** The document lets b be anything where a says that there are no hours. */
    private static boolean isSpan(int a, int b) {
        return a == -1 || isHour(a) && isHour(b);
    }

    /** Hours are kept as one bit each, so that going around midnight matters only here. */
    private static int span(int a, int b) {
        if (a == -1) {
            return 0;
        }
        int bits = 0;
        for (int hour = 0; hour < HOURS; hour++) {
            boolean in = a <= b ? a <= hour && hour <= b : a <= hour || hour <= b;
            if (in) {
                bits |= 1 << hour;
            }
        }
        return bits;
    }

    /** When each zone is ruled, and when permits of each sort are good in it. */
    private static final class Zones {
        final int[] ruled = new int[ZONES];
        final int[][] good = new int[ZONES][SORTS];

        boolean isRuled(int zone, int hour) {
            return (ruled[zone] >> hour & 1) == 1;
        }

        boolean isGood(int zone, int sort, int hour) {
            return (good[zone][sort] >> hour & 1) == 1;
        }
    }

    private static final class Streets {
        int count = 0;
        final int[] zone = new int[STREETS];
        final int[] bays = new int[STREETS];
        final int[][] closed = new int[STREETS][NIGHTS];
        final int[][] walk = new int[STREETS][STREETS];
        final int[] gain = new int[STREETS];

        Streets() {
            for (int street = 0; street < STREETS; street++) {
                for (int other = 0; other < STREETS; other++) {
                    walk[street][other] = street == other ? 0 : FIRST_WALK;
                }
            }
        }

        int add(int ofZone, int withBays) {
            if (count >= STREETS) {
                return FULL;
            }
            zone[count] = ofZone;
            bays[count] = withBays;
            count++;
            return count - 1;
        }

        int countBays() {
            int sum = 0;
            for (int street = 0; street < count; street++) {
                sum += bays[street];
            }
            return sum;
        }
    }

    private static final class Cars {
        final Zones zones;
        int count = 0;
        final int[] home = new int[CARS];
        final int[] limit = new int[CARS];
        final int[] permits = new int[CARS];
        final int[][] cards = new int[CARS][ZONES];
        /** The cars as they come home. */
        final int[] order = new int[CARS];

        Cars(Zones zones) {
            this.zones = zones;
        }

        int add(int atHome) {
            if (count >= CARS) {
                return FULL;
            }
            home[count] = atHome;
            limit[count] = MOST_LIMIT;
            order[count] = count;
            count++;
            return count - 1;
        }

        static int permitBit(int sort, int zone) {
            return 1 << zone * SORTS + sort;
        }

        boolean hasPermit(int car, int sort, int zone) {
            return (permits[car] & permitBit(sort, zone)) != 0;
        }

        boolean setPermit(int car, int sort, int zone, boolean is) {
            if (hasPermit(car, sort, zone) == is) {
                return false;
            }
            permits[car] ^= permitBit(sort, zone);
            return true;
        }

        int right(int car, int zone, int hour) {
            if (!zones.isRuled(zone, hour)) {
                return MAY_FREELY;
            }
            for (int sort = 0; sort < SORTS; sort++) {
                if (hasPermit(car, sort, zone) && zones.isGood(zone, sort, hour)) {
                    return MAY_FREELY;
                }
            }
            return cards[car][zone] > 0 ? MAY_BY_CARD : MAY_NOT;
        }

        int putLast(int car) {
            int behind = 0;
            boolean passed = false;
            for (int i = 0; i < count; i++) {
                if (passed) {
                    order[i - 1] = order[i];
                    behind++;
                } else {
                    passed = order[i] == car;
                }
            }
            order[count - 1] = car;
            return behind;
        }

        int countCards() {
            int sum = 0;
            for (int car = 0; car < count; car++) {
                for (int zone = 0; zone < ZONES; zone++) {
                    sum += cards[car][zone];
                }
            }
            return sum;
        }
    }

    /** Where every car is in one night at one hour; each asking lays them anew into the same rows. */
    private static final class Laying {
        final Streets streets;
        final Cars cars;
        final int[] place = new int[CARS];
        /** Both stay 0 for streets that haven't come: nobody may stand there, and no bay is left. */
        final int[][] right = new int[CARS][STREETS];
        final int[] left = new int[PLACES];
        final Cheapest cheapest = new Cheapest();

        Laying(Streets streets, Cars cars) {
            this.streets = streets;
            this.cars = cars;
        }

        void lay(int night, int hour, boolean least) {
            openBays(night);
            readRights(hour);
            if (least) {
                layLeast();
            } else {
                comeHome();
            }
        }

        private void openBays(int night) {
            for (int street = 0; street < streets.count; street++) {
                left[street] = streets.bays[street] - streets.closed[street][night];
            }
            left[OUT] = CARS;
        }

        private void readRights(int hour) {
            for (int car = 0; car < cars.count; car++) {
                for (int street = 0; street < streets.count; street++) {
                    right[car][street] = cars.right(car, streets.zone[street], hour);
                }
            }
        }

        private void comeHome() {
            for (int i = 0; i < cars.count; i++) {
                int car = cars.order[i];
                place[car] = choose(car);
                left[place[car]]--;
            }
        }

        private int choose(int car) {
            int best = OUT;
            for (int street = 0; street < STREETS; street++) {
                if (left[street] > 0 && isWithin(car, street)
                        && (best == OUT || isBetter(car, street, best))) {
                    best = street;
                }
            }
            return best;
        }

        private boolean isBetter(int car, int street, int than) {
            int toIt = walkTo(car, street);
            int toOther = walkTo(car, than);
            return toIt < toOther || toIt == toOther && right[car][street] > right[car][than];
        }

        private boolean isWithin(int car, int street) {
            return right[car][street] != MAY_NOT && walkTo(car, street) <= cars.limit[car];
        }

        private int walkTo(int car, int street) {
            return streets.walk[cars.home[car]][street];
        }

        private void layLeast() {
            for (int car = 0; car < cars.count; car++) {
                for (int street = 0; street < STREETS; street++) {
                    if (isWithin(car, street)) {
                        cheapest.setPrice(car, street, walkTo(car, street));
                    } else {
                        cheapest.forbid(car, street);
                    }
                }
                cheapest.setPriceOut(car);
                cheapest.add(car, place, left);
            }
        }

        int tell(int what) {
            int sum = 0;
            for (int car = 0; car < cars.count; car++) {
                sum += tellOne(what, car);
            }
            return sum;
        }

        private int tellOne(int what, int car) {
            if (place[car] == OUT) {
                return what == TELL_OUT ? 1 : 0;
            }
            if (what == TELL_WALKS) {
                return walkTo(car, place[car]);
            }
            return what == TELL_BY_CARD && standsByCard(car) ? 1 : 0;
        }

        private boolean standsByCard(int car) {
            return place[car] != OUT && right[car][place[car]] == MAY_BY_CARD;
        }

        int useCards() {
            int used = 0;
            for (int car = 0; car < cars.count; car++) {
                if (standsByCard(car)) {
                    cars.cards[car][streets.zone[place[car]]]--;
                    used++;
                }
            }
            return used;
        }
    }

    /**
     * The cheapest way to lay cars into places, kept cheapest as cars are added one by one: a new car
     * goes in by the cheapest chain in which each car makes room by going to another place.
     */
    private static final class Cheapest {
        /** No sum of these reaches WALK_PRICE, so that they part only ways of equal walks. */
        private static final int[] PLACE_PRICE = {46656, 7776, 1296, 216, 36, 6, 1};
        private static final long WALK_PRICE = 279936L;
        /** One car more that is out is dearer than the walks of all. */
        private static final long OUT_PRICE = WALK_PRICE * 1000L;
        private static final long FORBIDDEN = -1L;
        private static final long FAR = 1000000000000000L;

        final long[][] price = new long[CARS][PLACES];
        /** What it costs in all that one more is in a place, and who goes there last for that. */
        final long[] reach = new long[PLACES];
        final int[] comer = new int[PLACES];

        void setPrice(int car, int street, int walk) {
            price[car][street] = walk * WALK_PRICE + (long) street * PLACE_PRICE[car];
        }

        void setPriceOut(int car) {
            price[car][OUT] = OUT_PRICE + (long) OUT * PLACE_PRICE[car];
        }

        void forbid(int car, int street) {
            price[car][street] = FORBIDDEN;
        }

        void add(int car, int[] place, int[] left) {
            startAt(car);
            boolean changed = true;
            for (int round = 0; changed && round < PLACES; round++) {
                changed = false;
                for (int other = 0; other < car; other++) {
                    if (passOn(other, place[other])) {
                        changed = true;
                    }
                }
            }
            int end = cheapestEnd(left);
            left[end]--;
            shift(car, end, place);
        }

        private void startAt(int car) {
            for (int to = 0; to < PLACES; to++) {
                reach[to] = price[car][to] == FORBIDDEN ? FAR : price[car][to];
                comer[to] = car;
            }
        }

        /** Whether a place is reached for less if this car leaves its own to go there. */
        private boolean passOn(int car, int from) {
            if (reach[from] == FAR) {
                return false;
            }
            boolean changed = false;
            for (int to = 0; to < PLACES; to++) {
                long sum = reach[from] - price[car][from] + price[car][to];
                if (price[car][to] != FORBIDDEN && sum < reach[to]) {
                    reach[to] = sum;
                    comer[to] = car;
                    changed = true;
                }
            }
            return changed;
        }

        private int cheapestEnd(int[] left) {
            int end = OUT;
            for (int to = 0; to < STREETS; to++) {
                if (left[to] > 0 && reach[to] < reach[end]) {
                    end = to;
                }
            }
            return end;
        }

        private void shift(int car, int end, int[] place) {
            int to = end;
            for (int step = 0; step < PLACES && comer[to] != car; step++) {
                int from = place[comer[to]];
                place[comer[to]] = to;
                to = from;
            }
            place[car] = to;
        }
    }

    /** A number above and below the line, cleared. */
    private static final class Ratio {
        final int above;
        final int below;

        Ratio(int above, int below) {
            int divisor = above > 0 && below > 0 ? commonDivisor(above, below) : 0;
            this.above = divisor > 0 ? above / divisor : 0;
            this.below = divisor > 0 ? below / divisor : 1;
        }

        /** A remainder falls to half in two steps, so that 64 steps end it for every int. */
        private static int commonDivisor(int a, int b) {
            int divisor = a;
            int rest = b;
            for (int step = 0; step < 64 && rest != 0; step++) {
                int next = divisor % rest;
                divisor = rest;
                rest = next;
            }
            return divisor;
        }

        boolean isBelow(int otherAbove, int otherBelow) {
            return above * otherBelow < otherAbove * below;
        }

        int part(int what) {
            return what == 0 ? above : below;
        }
    }

    private static final class Wardens {
        final Streets streets;
        int fine = FIRST_FINE;

        Wardens(Streets streets) {
            this.streets = streets;
        }

        /**
         * Whatever streets a cheat picks among, one warden takes at most one fine from their gains
         * together, so an even share of the rest is left somewhere; the greatest such share can be
         * kept to, and the streets that have it are all those from some gain up.
         */
        Ratio greatest() {
            Ratio most = new Ratio(0, 1);
            for (int street = 0; street < streets.count; street++) {
                int sum = 0;
                int number = 0;
                for (int other = 0; other < streets.count; other++) {
                    if (streets.gain[other] >= streets.gain[street]) {
                        sum += streets.gain[other];
                        number++;
                    }
                }
                if (most.isBelow(sum - fine, number)) {
                    most = new Ratio(sum - fine, number);
                }
            }
            return most;
        }

        Ratio chance(int street) {
            Ratio most = greatest();
            return new Ratio(streets.gain[street] * most.below - most.above, most.below * fine);
        }
    }

    private static final class Tickets {
        /** What is kept of a ticket, by the numbers by which it is asked for. */
        static final int CAR = 0;
        static final int STREET = 1;
        static final int HOUR = 2;
        static final int SIGN = 3;
        static final int ZONE = 4;
        static final int STATE = 5;

        int count = 0;
        final int[][] row = new int[TICKETS][STATE + 1];

        /** The zone and the state are kept as they are when it is written, whatever comes later. */
        int add(int car, int street, int hour, int sign, int zone, int state) {
            if (count >= TICKETS) {
                return FULL;
            }
            row[count][CAR] = car;
            row[count][STREET] = street;
            row[count][HOUR] = hour;
            row[count][SIGN] = sign;
            row[count][ZONE] = zone;
            row[count][STATE] = state;
            count++;
            return count - 1;
        }

        static int judge(int right, int sign) {
            if (right != MAY_NOT || sign == MISSING) {
                return VOID;
            }
            return sign == SEEN ? GOOD : DOUBT;
        }

        int countState(int state) {
            int sum = 0;
            for (int ticket = 0; ticket < count; ticket++) {
                if (row[ticket][STATE] == state) {
                    sum++;
                }
            }
            return sum;
        }

        int countLikes(int ticket, int sign) {
            int sum = 0;
            for (int other = 0; other < count; other++) {
                if (other != ticket && row[other][SIGN] == sign && isSameZoneAndHour(ticket, other)) {
                    sum++;
                }
            }
            return sum;
        }

        private boolean isSameZoneAndHour(int ticket, int other) {
            return row[ticket][ZONE] == row[other][ZONE] && row[ticket][HOUR] == row[other][HOUR];
        }

        int stateByLikes(int ticket) {
            if (row[ticket][STATE] != DOUBT) {
                return row[ticket][STATE];
            }
            int saw = countLikes(ticket, SEEN);
            int missed = countLikes(ticket, MISSING);
            if (saw == missed) {
                return DOUBT;
            }
            return saw > missed ? GOOD : VOID;
        }
    }
}

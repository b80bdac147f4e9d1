import java.util.ArrayList;
import java.util.Arrays;
import java.util.List;

/**
 * The document a second time, as plainly as can be and without regard to cost: hours are walked one by
 * one, every way to lay the cars is tried, the stake is lowered from corner to corner.
 */
final class PlainDesk {
    private static final int OUT = 9;

    private static final class Street {
        int zone;
        int bays;
        int gain;
        int[] closed = new int[7];
    }

    private static final class Car {
        int home;
        int limit = 99;
        boolean[][] permit = new boolean[3][4];
        int[] cards = new int[4];
    }

    private record Ticket(int car, int street, int hour, int sign, int zone, int how) { }

    private final List<Street> streets = new ArrayList<>();
    private final List<Car> cars = new ArrayList<>();
    private final List<Integer> order = new ArrayList<>();
    private final List<Ticket> tickets = new ArrayList<>();
    private final int[][] walks = new int[5][5];
    private final boolean[][] ruled = new boolean[4][24];
    private final boolean[][][] good = new boolean[4][3][24];
    private int fine = 100;

    private int[] bestWay;
    private int bestOut;
    private int bestWalk;

    PlainDesk() {
        for (int[] row : walks) {
            Arrays.fill(row, 10);
        }
        for (int s = 0; s < 5; s++) {
            walks[s][s] = 0;
        }
    }

    private static boolean in(int v, int low, int high) {
        return low <= v && v <= high;
    }

    private boolean noStreet(int s) {
        return !in(s, 0, streets.size() - 1);
    }

    private boolean noCar(int c) {
        return !in(c, 0, cars.size() - 1);
    }

    int street(int zone, int bays) {
        if (!in(zone, 0, 3) || !in(bays, 0, 5)) return -1;
        if (streets.size() == 5) return -2;
        Street s = new Street();
        s.zone = zone;
        s.bays = bays;
        streets.add(s);
        return streets.size() - 1;
    }

    int move(int street, int zone) {
        if (noStreet(street) || !in(zone, 0, 3)) return -1;
        int was = streets.get(street).zone;
        streets.get(street).zone = zone;
        return was;
    }

    int walk(int street, int other, int v) {
        if (noStreet(street) || noStreet(other) || street == other || !in(v, 0, 50)) return -1;
        int was = walks[street][other];
        walks[street][other] = v;
        walks[other][street] = v;
        return was;
    }

    int close(int street, int night, int n) {
        if (noStreet(street) || !in(night, 0, 6) || !in(n, 0, streets.get(street).bays)) return -1;
        int was = streets.get(street).closed[night];
        streets.get(street).closed[night] = n;
        return was;
    }

    private static void span(boolean[] hours, int a, int b) {
        Arrays.fill(hours, false);
        if (a == -1) return;
        int h = a;
        while (h != b) {
            hours[h] = true;
            h = h == 23 ? 0 : h + 1;
        }
        hours[b] = true;
    }

    private static boolean noSpan(int a, int b) {
        return a != -1 && (!in(a, 0, 23) || !in(b, 0, 23));
    }

    int rule(int zone, int a, int b) {
        if (!in(zone, 0, 3) || noSpan(a, b)) return -1;
        span(ruled[zone], a, b);
        return 1;
    }

    int hours(int zone, int sort, int a, int b) {
        if (!in(zone, 0, 3) || noSpan(a, b) || !in(sort, 0, 2)) return -1;
        span(good[zone][sort], a, b);
        return 1;
    }

    int car(int home) {
        if (noStreet(home)) return -1;
        if (cars.size() == 7) return -2;
        Car c = new Car();
        c.home = home;
        cars.add(c);
        order.add(cars.size() - 1);
        return cars.size() - 1;
    }

    int permit(int car, int sort, int zone, boolean is) {
        if (noCar(car) || !in(sort, 0, 2) || !in(zone, 0, 3)) return -1;
        boolean was = cars.get(car).permit[sort][zone];
        cars.get(car).permit[sort][zone] = is;
        return was != is ? 1 : 0;
    }

    int cards(int car, int zone, int n) {
        if (noCar(car) || !in(zone, 0, 3) || !in(n, 0, 9)) return -1;
        int was = cars.get(car).cards[zone];
        cars.get(car).cards[zone] = n;
        return was;
    }

    int limit(int car, int v) {
        if (noCar(car) || !in(v, 0, 99)) return -1;
        int was = cars.get(car).limit;
        cars.get(car).limit = v;
        return was;
    }

    int late(int car) {
        if (noCar(car)) return -1;
        int behind = order.size() - 1 - order.indexOf(car);
        order.remove(Integer.valueOf(car));
        order.add(car);
        return behind;
    }

    int may(int car, int street, int hour) {
        if (noCar(car) || noStreet(street) || !in(hour, 0, 23)) return -1;
        int zone = streets.get(street).zone;
        boolean free = !ruled[zone][hour];
        for (int sort = 0; sort < 3; sort++) {
            free |= cars.get(car).permit[sort][zone] && good[zone][sort][hour];
        }
        return free ? 2 : cars.get(car).cards[zone] > 0 ? 1 : 0;
    }

    private int[] open(int night) {
        int[] open = new int[streets.size()];
        for (int s = 0; s < open.length; s++) {
            open[s] = streets.get(s).bays - streets.get(s).closed[night];
        }
        return open;
    }

    private boolean can(int car, int street, int hour) {
        return may(car, street, hour) > 0 && far(car, street) <= cars.get(car).limit;
    }

    private int far(int car, int street) {
        return walks[cars.get(car).home][street];
    }

    private int[] night(int night, int hour) {
        int[] open = open(night);
        int[] at = new int[cars.size()];
        for (int c : order) {
            List<Integer> choice = new ArrayList<>();
            for (int s = 0; s < streets.size(); s++) {
                if (open[s] > 0 && can(c, s, hour)) choice.add(s);
            }
            choice.sort((s, t) -> far(c, s) != far(c, t) ? far(c, s) - far(c, t)
                : may(c, s, hour) != may(c, t, hour) ? may(c, t, hour) - may(c, s, hour) : s - t);
            at[c] = choice.isEmpty() ? OUT : choice.get(0);
            if (at[c] != OUT) open[at[c]]--;
        }
        return at;
    }

    private int[] least(int night, int hour) {
        bestWay = null;
        bestOut = 100;
        bestWalk = 0;
        tryAll(0, new int[cars.size()], open(night), hour, 0, 0);
        return bestWay;
    }

    /** Goes through the ways from the first on, so that of equal ones the first found stays. */
    private void tryAll(int car, int[] at, int[] open, int hour, int out, int walk) {
        if (out > bestOut) return;
        if (car == at.length) {
            if (out < bestOut || walk < bestWalk) {
                bestWay = at.clone();
                bestOut = out;
                bestWalk = walk;
            }
            return;
        }
        for (int s = 0; s < open.length; s++) {
            if (open[s] > 0 && can(car, s, hour)) {
                open[s]--;
                at[car] = s;
                tryAll(car + 1, at, open, hour, out, walk + far(car, s));
                open[s]++;
            }
        }
        at[car] = OUT;
        tryAll(car + 1, at, open, hour, out + 1, walk);
    }

    private int[] way(int night, int hour, boolean least) {
        return least ? least(night, hour) : night(night, hour);
    }

    int stands(int night, int hour, int car, boolean least) {
        if (!in(night, 0, 6) || !in(hour, 0, 23) || noCar(car)) return -1;
        int at = way(night, hour, least)[car];
        return at == OUT ? -3 : at;
    }

    int told(int night, int hour, int what, boolean least) {
        if (!in(night, 0, 6) || !in(hour, 0, 23) || !in(what, 0, 2)) return -1;
        int[] at = way(night, hour, least);
        int[] sum = new int[3];
        for (int c = 0; c < at.length; c++) {
            if (at[c] == OUT) {
                sum[1]++;
            } else {
                sum[0] += far(c, at[c]);
                sum[2] += may(c, at[c], hour) == 1 ? 1 : 0;
            }
        }
        return sum[what];
    }

    int keep(int night, int hour) {
        if (!in(night, 0, 6) || !in(hour, 0, 23)) return -1;
        int[] at = night(night, hour);
        int used = 0;
        for (int c = 0; c < at.length; c++) {
            if (at[c] != OUT && may(c, at[c], hour) == 1) {
                cars.get(c).cards[streets.get(at[c]).zone]--;
                used++;
            }
        }
        return used;
    }

    int moved(int night, int hour, int street, int zone, int what) {
        if (!in(night, 0, 6) || !in(hour, 0, 23) || noStreet(street)) return -1;
        if (!in(zone, 0, 3) || !in(what, 0, 1)) return -1;
        int was = move(street, zone);
        int answer = told(night, hour, what, true);
        move(street, was);
        return answer;
    }

    int gain(int street, int v) {
        if (noStreet(street) || !in(v, 0, 99)) return -1;
        int was = streets.get(street).gain;
        streets.get(street).gain = v;
        return was;
    }

    int fine(int v) {
        if (!in(v, 1, 500)) return -1;
        int was = fine;
        fine = v;
        return was;
    }

    /** In parts of 1/60, in which every stake is whole, as it is shared by at most 5 streets. */
    private long stakeInParts() {
        for (long v = 0; ; v++) {
            long sum = 0;
            for (Street s : streets) {
                sum += Math.max(0, s.gain * 60L - v);
            }
            if (sum <= fine * 60L) return v;
        }
    }

    private static int part(long above, long below, int what) {
        long common = above;
        for (long rest = below; rest != 0; ) {
            long next = common % rest;
            common = rest;
            rest = next;
        }
        return (int) ((what == 0 ? above : below) / common);
    }

    int turn(int street, int what) {
        if (noStreet(street) || !in(what, 0, 1)) return -1;
        return part(Math.max(0, streets.get(street).gain * 60L - stakeInParts()), fine * 60L, what);
    }

    int stake(int what) {
        if (!in(what, 0, 1)) return -1;
        return part(stakeInParts(), 60, what);
    }

    int ticket(int car, int street, int hour, int sign) {
        if (noCar(car) || noStreet(street) || !in(hour, 0, 23) || !in(sign, 0, 2)) return -1;
        if (tickets.size() == 20) return -2;
        int how = may(car, street, hour) > 0 || sign == 0 ? 0 : sign == 1 ? 1 : 2;
        tickets.add(new Ticket(car, street, hour, sign, streets.get(street).zone, how));
        return tickets.size() - 1;
    }

    int of(int ticket, int what) {
        if (!in(ticket, 0, tickets.size() - 1) || !in(what, 0, 7)) return -1;
        Ticket t = tickets.get(ticket);
        int saw = 0;
        int missed = 0;
        for (int i = 0; i < tickets.size(); i++) {
            Ticket o = tickets.get(i);
            if (i != ticket && o.zone == t.zone && o.hour == t.hour) {
                saw += o.sign == 1 ? 1 : 0;
                missed += o.sign == 0 ? 1 : 0;
            }
        }
        int byLikes = t.how != 2 ? t.how : saw > missed ? 1 : saw < missed ? 0 : 2;
        return new int[] {t.car, t.street, t.hour, t.sign, t.zone, t.how, byLikes, saw + missed}[what];
    }

    int many(int what) {
        int[] how = new int[3];
        for (Ticket t : tickets) {
            how[t.how]++;
        }
        int bays = 0;
        for (Street s : streets) {
            bays += s.bays;
        }
        int left = 0;
        for (Car c : cars) {
            left += Arrays.stream(c.cards).sum();
        }
        int[] all = {streets.size(), cars.size(), tickets.size(), how[1], how[0], how[2], bays, left};
        return in(what, 0, 7) ? all[what] : -1;
    }
}

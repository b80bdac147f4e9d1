import java.util.Random;

/** Runs of 512 calls, drawn from fixed seeds, on ParkDesk and on PlainDesk beside it. */
public final class RandomRunsTest {
    private static final int RUNS = 400;
    private static final int CALLS = 512;
    private static final int[] WRONG = {-1, -2, 24, 100, 501, Integer.MIN_VALUE, Integer.MAX_VALUE};
    private static final Due D = new Due("RandomRunsTest");

    private final Random random;
    private final int run;
    private final int wrongOneIn;
    private final ParkDesk x = new ParkDesk();
    private final PlainDesk y = new PlainDesk();

    private RandomRunsTest(int run) {
        this.run = run;
        random = new Random(run);
        wrongOneIn = run % 2 == 0 ? 12 : 200;
    }

    public static void main(String[] args) {
        for (int run = 0; run < RUNS; run++) {
            RandomRunsTest test = new RandomRunsTest(run);
            for (int call = 0; call < CALLS; call++) {
                test.step(call);
            }
        }
        D.end();
    }

    /** 0 to most, now and then one more or a number far off. */
    private int upTo(int most) {
        if (random.nextInt(wrongOneIn) == 0) {
            return random.nextBoolean() ? most + 1 : WRONG[random.nextInt(WRONG.length)];
        }
        return random.nextInt(most + 1);
    }

    /** A number out of few, so that equal walks and stakes are common. */
    private int few(int most) {
        return random.nextInt(3) == 0 ? upTo(most) : Math.min(most, random.nextInt(4) * 5);
    }

    private int street() {
        return upTo(Math.max(0, y.many(0) - 1));
    }

    private int car() {
        return upTo(Math.max(0, y.many(1) - 1));
    }

    private int hour() {
        return random.nextInt(4) > 0 ? 20 + random.nextInt(4) : upTo(23);
    }

    private int start() {
        return random.nextInt(8) == 0 ? -1 : upTo(23);
    }

    private void step(int call) {
        int kind = call < 14 ? call % 2 : random.nextInt(32);
        if (kind < 8) {
            streets(kind, call);
        } else if (kind < 15) {
            cars(kind);
        } else if (kind < 24) {
            nights(kind);
        } else {
            others(kind);
        }
    }

    private void due(String name, int got, int want, int... args) {
        StringBuilder call = new StringBuilder("run " + run + ": " + name);
        for (int arg : args) {
            call.append(' ').append(arg);
        }
        D.due(call.toString(), got, want);
    }

    private void streets(int kind, int call) {
        int a = street();
        int b = street();
        int zone = upTo(3);
        int from = start();
        int to = upTo(23);
        int few = few(50);
        switch (kind) {
            case 0 -> {
                int bays = call < 14 ? random.nextInt(3) : upTo(5);
                due("street", x.street(zone, bays), y.street(zone, bays), zone, bays);
            }
            case 1 -> due("car", x.car(a), y.car(a), a);
            case 2 -> due("move", x.move(a, zone), y.move(a, zone), a, zone);
            case 3, 4 -> due("walk", x.walk(a, b, few), y.walk(a, b, few), a, b, few);
            case 5 -> {
                int night = upTo(6);
                int n = upTo(3);
                due("close", x.close(a, night, n), y.close(a, night, n), a, night, n);
            }
            case 6 -> due("rule", x.rule(zone, from, to), y.rule(zone, from, to), zone, from, to);
            default -> {
                int sort = upTo(2);
                due("hours", x.hours(zone, sort, from, to), y.hours(zone, sort, from, to),
                    zone, sort, from, to);
            }
        }
    }

    private void cars(int kind) {
        int car = car();
        int zone = upTo(3);
        switch (kind) {
            case 8, 9 -> {
                int sort = upTo(2);
                boolean is = random.nextBoolean();
                due("permit", x.permit(car, sort, zone, is), y.permit(car, sort, zone, is),
                    car, sort, zone, is ? 1 : 0);
            }
            case 10, 11 -> {
                int n = random.nextInt(3) > 0 ? random.nextInt(3) : upTo(9);
                due("cards", x.cards(car, zone, n), y.cards(car, zone, n), car, zone, n);
            }
            case 12 -> {
                int v = random.nextInt(2) == 0 ? few(50) : upTo(99);
                due("limit", x.limit(car, v), y.limit(car, v), car, v);
            }
            case 13 -> due("late", x.late(car), y.late(car), car);
            default -> {
                int a = street();
                int hour = hour();
                due("may", x.may(car, a, hour), y.may(car, a, hour), car, a, hour);
            }
        }
    }

    private void nights(int kind) {
        int night = upTo(6);
        int hour = hour();
        boolean least = random.nextBoolean();
        if (kind < 18) {
            int car = car();
            due("stands", x.stands(night, hour, car, least), y.stands(night, hour, car, least),
                night, hour, car, least ? 1 : 0);
        } else if (kind < 21) {
            int what = upTo(2);
            due("told", x.told(night, hour, what, least), y.told(night, hour, what, least),
                night, hour, what, least ? 1 : 0);
        } else if (kind < 22) {
            due("keep", x.keep(night, hour), y.keep(night, hour), night, hour);
        } else {
            int a = street();
            int zone = upTo(3);
            int what = upTo(1);
            due("moved", x.moved(night, hour, a, zone, what), y.moved(night, hour, a, zone, what),
                night, hour, a, zone, what);
        }
    }

    private void others(int kind) {
        int a = street();
        int what = upTo(1);
        switch (kind) {
            case 24 -> {
                int v = upTo(99);
                due("gain", x.gain(a, v), y.gain(a, v), a, v);
            }
            case 25 -> {
                int v = random.nextBoolean() ? upTo(500) : upTo(150);
                due("fine", x.fine(v), y.fine(v), v);
            }
            case 26 -> due("turn", x.turn(a, what), y.turn(a, what), a, what);
            case 27 -> due("stake", x.stake(what), y.stake(what), what);
            case 28 -> {
                int car = car();
                int hour = 20 + random.nextInt(2);
                int sign = upTo(2);
                due("ticket", x.ticket(car, a, hour, sign), y.ticket(car, a, hour, sign),
                    car, a, hour, sign);
            }
            case 29, 30 -> {
                int ticket = upTo(Math.max(0, y.many(2) - 1));
                int asked = upTo(7);
                due("of", x.of(ticket, asked), y.of(ticket, asked), ticket, asked);
            }
            default -> {
                int asked = upTo(7);
                due("many", x.many(asked), y.many(asked), asked);
            }
        }
    }
}

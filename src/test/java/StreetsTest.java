/** Promises 2 to 7: street, move, walk, close, rule, hours. */
public final class StreetsTest {
    private static final Due D = new Due("StreetsTest");

    public static void main(String[] args) {
        streetsCome();
        streetsMove();
        walksAreTold();
        baysClose();
        zonesAreRuled();
        hoursOfSorts();
        D.end();
    }

    private static void streetsCome() {
        ParkDesk x = new ParkDesk();
        D.due("street(-1, 0)", x.street(-1, 0), -1);
        D.due("street(4, 0)", x.street(4, 0), -1);
        D.due("street(0, -1)", x.street(0, -1), -1);
        D.due("street(0, 6)", x.street(0, 6), -1);
        D.due("many(0)", x.many(0), 0);
        D.due("street(0, 0)", x.street(0, 0), 0);
        D.due("street(3, 5)", x.street(3, 5), 1);
        D.due("street(1, 1)", x.street(1, 1), 2);
        D.due("street(1, 2)", x.street(1, 2), 3);
        D.due("street(2, 3)", x.street(2, 3), 4);
        D.due("street(2, 3)", x.street(2, 3), -2);
        D.due("street(4, 3) when full", x.street(4, 3), -1);
        D.due("street(0, 6) when full", x.street(0, 6), -1);
        D.due("many(0)", x.many(0), 5);
        D.due("many(6)", x.many(6), 11);
        int[] zones = {0, 3, 1, 1, 2};
        for (int s = 0; s < 5; s++) {
            D.due("zone of " + s, x.move(s, 0), zones[s]);
        }
    }

    private static void streetsMove() {
        ParkDesk x = new ParkDesk();
        D.due("move(0, 1)", x.move(0, 1), -1);
        x.street(2, 1);
        x.car(0);
        x.rule(3, 0, 23);
        D.due("move(-1, 0)", x.move(-1, 0), -1);
        D.due("move(1, 0)", x.move(1, 0), -1);
        D.due("move(0, 4)", x.move(0, 4), -1);
        D.due("move(0, -1)", x.move(0, -1), -1);
        D.due("may", x.may(0, 0, 5), 2);
        D.due("move(0, 3)", x.move(0, 3), 2);
        D.due("may in the ruled zone", x.may(0, 0, 5), 0);
        D.due("move(0, 3) again", x.move(0, 3), 3);
        D.due("move(0, 0)", x.move(0, 0), 3);
        D.due("may", x.may(0, 0, 5), 2);
    }

    private static void walksAreTold() {
        ParkDesk x = new ParkDesk();
        for (int s = 0; s < 3; s++) {
            x.street(0, 1);
        }
        D.due("walk(0, 1, 0)", x.walk(0, 1, 0), 10);
        D.due("walk(1, 0, 50)", x.walk(1, 0, 50), 0);
        D.due("walk(0, 1, 50)", x.walk(0, 1, 50), 50);
        D.due("walk(0, 1, 51)", x.walk(0, 1, 51), -1);
        D.due("walk(0, 1, -1)", x.walk(0, 1, -1), -1);
        D.due("walk(1, 1, 1)", x.walk(1, 1, 1), -1);
        D.due("walk(3, 0, 1)", x.walk(3, 0, 1), -1);
        D.due("walk(0, 3, 1)", x.walk(0, 3, 1), -1);
        D.due("walk(-1, 0, 1)", x.walk(-1, 0, 1), -1);
        D.due("walk(0, -1, 1)", x.walk(0, -1, 1), -1);
        D.due("walk(0, 1, 7)", x.walk(0, 1, 7), 50);
        D.due("walk(2, 1, 7)", x.walk(2, 1, 7), 10);
        D.due("a later street", x.street(0, 1), 3);
        D.due("walk(3, 0, 1)", x.walk(3, 0, 1), 10);
    }

    private static void baysClose() {
        ParkDesk x = new ParkDesk();
        x.street(0, 2);
        x.street(0, 5);
        for (int c = 0; c < 3; c++) {
            x.car(0);
        }
        D.due("close(0, 0, 3)", x.close(0, 0, 3), -1);
        D.due("close(0, 0, -1)", x.close(0, 0, -1), -1);
        D.due("close(0, -1, 1)", x.close(0, -1, 1), -1);
        D.due("close(0, 7, 1)", x.close(0, 7, 1), -1);
        D.due("close(2, 0, 1)", x.close(2, 0, 1), -1);
        D.due("close(-1, 0, 0)", x.close(-1, 0, 0), -1);
        D.due("told before", x.told(6, 0, 0, false), 10);
        D.due("close(0, 6, 2)", x.close(0, 6, 2), 0);
        D.due("told on the night", x.told(6, 0, 0, false), 30);
        D.due("told on the night, least", x.told(6, 0, 0, true), 30);
        D.due("told on another night", x.told(5, 0, 0, false), 10);
        D.due("close(0, 6, 1)", x.close(0, 6, 1), 2);
        D.due("told on the night", x.told(6, 0, 0, false), 20);
        D.due("close(0, 6, 0)", x.close(0, 6, 0), 1);
        D.due("told on the night", x.told(6, 0, 0, false), 10);
        D.due("close(1, 6, 5)", x.close(1, 6, 5), 0);
        D.due("out on the night", x.told(6, 0, 1, false), 1);
        D.due("bays in all, closed ones too", x.many(6), 7);
    }

    private static void zonesAreRuled() {
        ParkDesk x = new ParkDesk();
        x.street(1, 1);
        x.street(2, 1);
        x.car(0);
        D.due("rule(4, 0, 0)", x.rule(4, 0, 0), -1);
        D.due("rule(-1, 0, 0)", x.rule(-1, 0, 0), -1);
        D.due("rule(4, -1, 0)", x.rule(4, -1, 0), -1);
        D.due("rule(1, 24, 0)", x.rule(1, 24, 0), -1);
        D.due("rule(1, -2, 0)", x.rule(1, -2, 0), -1);
        D.due("rule(1, 0, 24)", x.rule(1, 0, 24), -1);
        D.due("rule(1, 0, -1)", x.rule(1, 0, -1), -1);
        ruledIn(x, 25, 25);
        D.due("rule(1, 8, 17)", x.rule(1, 8, 17), 1);
        ruledIn(x, 8, 17);
        D.due("rule(1, 8, 24)", x.rule(1, 8, 24), -1);
        ruledIn(x, 8, 17);
        D.due("rule(1, 22, 6)", x.rule(1, 22, 6), 1);
        ruledIn(x, 22, 6);
        D.due("rule(1, 7, 7)", x.rule(1, 7, 7), 1);
        ruledIn(x, 7, 7);
        D.due("rule(1, 0, 23)", x.rule(1, 0, 23), 1);
        ruledIn(x, 0, 23);
        D.due("rule(1, 23, 0)", x.rule(1, 23, 0), 1);
        ruledIn(x, 23, 0);
        D.due("rule(1, -1, -50)", x.rule(1, -1, -50), 1);
        ruledIn(x, 25, 25);
    }

    private static void ruledIn(ParkDesk x, int a, int b) {
        for (int h = 0; h < 24; h++) {
            D.due("may at " + h + " ruled " + a + " to " + b, x.may(0, 0, h), in(h, a, b) ? 0 : 2);
        }
        D.due("may in another zone", x.may(0, 1, 8), 2);
    }

    /** Goes from a on, hour by hour, until b. */
    private static boolean in(int hour, int a, int b) {
        if (a > 23) {
            return false;
        }
        for (int h = a; ; h = (h + 1) % 24) {
            if (h == hour) {
                return true;
            }
            if (h == b) {
                return false;
            }
        }
    }

    private static void hoursOfSorts() {
        ParkDesk x = new ParkDesk();
        x.street(1, 1);
        x.car(0);
        x.rule(1, 0, 23);
        x.permit(0, 2, 1, true);
        D.due("hours(4, 0, 0, 0)", x.hours(4, 2, 0, 0), -1);
        D.due("hours(-1, 0, 0, 0)", x.hours(-1, 2, 0, 0), -1);
        D.due("hours(1, 3, 0, 0)", x.hours(1, 3, 0, 0), -1);
        D.due("hours(1, -1, 0, 0)", x.hours(1, -1, 0, 0), -1);
        D.due("hours(1, 3, -1, 0)", x.hours(1, 3, -1, 0), -1);
        D.due("hours(1, 2, 24, 0)", x.hours(1, 2, 24, 0), -1);
        D.due("hours(1, 2, -2, 0)", x.hours(1, 2, -2, 0), -1);
        D.due("hours(1, 2, 0, 24)", x.hours(1, 2, 0, 24), -1);
        D.due("hours(1, 2, 0, -1)", x.hours(1, 2, 0, -1), -1);
        goodIn(x, 25, 25);
        D.due("hours(1, 1, 0, 23)", x.hours(1, 1, 0, 23), 1);
        D.due("hours(2, 2, 0, 23)", x.hours(2, 2, 0, 23), 1);
        goodIn(x, 25, 25);
        D.due("hours(1, 2, 9, 9)", x.hours(1, 2, 9, 9), 1);
        goodIn(x, 9, 9);
        D.due("hours(1, 2, 20, 24)", x.hours(1, 2, 20, 24), -1);
        goodIn(x, 9, 9);
        D.due("hours(1, 2, 20, 4)", x.hours(1, 2, 20, 4), 1);
        goodIn(x, 20, 4);
        D.due("hours(1, 2, 4, 20)", x.hours(1, 2, 4, 20), 1);
        goodIn(x, 4, 20);
        D.due("hours(1, 2, -1, 77)", x.hours(1, 2, -1, 77), 1);
        goodIn(x, 25, 25);
    }

    private static void goodIn(ParkDesk x, int a, int b) {
        for (int h = 0; h < 24; h++) {
            D.due("may at " + h + " good " + a + " to " + b, x.may(0, 0, h), in(h, a, b) ? 2 : 0);
        }
    }
}

/** Promises 8 to 13: car, permit, cards, limit, late, may. */
public final class CarsTest {
    private static final Due D = new Due("CarsTest");

    public static void main(String[] args) {
        carsCome();
        permits();
        cards();
        limits();
        lateCars();
        lateCarAndNewCar();
        mayStand();
        D.end();
    }

    private static void carsCome() {
        ParkDesk x = new ParkDesk();
        D.due("car(0) without streets", x.car(0), -1);
        x.street(0, 0);
        x.street(0, 5);
        D.due("car(2)", x.car(2), -1);
        D.due("car(-1)", x.car(-1), -1);
        D.due("many(1)", x.many(1), 0);
        for (int c = 0; c < 7; c++) {
            D.due("car " + c, x.car(c % 2), c);
        }
        D.due("an eighth car", x.car(0), -2);
        D.due("an eighth car at no street", x.car(2), -1);
        D.due("many(1)", x.many(1), 7);
        D.due("homes: walks of the five that stand", x.told(0, 0, 0, false), 30);
        D.due("homes: out", x.told(0, 0, 1, false), 2);
    }

    private static void permits() {
        ParkDesk x = new ParkDesk();
        D.due("permit without cars", x.permit(0, 0, 0, true), -1);
        x.street(0, 1);
        x.car(0);
        x.car(0);
        D.due("permit(2, 0, 0, true)", x.permit(2, 0, 0, true), -1);
        D.due("permit(-1, 0, 0, true)", x.permit(-1, 0, 0, true), -1);
        D.due("permit(0, 3, 0, true)", x.permit(0, 3, 0, true), -1);
        D.due("permit(0, -1, 0, true)", x.permit(0, -1, 0, true), -1);
        D.due("permit(0, 0, 4, true)", x.permit(0, 0, 4, true), -1);
        D.due("permit(0, 0, -1, true)", x.permit(0, 0, -1, true), -1);
        for (int i = 0; i < 24; i++) {
            int car = i / 12;
            int sort = i / 4 % 3;
            int zone = i % 4;
            D.due("no permit at first", x.permit(car, sort, zone, false), 0);
            D.due("new permit", x.permit(car, sort, zone, true), 1);
            D.due("permit again", x.permit(car, sort, zone, true), 0);
        }
        D.due("permit taken", x.permit(1, 2, 3, false), 1);
        D.due("permit taken again", x.permit(1, 2, 3, false), 0);
        D.due("another stays", x.permit(0, 2, 3, true), 0);
    }

    private static void cards() {
        ParkDesk x = new ParkDesk();
        D.due("cards without cars", x.cards(0, 0, 1), -1);
        x.street(0, 1);
        x.car(0);
        x.car(0);
        D.due("cards(0, 0, 9)", x.cards(0, 0, 9), 0);
        D.due("cards(0, 0, 10)", x.cards(0, 0, 10), -1);
        D.due("cards(0, 0, -1)", x.cards(0, 0, -1), -1);
        D.due("cards(0, 4, 1)", x.cards(0, 4, 1), -1);
        D.due("cards(0, -1, 1)", x.cards(0, -1, 1), -1);
        D.due("cards(2, 0, 1)", x.cards(2, 0, 1), -1);
        D.due("cards(-1, 0, 1)", x.cards(-1, 0, 1), -1);
        D.due("cards(0, 0, 4)", x.cards(0, 0, 4), 9);
        D.due("cards(0, 3, 5)", x.cards(0, 3, 5), 0);
        D.due("cards(1, 0, 1)", x.cards(1, 0, 1), 0);
        D.due("many(7)", x.many(7), 10);
        D.due("cards(0, 0, 0)", x.cards(0, 0, 0), 4);
        D.due("many(7)", x.many(7), 6);
    }

    private static void limits() {
        ParkDesk x = new ParkDesk();
        D.due("limit without cars", x.limit(0, 1), -1);
        x.street(0, 0);
        x.street(0, 1);
        x.car(0);
        D.due("limit(0, 100)", x.limit(0, 100), -1);
        D.due("limit(0, -1)", x.limit(0, -1), -1);
        D.due("limit(1, 1)", x.limit(1, 1), -1);
        D.due("limit(-1, 1)", x.limit(-1, 1), -1);
        D.due("limit(0, 9)", x.limit(0, 9), 99);
        D.due("too far", x.stands(0, 0, 0, false), -3);
        D.due("too far, least", x.stands(0, 0, 0, true), -3);
        D.due("limit(0, 10)", x.limit(0, 10), 9);
        D.due("just near enough", x.stands(0, 0, 0, false), 1);
        D.due("just near enough, least", x.stands(0, 0, 0, true), 1);
        D.due("limit(0, 0)", x.limit(0, 0), 10);
        D.due("limit(0, 99)", x.limit(0, 99), 0);
    }

    private static void lateCars() {
        ParkDesk x = new ParkDesk();
        D.due("late without cars", x.late(0), -1);
        x.street(0, 1);
        for (int c = 0; c < 4; c++) {
            x.car(0);
        }
        first(x, 0);
        D.due("late(4)", x.late(4), -1);
        D.due("late(-1)", x.late(-1), -1);
        first(x, 0);
        D.due("late(0)", x.late(0), 3);
        first(x, 1);
        D.due("late(0) again", x.late(0), 0);
        D.due("late(2)", x.late(2), 2);
        D.due("late(1)", x.late(1), 3);
        first(x, 3);
        D.due("late(3), order was 3 0 2 1", x.late(3), 3);
        first(x, 0);
        D.due("late(2), order was 0 2 1 3", x.late(2), 2);
        D.due("late(0), order was 0 1 3 2", x.late(0), 3);
        first(x, 1);
        D.due("least knows no order", x.stands(0, 0, 0, true), 0);
    }

    /** The one bay goes to whoever comes home first. */
    private static void first(ParkDesk x, int car) {
        for (int c = 0; c < 4; c++) {
            D.due("stands " + c + ", first is " + car, x.stands(0, 0, c, false), c == car ? 0 : -3);
        }
    }

    private static void lateCarAndNewCar() {
        ParkDesk x = new ParkDesk();
        x.street(0, 1);
        x.car(0);
        x.car(0);
        D.due("late(0)", x.late(0), 1);
        D.due("a new car", x.car(0), 2);
        D.due("the new one comes home behind", x.late(0), 1);
    }

    private static void mayStand() {
        ParkDesk x = new ParkDesk();
        D.due("may without cars", x.may(0, 0, 0), -1);
        x.street(1, 0);
        x.street(2, 1);
        x.car(1);
        x.car(0);
        D.due("may(2, 0, 0)", x.may(2, 0, 0), -1);
        D.due("may(-1, 0, 0)", x.may(-1, 0, 0), -1);
        D.due("may(0, 2, 0)", x.may(0, 2, 0), -1);
        D.due("may(0, -1, 0)", x.may(0, -1, 0), -1);
        D.due("may(0, 0, 24)", x.may(0, 0, 24), -1);
        D.due("may(0, 0, -1)", x.may(0, 0, -1), -1);
        D.due("unruled", x.may(0, 0, 10), 2);
        x.cards(0, 1, 1);
        D.due("unruled with a card", x.may(0, 0, 10), 2);
        x.rule(1, 10, 11);
        D.due("ruled with a card", x.may(0, 0, 10), 1);
        D.due("ruled, another's card", x.may(1, 0, 10), 0);
        D.due("ruled before", x.may(0, 0, 9), 2);
        D.due("ruled later", x.may(0, 0, 11), 1);
        D.due("ruled after", x.may(0, 0, 12), 2);
        x.permit(0, 1, 1, true);
        D.due("a permit without hours", x.may(0, 0, 10), 1);
        x.hours(1, 0, 0, 23);
        x.hours(2, 1, 0, 23);
        D.due("hours of another sort and zone", x.may(0, 0, 10), 1);
        x.hours(1, 1, 11, 11);
        D.due("hours of it, not yet", x.may(0, 0, 10), 1);
        D.due("hours of it", x.may(0, 0, 11), 2);
        D.due("another car has no permit", x.may(1, 0, 11), 0);
        x.permit(1, 1, 2, true);
        D.due("a permit for another zone", x.may(1, 0, 11), 0);
        x.permit(0, 1, 1, false);
        D.due("the permit is taken", x.may(0, 0, 11), 1);
        x.cards(0, 1, 0);
        x.cards(0, 2, 9);
        D.due("cards for another zone", x.may(0, 0, 11), 0);
        x.move(0, 2);
        x.rule(2, 11, 11);
        D.due("the street moved there", x.may(0, 0, 11), 1);
    }
}

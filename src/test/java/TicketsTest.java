/** Promises 22 to 24: ticket, of, many. */
public final class TicketsTest {
    private static final Due D = new Due("TicketsTest");

    public static void main(String[] args) {
        refusals();
        full();
        whatIsKept();
        states();
        asItWasWritten();
        likes();
        likesByZoneAndHour();
        counts();
        D.end();
    }

    private static ParkDesk desk() {
        ParkDesk x = new ParkDesk();
        x.street(1, 2);
        x.street(3, 3);
        x.car(0);
        x.car(1);
        x.rule(1, 0, 11);
        x.rule(3, 0, 11);
        return x;
    }

    private static void refusals() {
        ParkDesk x = new ParkDesk();
        D.due("ticket without cars", x.ticket(0, 0, 0, 0), -1);
        x = desk();
        D.due("ticket(2, 0, 0, 0)", x.ticket(2, 0, 0, 0), -1);
        D.due("ticket(-1, 0, 0, 0)", x.ticket(-1, 0, 0, 0), -1);
        D.due("ticket(0, 2, 0, 0)", x.ticket(0, 2, 0, 0), -1);
        D.due("ticket(0, -1, 0, 0)", x.ticket(0, -1, 0, 0), -1);
        D.due("ticket(0, 0, 24, 0)", x.ticket(0, 0, 24, 0), -1);
        D.due("ticket(0, 0, -1, 0)", x.ticket(0, 0, -1, 0), -1);
        D.due("ticket(0, 0, 0, 3)", x.ticket(0, 0, 0, 3), -1);
        D.due("ticket(0, 0, 0, -1)", x.ticket(0, 0, 0, -1), -1);
        D.due("many(2)", x.many(2), 0);
        D.due("of(0, 0)", x.of(0, 0), -1);
        x.ticket(0, 0, 0, 0);
        D.due("of(-1, 0)", x.of(-1, 0), -1);
        D.due("of(1, 0)", x.of(1, 0), -1);
        D.due("of(0, -1)", x.of(0, -1), -1);
        D.due("of(0, 8)", x.of(0, 8), -1);
        D.due("many(-1)", x.many(-1), -1);
        D.due("many(8)", x.many(8), -1);
    }

    private static void full() {
        ParkDesk x = desk();
        for (int t = 0; t < 20; t++) {
            D.due("ticket " + t, x.ticket(0, 0, 0, t % 2), t);
        }
        D.due("one more", x.ticket(0, 0, 0, 1), -2);
        D.due("one more of no such car", x.ticket(2, 0, 0, 1), -1);
        D.due("one more of no such sign", x.ticket(0, 0, 0, 3), -1);
        D.due("many(2)", x.many(2), 20);
        D.due("likes of 0", x.of(0, 7), 19);
        D.due("of(20, 0)", x.of(20, 0), -1);
    }

    private static void whatIsKept() {
        ParkDesk x = desk();
        x.ticket(1, 0, 23, 2);
        x.ticket(0, 1, 5, 1);
        int[] first = {1, 0, 23, 2, 1, 0, 0, 0};
        int[] second = {0, 1, 5, 1, 3, 1, 1, 0};
        for (int what = 0; what < 8; what++) {
            D.due("of(0, " + what + ")", x.of(0, what), first[what]);
            D.due("of(1, " + what + ")", x.of(1, what), second[what]);
        }
    }

    private static void states() {
        ParkDesk x = desk();
        D.due("may not, sign missing, seen, unknown", states(x, 5), 12);
        D.due("unruled then", states(x, 12), 0);
        x.cards(0, 1, 1);
        D.due("had a card", states(x, 5), 0);
        x.cards(0, 1, 0);
        x.cards(0, 3, 1);
        D.due("had a card of another zone", states(x, 5), 12);
        x.permit(0, 0, 1, true);
        x.hours(1, 0, 5, 5);
        D.due("had a permit", states(x, 5), 0);
        D.due("had a permit that wasn't good then", states(x, 6), 12);
    }

    /** Three tickets, sign missing, seen and unknown: their states as digits. */
    private static int states(ParkDesk x, int hour) {
        int digits = 0;
        for (int sign = 0; sign < 3; sign++) {
            digits = digits * 10 + x.of(x.ticket(0, 0, hour, sign), 5);
        }
        return digits;
    }

    private static void asItWasWritten() {
        ParkDesk x = desk();
        x.cards(0, 1, 1);
        x.ticket(0, 0, 5, 1);
        x.keep(0, 5);
        x.ticket(0, 0, 5, 1);
        D.due("void by the card it had", x.of(0, 5), 0);
        D.due("good once that was used up", x.of(1, 5), 1);
        x.rule(1, -1, 0);
        D.due("ruled as it was", x.of(1, 5), 1);
        x.rule(1, 0, 23);
        x.permit(0, 0, 1, true);
        x.hours(1, 0, 0, 23);
        D.due("permits as they were", x.of(1, 5), 1);
        x.move(0, 2);
        D.due("zone as it was", x.of(1, 4), 1);
        D.due("state as it was", x.of(1, 5), 1);
    }

    private static void likes() {
        ParkDesk x = desk();
        int doubt = x.ticket(0, 0, 5, 2);
        D.due("no likes", x.of(doubt, 7), 0);
        D.due("in doubt still", x.of(doubt, 6), 2);
        x.ticket(1, 0, 5, 2);
        D.due("one unknown is no like", x.of(doubt, 7), 0);
        x.ticket(1, 0, 5, 1);
        D.due("one saw it", x.of(doubt, 6), 1);
        D.due("it stays in doubt by itself", x.of(doubt, 5), 2);
        x.ticket(1, 0, 5, 0);
        D.due("as many missed it", x.of(doubt, 6), 2);
        x.ticket(1, 0, 5, 0);
        D.due("more missed it", x.of(doubt, 6), 0);
        D.due("likes", x.of(doubt, 7), 3);
        D.due("of one that saw it", x.of(2, 6), 1);
        D.due("likes of one that saw it: without itself", x.of(2, 7), 2);
        D.due("of one that missed it", x.of(3, 6), 0);
        x.cards(1, 1, 9);
        x.ticket(1, 0, 5, 1);
        x.ticket(1, 0, 5, 1);
        D.due("void ones that saw it are likes too", x.of(doubt, 6), 1);
        D.due("likes", x.of(doubt, 7), 5);
        D.due("void stays void by likes", x.of(5, 6), 0);
        D.due("good by itself", x.many(3), 1);
        D.due("in doubt by itself", x.many(5), 2);
    }

    private static void likesByZoneAndHour() {
        ParkDesk x = desk();
        int doubt = x.ticket(0, 0, 5, 2);
        x.ticket(0, 1, 5, 1);
        D.due("another zone", x.of(doubt, 7), 0);
        x.ticket(0, 0, 6, 1);
        D.due("another hour", x.of(doubt, 7), 0);
        x.move(1, 1);
        x.ticket(1, 1, 5, 1);
        D.due("another street of the zone", x.of(doubt, 7), 1);
        x.move(1, 3);
        D.due("the zone as it was", x.of(doubt, 7), 1);
        x.move(0, 3);
        x.ticket(0, 0, 5, 1);
        D.due("the street in another zone", x.of(doubt, 7), 1);
    }

    private static void counts() {
        ParkDesk x = desk();
        x.cards(0, 2, 4);
        x.cards(1, 0, 9);
        x.ticket(0, 0, 5, 1);
        x.ticket(0, 0, 5, 1);
        x.ticket(0, 0, 5, 1);
        x.ticket(0, 0, 5, 0);
        x.ticket(0, 0, 5, 0);
        x.ticket(0, 0, 5, 2);
        int[] want = {2, 2, 6, 3, 2, 1, 5, 13};
        for (int what = 0; what < 8; what++) {
            D.due("many(" + what + ")", x.many(what), want[what]);
        }
    }
}

/** Promises 14 to 17: stands, told, keep, moved. */
public final class NightsTest {
    private static final Due D = new Due("NightsTest");

    public static void main(String[] args) {
        refusals();
        nearestFirst();
        withoutCardAhead();
        leastStreet();
        leastAgainstNight();
        fewestOutAheadOfWalks();
        leastTies();
        leastIgnoresCards();
        keepUsesCards();
        keepOfManyCars();
        moves();
        empty();
        full();
        D.end();
    }

    private static void refusals() {
        ParkDesk x = new ParkDesk();
        x.street(0, 1);
        D.due("stands without cars", x.stands(0, 0, 0, false), -1);
        x.car(0);
        for (int i = 0; i < 2; i++) {
            boolean least = i == 1;
            D.due("stands night -1", x.stands(-1, 0, 0, least), -1);
            D.due("stands night 7", x.stands(7, 0, 0, least), -1);
            D.due("stands hour -1", x.stands(0, -1, 0, least), -1);
            D.due("stands hour 24", x.stands(0, 24, 0, least), -1);
            D.due("stands car -1", x.stands(0, 0, -1, least), -1);
            D.due("stands car 1", x.stands(0, 0, 1, least), -1);
            D.due("stands", x.stands(6, 23, 0, least), 0);
            D.due("told night -1", x.told(-1, 0, 0, least), -1);
            D.due("told night 7", x.told(7, 0, 0, least), -1);
            D.due("told hour -1", x.told(0, -1, 0, least), -1);
            D.due("told hour 24", x.told(0, 24, 0, least), -1);
            D.due("told what -1", x.told(0, 0, -1, least), -1);
            D.due("told what 3", x.told(0, 0, 3, least), -1);
        }
        D.due("keep night -1", x.keep(-1, 0), -1);
        D.due("keep night 7", x.keep(7, 0), -1);
        D.due("keep hour -1", x.keep(0, -1), -1);
        D.due("keep hour 24", x.keep(0, 24), -1);
        D.due("moved night -1", x.moved(-1, 0, 0, 0, 0), -1);
        D.due("moved night 7", x.moved(7, 0, 0, 0, 0), -1);
        D.due("moved hour -1", x.moved(0, -1, 0, 0, 0), -1);
        D.due("moved hour 24", x.moved(0, 24, 0, 0, 0), -1);
        D.due("moved street -1", x.moved(0, 0, -1, 0, 0), -1);
        D.due("moved street 1", x.moved(0, 0, 1, 0, 0), -1);
        D.due("moved zone -1", x.moved(0, 0, 0, -1, 0), -1);
        D.due("moved zone 4", x.moved(0, 0, 0, 4, 0), -1);
        D.due("moved what -1", x.moved(0, 0, 0, 0, -1), -1);
        D.due("moved what 2", x.moved(0, 0, 0, 0, 2), -1);
    }

    private static void nearestFirst() {
        ParkDesk x = new ParkDesk();
        x.street(0, 1);
        x.street(0, 1);
        x.street(0, 1);
        x.walk(0, 1, 9);
        x.walk(0, 2, 8);
        x.car(0);
        x.car(0);
        x.car(0);
        x.car(0);
        D.due("first at home", x.stands(0, 0, 0, false), 0);
        D.due("second at the nearer", x.stands(0, 0, 1, false), 2);
        D.due("third at the other", x.stands(0, 0, 2, false), 1);
        D.due("fourth is out", x.stands(0, 0, 3, false), -3);
        D.due("walks", x.told(0, 0, 0, false), 17);
        D.due("out", x.told(0, 0, 1, false), 1);
        D.due("by a card", x.told(0, 0, 2, false), 0);
    }

    private static void withoutCardAhead() {
        ParkDesk x = new ParkDesk();
        x.street(0, 0);
        x.street(1, 1);
        x.street(2, 1);
        x.street(2, 1);
        x.rule(1, 0, 11);
        x.car(0);
        x.cards(0, 1, 1);
        D.due("without a card ahead of the lesser street", x.stands(0, 0, 0, false), 2);
        D.due("the least street when no card is needed", x.stands(0, 12, 0, false), 1);
        x.walk(0, 1, 9);
        D.due("less walk ahead of no card", x.stands(0, 0, 0, false), 1);
        D.due("by a card", x.told(0, 0, 2, false), 1);
        D.due("asking uses up none", x.many(7), 1);
        x.cards(0, 1, 0);
        D.due("no card", x.stands(0, 0, 0, false), 2);
    }

    private static void leastStreet() {
        ParkDesk x = new ParkDesk();
        x.street(0, 1);
        x.street(0, 1);
        x.street(0, 1);
        x.walk(2, 1, 0);
        x.walk(2, 0, 0);
        x.car(2);
        x.car(2);
        x.car(2);
        for (int c = 0; c < 3; c++) {
            D.due("stands " + c, x.stands(0, 0, c, false), c);
            D.due("stands, least " + c, x.stands(0, 0, c, true), c);
        }
        x.late(0);
        D.due("the last takes what is left", x.stands(0, 0, 0, false), 2);
        D.due("the least goes by numbers", x.stands(0, 0, 0, true), 0);
    }

    private static void leastAgainstNight() {
        ParkDesk x = new ParkDesk();
        x.street(0, 1);
        x.street(0, 1);
        x.street(0, 1);
        x.walk(0, 1, 4);
        x.walk(0, 2, 5);
        x.walk(1, 2, 50);
        x.car(0);
        x.car(0);
        x.car(1);
        D.due("night", x.told(0, 0, 0, false), 54);
        D.due("least", x.told(0, 0, 0, true), 5);
        D.due("least 0", x.stands(0, 0, 0, true), 0);
        D.due("least 1", x.stands(0, 0, 1, true), 2);
        D.due("least 2", x.stands(0, 0, 2, true), 1);
        D.due("moved is of the least", x.moved(0, 0, 2, 3, 0), 5);
        x.close(2, 3, 1);
        D.due("closed: least out", x.told(3, 0, 1, true), 1);
        D.due("closed: least walks", x.told(3, 0, 0, true), 0);
        D.due("closed: least 1", x.stands(3, 0, 1, true), -3);
    }

    private static void fewestOutAheadOfWalks() {
        ParkDesk x = new ParkDesk();
        x.street(0, 1);
        x.street(0, 1);
        x.walk(0, 1, 50);
        x.car(0);
        x.car(0);
        x.limit(1, 49);
        D.due("night out", x.told(0, 0, 1, false), 1);
        D.due("least out", x.told(0, 0, 1, true), 0);
        D.due("least walks", x.told(0, 0, 0, true), 50);
        D.due("least 0", x.stands(0, 0, 0, true), 1);
        D.due("least 1", x.stands(0, 0, 1, true), 0);
    }

    private static void leastTies() {
        ParkDesk x = new ParkDesk();
        x.street(0, 1);
        x.street(0, 1);
        for (int c = 0; c < 3; c++) {
            x.car(c % 2);
        }
        x.walk(0, 1, 0);
        D.due("least 0", x.stands(0, 0, 0, true), 0);
        D.due("least 1", x.stands(0, 0, 1, true), 1);
        D.due("least 2 is out, as out stands behind all", x.stands(0, 0, 2, true), -3);
        x.limit(0, 0);
        x.car(1);
        x.late(0);
        x.late(1);
        D.due("least 0, late", x.stands(0, 0, 0, true), 0);
        D.due("least 1, late", x.stands(0, 0, 1, true), 1);
    }

    private static void leastIgnoresCards() {
        ParkDesk x = new ParkDesk();
        x.street(1, 1);
        x.street(0, 1);
        x.street(0, 0);
        x.rule(1, 0, 23);
        x.car(2);
        x.cards(0, 1, 1);
        D.due("night", x.stands(0, 0, 0, false), 1);
        D.due("least goes by the street alone", x.stands(0, 0, 0, true), 0);
        D.due("by a card, night", x.told(0, 0, 2, false), 0);
        D.due("by a card, least", x.told(0, 0, 2, true), 1);
        D.due("the night is kept, not the least", x.keep(0, 0), 0);
    }

    private static void keepUsesCards() {
        ParkDesk x = new ParkDesk();
        x.street(3, 1);
        x.rule(3, 0, 0);
        x.car(0);
        x.cards(0, 3, 2);
        x.cards(0, 2, 2);
        D.due("keep when no card is needed", x.keep(0, 1), 0);
        D.due("keep", x.keep(0, 0), 1);
        D.due("cards left", x.many(7), 3);
        D.due("keep of the same night", x.keep(0, 0), 1);
        D.due("keep without cards", x.keep(0, 0), 0);
        D.due("of the zone", x.cards(0, 3, 0), 0);
        D.due("of another zone", x.cards(0, 2, 2), 2);
        D.due("refused", x.keep(7, 0), -1);
        x.cards(0, 3, 1);
        x.hours(3, 0, 0, 0);
        x.permit(0, 0, 3, true);
        D.due("keep with a permit", x.keep(6, 0), 0);
        D.due("none used up", x.cards(0, 3, 1), 1);
    }

    private static void keepOfManyCars() {
        ParkDesk x = new ParkDesk();
        x.street(0, 2);
        x.street(1, 5);
        x.rule(0, 0, 23);
        x.rule(1, 0, 23);
        for (int c = 0; c < 4; c++) {
            x.car(0);
            x.cards(c, 0, 2);
            x.cards(c, 1, 3);
        }
        D.due("by a card", x.told(0, 0, 2, false), 4);
        D.due("keep", x.keep(0, 0), 4);
        int[] first = {1, 1, 2, 2};
        int[] second = {3, 3, 2, 2};
        for (int c = 0; c < 4; c++) {
            D.due("cards for 0 of " + c, x.cards(c, 0, 0), first[c]);
            D.due("cards for 1 of " + c, x.cards(c, 1, 0), second[c]);
        }
    }

    private static void moves() {
        ParkDesk x = new ParkDesk();
        x.street(0, 1);
        x.street(0, 2);
        x.rule(1, 6, 6);
        x.car(0);
        x.car(0);
        D.due("walks now", x.told(0, 6, 0, true), 10);
        D.due("moved away: walks", x.moved(0, 6, 0, 1, 0), 20);
        D.due("moved away: out", x.moved(0, 6, 0, 1, 1), 0);
        D.due("moved away: other: out", x.moved(0, 6, 1, 1, 1), 1);
        D.due("moved away: other: walks", x.moved(0, 6, 1, 1, 0), 0);
        D.due("moved at another hour", x.moved(0, 7, 1, 1, 1), 0);
        D.due("moved to where it is", x.moved(0, 6, 0, 0, 0), 10);
        x.close(1, 2, 1);
        D.due("moved on a night of closed bays", x.moved(2, 6, 0, 1, 1), 1);
        x.cards(1, 1, 1);
        D.due("moved with a card", x.moved(0, 6, 0, 1, 0), 10);
        D.due("nothing is changed", x.move(0, 0), 0);
        D.due("no card is used up", x.many(7), 1);
    }

    private static void empty() {
        ParkDesk x = new ParkDesk();
        for (int what = 0; what < 3; what++) {
            D.due("no streets: told", x.told(0, 0, what, false), 0);
            D.due("no streets: told, least", x.told(0, 0, what, true), 0);
        }
        D.due("no streets: keep", x.keep(0, 0), 0);
        D.due("no streets: moved", x.moved(0, 0, 0, 0, 0), -1);
        x.street(0, 0);
        D.due("no cars: moved", x.moved(0, 0, 0, 1, 1), 0);
        x.car(0);
        D.due("no bays: stands", x.stands(0, 0, 0, false), -3);
        D.due("no bays: stands, least", x.stands(0, 0, 0, true), -3);
        D.due("no bays: out", x.told(0, 0, 1, true), 1);
    }

    private static void full() {
        ParkDesk x = new ParkDesk();
        for (int s = 0; s < 5; s++) {
            x.street(0, 1);
        }
        for (int s = 0; s < 4; s++) {
            x.walk(s, 4, 50);
        }
        for (int c = 0; c < 7; c++) {
            x.car(4);
        }
        D.due("walks", x.told(0, 0, 0, false), 200);
        D.due("walks, least", x.told(0, 0, 0, true), 200);
        D.due("out, least", x.told(0, 0, 1, true), 2);
        D.due("night 0", x.stands(0, 0, 0, false), 4);
        for (int c = 0; c < 7; c++) {
            D.due("least " + c, x.stands(0, 0, c, true), c < 5 ? c : -3);
        }
    }
}

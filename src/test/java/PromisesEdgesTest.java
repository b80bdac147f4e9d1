import java.util.HashMap;
import java.util.Map;

/** Promises 1 to 24, sentence by sentence, each with a run of calls at its edges. */
public final class PromisesEdgesTest {
    private static final Due D = new Due("PromisesEdgesTest");
    private static final Document DOCUMENT = new Document();
    private static final Map<String, Document.Part> PARTS = new HashMap<>();

    public static void main(String[] args) {
        for (String promise : DOCUMENT.promises()) {
            PARTS.put(promise, DOCUMENT.part(promise));
        }
        newObject();
        street();
        move();
        walk();
        close();
        rule();
        hours();
        car();
        permit();
        cards();
        limit();
        late();
        may();
        stands();
        told();
        keep();
        moved();
        gain();
        fine();
        turn();
        stake();
        ticket();
        of();
        many();
        lastCall();
        D.due("promises", PARTS.size(), 24);
        PARTS.forEach((promise, part) ->
            D.holds(promise + " is quoted whole, not: " + part.left(), part.left().isEmpty()));
        D.end();
    }

    private static void edge(String promise, String quote, String lines) {
        String title = "Promise " + promise;
        Document.Part part = PARTS.get(title);
        D.holds(title + " says: " + quote, part != null && part.quote(quote));
        Script.play(D, title + ", " + quote, lines);
    }

    private static void newObject() {
        edge("1: A new object", "No STREETS, CARS, TICKETS; no ZONE is RULED.", """
            many 0..7 = 0
            move 0 0 = -1
            car 0 = -1
            late 0 = -1
            of 0 0..7 = -1
            told 0..6 0,23 0..2 false,true = 0
            keep 0..6 0..23 = 0
            new
            street 0..3 1 = 0 1 2 3
            car 0 = 0
            may 0 0..3 0..23 = 2
            """);
    }

    private static void street() {
        edge("2: street", "A STREET comes: its number.", """
            street 0 0 = 0
            street 3 5 = 1
            street 2 1,2,3 = 2 3 4
            many 0,6 = 5 11
            move 0..4 0 = 0 3 2 2 2
            """);
        edge("2: street", "NUMBER: there is no such ZONE, or bays aren't 0 to 5; FULL.", """
            street low,-1,4,high 0 = -1
            street 0 low,-1,6,high = -1
            street low,-1,4,high low,-1,6,high = -1
            many 0,6 = 0
            street 0 1,1,1,1,1 = 0 1 2 3 4
            street 0 0..5 = -2
            street low,-1,4,high 0 = -1
            street 0 low,-1,6,high = -1
            many 0,6 = 5
            """);
    }

    private static void move() {
        edge("3: move", "A STREET comes to another ZONE: which one it was in.", """
            street 0,3 2 = 0 1
            rule 3 0 23 = 1
            car 0 = 0
            may 0 0,1 12 = 2 0
            move 0 3 = 0
            may 0 0,1 12 = 0 0
            move 0 3 = 3                # to the one it is in
            move 1 0 = 3
            may 0 0,1 12 = 0 2
            many 6 = 4
            """);
        edge("3: move", "NUMBER: there is no such STREET, ZONE.", """
            move 0 0 = -1
            street 1,2 0 = 0 1
            move low,-1,2,high 0 = -1
            move 0,1 low,-1,4,high = -1
            move 0,1 0 = 1 2
            """);
    }

    private static void walk() {
        edge("4: walk", "WALK of two STREETS: what it was.", """
            street 0 1,0,0 = 0 1 2
            walk 0 1 0 = 10
            walk 0 1 50 = 0
            walk 1 0 4 = 50
            walk 2 1 5 = 10
            car 1 = 0
            told 0 0 0 false,true = 4
            """);
        edge("4: walk", "NUMBER: there is no such STREET (either), they are the same, or v isn't 0 to 50.", """
            walk 0 1 1 = -1
            street 0 1 = 0
            walk 0 1 1 = -1
            walk 1 0 1 = -1
            street 0 1 = 1
            walk low,-1,2,high 0 1 = -1
            walk 0 low,-1,2,high 1 = -1
            walk 0,1 0,1 51 = -1
            walk 0 0 0,1 = -1
            walk 1 1 0,1 = -1
            walk 0 1 low,-1,51,high = -1
            walk 0 1 10 = 10
            car 0 = 0
            told 0 0 0 false,true = 0   # of one and itself still 0
            """);
    }

    private static void close() {
        edge("5: close", "So many BAYS of a STREET are CLOSED on a NIGHT: how many were.", """
            street 0 5,1 = 0 1
            car 0,0,0,0,0 = 0 1 2 3 4
            limit 0..4 0 = 99
            close 0 6 5 = 0
            told 6 0 1 false,true = 5
            told 5 0 1 false,true = 0
            close 0 6 1 = 5
            told 6 0 1 false,true = 1
            close 0 6 0 = 1
            told 6 0 1 false,true = 0
            close 1 6 1 = 0
            told 6 0 1 false,true = 0
            many 6 = 6                  # CLOSED ones are BAYS still
            """);
        edge("5: close", "NUMBER: there is no such STREET, NIGHT, or n isn't 0 to its BAYS.", """
            close 0 0 0 = -1
            street 0 2,0,5 = 0 1 2
            close low,-1,3,high 0 0 = -1
            close 0 low,-1,7,high 0 = -1
            close 0 0 low,-1,3,high = -1
            close 1 0 low,-1,1,high = -1
            close 2 0 low,-1,6,high = -1
            close 0,1,2 0..6 0 = 0
            close 0 0 2 = 0
            close 0 0 3 = -1
            close 1 0 0 = 0
            close 2 0 5 = 0
            close 0,1,2 0 0 = 2 0 5
            """);
    }

    private static void rule() {
        edge("6: rule", "A ZONE is RULED from an hour to an hour (both with them; a -1: never): 1.", """
            street 0..3 1 = 0 1 2 3
            car 0 = 0
            rule 3 9 17 = 1
            may 0 3 8..18 = 2 0 0 0 0 0 0 0 0 0 2
            rule 3 17 9 = 1
            may 0 3 0..9,17..23 = 0
            may 0 3 10..16 = 2
            rule 3 12 12 = 1
            may 0 3 11..13 = 2 0 2
            may 0 0..2 12 = 2
            rule 3 -1 5 = 1
            may 0 3 0..23 = 2
            """);
        edge("6: rule", "NUMBER: there is no such ZONE, or an hour isn't 0 to 23 (b counts nothing if a is -1).", """
            street 0 1 = 0
            car 0 = 0
            rule low,-1,4,high 0 23 = -1
            rule low,-1,4,high -1 0 = -1
            rule 0 low,-2,24,high 0 = -1
            rule 0 0 low,-2,-1,24,high = -1
            rule 0 23 24 = -1
            may 0 0 0..23 = 2
            rule 0 0 23 = 1
            rule 0 24 0 = -1
            rule 0 -2 -2 = -1
            may 0 0 0..23 = 0
            rule 0 -1 low = 1
            may 0 0 0..23 = 2
            rule 0 -1 -1,24,high = 1
            may 0 0 0..23 = 2
            """);
    }

    private static void hours() {
        edge("7: hours", "HOURS of a SORT in a ZONE (a -1: none): 1.", """
            street 0 1 = 0
            car 0 = 0
            rule 0 0 23 = 1
            permit 0 2 0 true = 1
            hours 0 2 9 17 = 1
            may 0 0 8..18 = 0 2 2 2 2 2 2 2 2 2 0
            hours 0 2 17 9 = 1
            may 0 0 0..9,17..23 = 2
            may 0 0 10..16 = 0
            hours 0 2 12 12 = 1
            may 0 0 11..13 = 0 2 0
            hours 0 0,1 -1 0 = 1
            may 0 0 12 = 2
            hours 0 2 -1 12 = 1
            may 0 0 0..23 = 0
            """);
        edge("7: hours", "NUMBER likewise, or there is no such SORT.", """
            street 0 1 = 0
            car 0 = 0
            rule 0 0 23 = 1
            permit 0 0..2 0 true = 1
            hours low,-1,4,high 0 0 23 = -1
            hours 0 low,-1,3,high 0 23 = -1
            hours 0 low,-1,3,high -1 0 = -1
            hours low,-1,4,high 0 -1 0 = -1
            hours 0 0 low,-2,24,high 0 = -1
            hours 0 0 0 low,-2,-1,24,high = -1
            may 0 0 0..23 = 0
            hours 0 2 0 23 = 1
            hours 0 2 24 0 = -1
            hours 0 3 -1 0 = -1
            may 0 0 0..23 = 2
            hours 0 2 -1 low = 1
            may 0 0 0..23 = 0
            hours 0 2 -1 -1,24,high = 1
            """);
    }

    private static void car() {
        edge("8: car", "A CAR comes: its number.", """
            street 0 1,1 = 0 1
            car 1,0 = 0 1
            many 1 = 2
            stands 0 0 0,1 false = 1 0
            stands 0 0 0,1 true = 1 0
            car 0 = 2
            late 0..2 = 2               # it came home last
            """);
        edge("8: car", "NUMBER: there is no such STREET; FULL.", """
            car low,-1,0,high = -1
            street 0 1,0 = 0 1
            car low,-1,2,high = -1
            many 1 = 0
            car 0,1,0,1,0,1,0 = 0 1 2 3 4 5 6
            car 0,1 = -2
            car low,-1,2,high = -1
            many 1 = 7
            """);
    }

    private static void permit() {
        edge("9: permit", "A CAR has a PERMIT of a SORT for a ZONE, or not: 1 if that is new, else 0.", """
            street 3 1 = 0
            car 0,0,0,0,0,0,0 = 0 1 2 3 4 5 6
            rule 3 0 23 = 1
            hours 3 2 8 8 = 1
            permit 6 2 3 false = 0
            may 6 0 8 = 0
            permit 6 2 3 true = 1
            permit 6 2 3 true = 0
            may 6 0 8 = 2
            may 0..5 0 8 = 0
            permit 6 2 3 false = 1
            permit 6 2 3 false = 0
            may 6 0 8 = 0
            permit 0..6 0..2 0..3 true = 1
            permit 0..6 0..2 0..3 true = 0
            permit 0..6 0..2 0..3 false = 1
            """);
        edge("9: permit", "NUMBER: there is no such CAR, SORT, ZONE.", """
            permit 0 0 0 true,false = -1
            street 0 1 = 0
            permit 0 0 0 true,false = -1
            car 0,0 = 0 1
            permit low,-1,2,high 0 0 true,false = -1
            permit 0 low,-1,3,high 0 true,false = -1
            permit 0 0 low,-1,4,high true,false = -1
            permit 0,1 0..2 0..3 false = 0
            """);
    }

    private static void cards() {
        edge("10: cards", "CARDS of a CAR for a ZONE: how many there were.", """
            street 3 1 = 0
            car 0,0 = 0 1
            rule 3 0 23 = 1
            cards 1 3 9 = 0
            cards 1 3 9 = 9
            cards 1 3 1 = 9
            may 0,1 0 0 = 0 1
            keep 0 0 = 1
            cards 1 3 2 = 0
            keep 0 0 = 1
            cards 1 0..3 0 = 0 0 0 1
            cards 0 0..3 0 = 0
            """);
        edge("10: cards", "NUMBER: there is no such CAR, ZONE, or n isn't 0 to 9.", """
            cards 0 0 0 = -1
            street 0 1 = 0
            cards 0 0 0 = -1
            car 0,0 = 0 1
            cards low,-1,2,high 0 1 = -1
            cards 0 low,-1,4,high 1 = -1
            cards 0 0 low,-1,10,high = -1
            many 7 = 0
            cards 1 3 9 = 0
            cards 1 3 10 = -1
            many 7 = 9
            """);
    }

    private static void limit() {
        edge("11: limit", "LIMIT of a CAR: what it was.", """
            street 0 0,1 = 0 1
            car 0,0 = 0 1
            limit 0 0 = 99
            limit 0 9 = 0
            stands 0 0 0,1 false = -3 1
            stands 0 0 0,1 true = -3 1
            limit 0 10 = 9
            stands 0 0 0,1 false = 1 -3
            stands 0 0 0,1 true = 1 -3
            limit 0 99 = 10
            limit 0 99 = 99
            """);
        edge("11: limit", "NUMBER: there is none such, or v isn't 0 to 99.", """
            limit 0 0 = -1
            street 0 1 = 0
            limit 0 0 = -1
            car 0 = 0
            limit low,-1,1,high 0 = -1
            limit 0 low,-1,100,high = -1
            limit 0 0 = 99
            limit 0 100 = -1
            limit 0 0 = 0
            """);
    }

    private static void late() {
        edge("12: late", "A CAR comes home last of all from now on: how many came home behind it.", """
            street 0 1 = 0
            car 0 = 0
            late 0 = 0                  # the only one
            car 0,0,0 = 1 2 3
            late 3 = 0                  # the last one already
            late 1 = 2                  # from the middle: 0 2 3 1
            late 0 = 3                  # from the front: 2 3 1 0
            stands 0 0 0..3 false = -3 -3 0 -3
            stands 6 23 0..3 false = -3 -3 0 -3
            keep 0 0 = 0                # from now on: a kept NIGHT changes no order
            late 2 = 3                  # 3 1 0 2
            stands 0 0 0..3 false = -3 -3 -3 0
            late 1 = 2                  # 3 0 2 1
            late 0 = 2                  # 3 2 1 0
            late 3 = 3                  # 2 1 0 3
            stands 0 0 0..3 false = -3 -3 0 -3
            """);
        edge("12: late", "NUMBER: there is none such.", """
            late low,-1,0,high = -1
            street 0 1 = 0
            late 0 = -1
            car 0,0 = 0 1
            late low,-1,2,high = -1
            stands 0 0 0,1 false = 0 -3
            late 1 = 0
            """);
    }

    private static void may() {
        edge("13: may", "Whether a CAR MAY stand in a STREET at an hour: 0 no, 1 by a CARD, 2 without.", """
            street 1 0 = 0              # BAYS, WALK and LIMIT count nothing
            street 0 0 = 1
            walk 0 1 50 = 10
            car 1 = 0
            limit 0 0 = 99
            may 0 0 0,23 = 2
            rule 1 23 0 = 1
            may 0 0 22,23,0,1 = 2 0 0 2
            cards 0 1 1 = 0
            may 0 0 22,23,0,1 = 2 1 1 2
            permit 0 0 1 true = 1
            hours 1 0 0 0 = 1
            may 0 0 22,23,0,1 = 2 1 2 2
            cards 0 1 0 = 1
            may 0 0 22,23,0,1 = 2 0 2 2
            """);
        edge("13: may", "NUMBER: there is no such CAR, STREET, hour.", """
            may 0 0 0 = -1
            street 0 1 = 0
            may 0 0 0 = -1
            car 0 = 0
            may 0 0 0,23 = 2
            may low,-1,1,high 0 0 = -1
            may 0 low,-1,1,high 0 = -1
            may 0 0 low,-1,24,high = -1
            """);
    }

    private static void stands() {
        edge("14: stands", "Where a CAR stands in THE NIGHT (least false), or THE LEAST, of a NIGHT and an hour.", """
            street 0 1,1 = 0 1
            street 0 0 = 2
            walk 0 2 9 = 10
            walk 0 1 50 = 10
            car 2,0 = 0 1
            stands 0 0 0,1 false = 0 1  # 9 and 50
            stands 0 0 0,1 true = 1 0   # 10 and 0
            close 0 6 1 = 0
            stands 6 0 0,1 false = 1 -3
            stands 6 0 0,1 true = 1 -3
            rule 0 23 23 = 1
            stands 0 23 0,1 false,true = -3
            stands 0 22 0,1 false = 0 1
            """);
        edge("14: stands", "NUMBER: there is no such NIGHT, hour, CAR; NONE: it is OUT.", """
            stands 0 0 0 false,true = -1
            street 0 0 = 0
            stands 0 0 0 false,true = -1
            car 0 = 0
            stands 0,6 0,23 0 false,true = -3
            stands low,-1,7,high 0 0 false,true = -1
            stands 0 low,-1,24,high 0 false,true = -1
            stands 0 0 low,-1,1,high false,true = -1
            """);
    }

    private static void told() {
        edge("15: told", "The sum of WALKS (what = 0), how many are OUT (1), how many stand by a CARD (2)"
            + " in THE NIGHT, or THE LEAST.", """
            street 1 1 = 0
            street 0 2 = 1
            car 0,0,1,1 = 0 1 2 3
            told 0 0 0..2 false = 10 1 0
            told 0 0 0..2 true = 0 1 0
            rule 1 0 0 = 1
            cards 1 1 1 = 0
            told 0 0 0..2 false = 10 1 1
            told 0 0 0..2 true = 0 1 1
            cards 3 1 9 = 0             # it needs none, or takes none
            told 0 0 0..2 false = 10 1 1
            told 0 0 0..2 true = 0 1 1
            new
            told 0 0 0..2 false,true = 0
            street 0 0,0,0,0,0 = 0 1 2 3 4
            told 0 0 0..2 false,true = 0
            car 0,0,0,0,0,0,0 = 0 1 2 3 4 5 6
            told 0 0 0..2 false = 0 7 0
            told 0 0 0..2 true = 0 7 0
            new
            street 1 0,5,2 = 0 1 2      # as far and as many as may be
            walk 0 1,2 50 = 10
            rule 1 0 23 = 1
            car 0,0,0,0,0,0,0 = 0 1 2 3 4 5 6
            told 0 0 0..2 false = 0 7 0
            cards 0..6 1 1 = 0
            told 0 0 0..2 false = 350 0 7
            told 0 0 0..2 true = 350 0 7
            """);
        edge("15: told", "NUMBER: there is no such NIGHT, hour, another what.", """
            told 0,6 0,23 0..2 false,true = 0
            told low,-1,7,high 0 0 false,true = -1
            told 0 low,-1,24,high 0 false,true = -1
            told 0 0 low,-1,3,high false,true = -1
            """);
    }

    private static void keep() {
        edge("16: keep", "THE NIGHT is kept: how many CARDS are used up.", """
            keep 0 0 = 0                # no CARS
            street 1 0,5,2 = 0 1 2
            rule 1 8 8 = 1
            car 0,0,0,0,0,0,0 = 0 1 2 3 4 5 6
            keep 0 8 = 0                # all OUT
            cards 0..6 1 2 = 0
            keep 0 7,9 = 0              # none needed
            keep 6 8 = 7
            many 7 = 7
            cards 0..6 1 1 = 1
            cards 0 1 9 = 1
            close 2 0 2 = 0
            keep 0 8 = 5                # two OUT
            cards 0..6 1 0 = 8 0 0 0 0 1 1
            keep 0 8 = 0
            new                         # THE LEAST would have it by a CARD
            street 1 1 = 0
            street 0 1,0 = 1 2
            rule 1 0 23 = 1
            car 2 = 0
            cards 0 1 1 = 0
            keep 0 0 = 0
            cards 0 1 0 = 1
            """);
        edge("16: keep", "NUMBER: there is no such NIGHT, hour.", """
            keep 0,6 0,23 = 0
            street 1 1 = 0
            rule 1 0 23 = 1
            car 0 = 0
            cards 0 1 9 = 0
            keep low,-1,7,high 0 = -1
            keep 0 low,-1,24,high = -1
            many 7 = 9
            """);
    }

    private static void moved() {
        edge("17: moved", "What told(.., true) would be if a STREET came to another ZONE:"
            + " what = 0 WALKS, 1 OUT.", """
            street 0,3 1 = 0 1
            rule 3 5 5 = 1
            moved 0 5 0,1 0..3 0,1 = 0  # no CARS
            car 0,0 = 0 1
            told 0 5 0,1 true = 0 1
            moved 0 5 0 0,3 0,1 = 0 1 0 2
            moved 0 5 1 0,1,2,3 0,1 = 10 0 10 0 10 0 0 1
            moved 0 4,6 0 3 0,1 = 10 0 10 0
            close 0 6 1 = 0
            moved 6 5 1 0 0,1 = 10 1
            cards 0 3 1 = 0
            moved 0 5 0 3 0,1 = 0 1     # CARDS for the ZONE it comes to
            told 0 5 0,1 true = 10 0
            moved 0 5 1 0 0,1 = 10 0
            move 0,1 0 = 0 3
            new                         # told(.., false) would have one OUT
            street 0 1,1 = 0 1
            car 0,0 = 0 1
            limit 1 9 = 99
            told 0 0 0,1 false = 0 1
            moved 0 0 0 1 0,1 = 10 0
            """);
        edge("17: moved", "NUMBER: there is no such NIGHT, hour, STREET, ZONE, another what.", """
            moved 0 0 0 0 0 = -1
            street 2 1 = 0
            moved 0,6 0,23 0 0,3 0,1 = 0
            moved low,-1,7,high 0 0 3 0 = -1
            moved 0 low,-1,24,high 0 3 0 = -1
            moved 0 0 low,-1,1,high 3 0 = -1
            moved 0 0 0 low,-1,4,high 0 = -1
            moved 0 0 0 3 low,-1,2,high = -1
            move 0 0 = 2
            """);
    }

    private static void gain() {
        edge("18: gain", "G of a STREET: what it was.", """
            street 0 0,0 = 0 1
            gain 0 99 = 0
            gain 1 1 = 0
            gain 0 0 = 99
            gain 0 0 = 0
            gain 1 1 = 1
            """);
        edge("18: gain", "NUMBER: there is none such, or v isn't 0 to 99.", """
            gain 0 0 = -1
            street 0 0 = 0
            gain low,-1,1,high 0 = -1
            gain 0 low,-1,100,high = -1
            gain 0 99 = 0
            gain 0 100 = -1
            gain 0 0 = 99
            """);
    }

    private static void fine() {
        edge("19: fine", "F: what it was.", """
            fine 1 = 100
            fine 500 = 1
            fine 100 = 500
            fine 100 = 100
            """);
        edge("19: fine", "NUMBER: v isn't 1 to 500.", """
            fine low,-1,0,501,high = -1
            fine 500 = 100
            fine 0,501 = -1
            fine 1 = 500
            """);
    }

    private static void turn() {
        edge("20: turn", "The chance of a STREET in THE TURNS: what = 0 above, 1 below the line,"
            + " cleared (0 / 1 if it is 0).", """
            street 0 0,0,0 = 0 1 2
            turn 0..2 0,1 = 0 1 0 1 0 1
            gain 0 50 = 0
            turn 0..2 0,1 = 1 2 0 1 0 1 # 50 / 100 cleared
            gain 1 51 = 0
            turn 0..2 0,1 = 99 200 101 200 0 1
            fine 101 = 100
            turn 0..2 0,1 = 50 101 51 101 0 1
            fine 1 = 101
            turn 0..2 0,1 = 0 1 1 1 0 1 # 1 / 1 where it is sure
            fine 500 = 1
            gain 2 1 = 0
            turn 0..2 0,1 = 1 10 51 500 1 500
            """);
        edge("20: turn", "NUMBER: there is none such, another what.", """
            turn 0 0,1 = -1
            street 0 0 = 0
            turn low,-1,1,high 0,1 = -1
            turn 0 low,-1,2,high = -1
            """);
    }

    private static void stake() {
        edge("21: stake", "STAKE: what = 0 above, 1 below the line, cleared likewise.", """
            stake 0,1 = 0 1             # 0 / 1 without STREETS
            street 0 0,0,0,0 = 0 1 2 3
            stake 0,1 = 0 1
            gain 0..3 30 = 0
            fine 120 = 100
            stake 0,1 = 0 1
            fine 118 = 120
            stake 0,1 = 1 2             # 2 / 4 cleared
            fine 117 = 118
            stake 0,1 = 3 4
            fine 116 = 117
            stake 0,1 = 1 1
            gain 0 99 = 30
            fine 69 = 116
            stake 0,1 = 30 1            # just as much as the others gain
            fine 70 = 69
            stake 0,1 = 119 4
            fine 68 = 70
            stake 0,1 = 31 1
            """);
        edge("21: stake", "NUMBER: another what.", """
            stake low,-1,2,high = -1
            street 0 0 = 0
            stake low,-1,2,high = -1
            """);
    }

    private static void ticket() {
        edge("22: ticket", "A TICKET: its number.", """
            street 0,3 0 = 0 1
            car 0,0 = 0 1
            ticket 1 1 23 2 = 0
            ticket 0 0 0 0 = 1
            of 0 0..4 = 1 1 23 2 3
            of 1 0..4 = 0 0 0 0 0
            many 2 = 2
            """);
        edge("22: ticket", "NUMBER: there is no such CAR, STREET, hour, or sign isn't 0 to 2; FULL.", """
            ticket 0 0 0 0 = -1
            street 0 0 = 0
            ticket 0 0 0 0 = -1
            car 0 = 0
            ticket low,-1,1,high 0 0 0 = -1
            ticket 0 low,-1,1,high 0 0 = -1
            ticket 0 0 low,-1,24,high 0 = -1
            ticket 0 0 0 low,-1,3,high = -1
            many 2 = 0
            ticket 0 0 0..19 1 = 0 1 2 3 4 5 6 7 8 9 10 11 12 13 14 15 16 17 18 19
            ticket 0 0 0,23 0..2 = -2
            ticket low,-1,1,high 0 0 0 = -1
            ticket 0 low,-1,1,high 0 0 = -1
            ticket 0 0 low,-1,24,high 0 = -1
            ticket 0 0 0 low,-1,3,high = -1
            many 2 = 20
            of 19 2 = 19
            """);
    }

    private static void of() {
        edge("23: of", "Of a TICKET: what = 0 CAR, 1 STREET, 2 hour, 3 SIGN, 4 ZONE as it was,"
            + " 5 how it is (0 to 2), 6 how it is by its LIKES (of others than those in DOUBT as 5),"
            + " 7 how many LIKES.", """
            street 0,3 0 = 0 1
            car 0,0,0,0,0,0,0 = 0 1 2 3 4 5 6
            rule 3 22 22 = 1
            ticket 6 1 22 2 = 0
            ticket 5 1 22 1 = 1
            ticket 4 1 22 0 = 2
            ticket 3 1 22 0 = 3
            ticket 2 1 23 1 = 4
            ticket 1 0 22 2 = 5
            of 0 0..7 = 6 1 22 2 3 2 0 3
            of 1 0..7 = 5 1 22 1 3 1 1 2
            of 2 0..7 = 4 1 22 0 3 0 0 2
            of 3 0..7 = 3 1 22 0 3 0 0 2
            of 4 0..7 = 2 1 23 1 3 0 0 0
            of 5 0..7 = 1 0 22 2 0 0 0 0
            move 1 0 = 3
            of 0 0..7 = 6 1 22 2 3 2 0 3
            new
            street 1 0 = 0              # all others LIKE it
            car 0 = 0
            rule 1 0 23 = 1
            ticket 0 0 5 2 = 0
            ticket 0 0 5 0,1,0,1,0,1,0,1,0,1,0,1,0,1,0,1,0,1,1 = 1 2 3 4 5 6 7 8 9 10 11 12 13 14 15 16 17 18 19
            of 0 5,6,7 = 2 1 19
            of 19 5,6,7 = 1 1 18
            """);
        edge("23: of", "NUMBER: there is none such, another what.", """
            of 0 0..7 = -1
            street 0 0 = 0
            car 0 = 0
            ticket 0 0 5 1 = 0
            of low,-1,1,high 0..7 = -1
            of 0 low,-1,8,high = -1
            """);
    }

    private static void many() {
        edge("24: many", "How many: what = 0 STREETS, 1 CARS, 2 TICKETS, 3 that are GOOD, 4 VOID,"
            + " 5 in DOUBT, 6 BAYS, 7 CARDS of all CARS.", """
            many 0..7 = 0
            street 1 1,0,3,4 = 0 1 2 3
            car 0,0,0 = 0 1 2
            cards 0..2 0..3 3 = 0
            cards 2 3 0 = 3
            rule 1 5 5 = 1
            cards 0 1 0 = 3
            ticket 0 0 5 1,1,1 = 0 1 2
            ticket 0 0 5 0,0 = 3 4
            ticket 0 0 6 1,2 = 5 6
            ticket 0 0 5 2 = 7
            many 0..7 = 4 3 8 3 4 1 8 30
            of 7 6 = 1                  # by its LIKES, but it is in DOUBT
            close 3 0 4 = 0
            keep 0 5 = 2
            many 0..7 = 4 3 8 3 4 1 8 28
            new
            street 0 5,5,5,5,5 = 0 1 2 3 4
            car 0,0,0,0,0,0,0 = 0 1 2 3 4 5 6
            cards 0..6 0..3 9 = 0
            many 0..7 = 5 7 0 0 0 0 25 252
            """);
        edge("24: many", "NUMBER: another what.", """
            many low,-1,8,high = -1
            street 0 5 = 0
            many low,-1,8,high = -1
            """);
    }

    /** The document's beginning: "An object is used for at most 512 calls after it has been made". */
    private static void lastCall() {
        ParkDesk x = new ParkDesk();
        x.street(1, 1);
        x.rule(1, 0, 23);
        x.car(0);
        for (int call = 4; call <= 511; call++) {
            x.cards(0, 1, call % 10);
        }
        D.due("the 512th call", x.keep(0, 0), 1);
    }
}

/** The Terms of the document, sentence by sentence, each with a run of calls at its edges. */
public final class TermsEdgesTest {
    private static final Due D = new Due("TermsEdgesTest");
    private static final Document.Part TERMS = new Document().part("Terms");

    public static void main(String[] args) {
        streets();
        cars();
        hours();
        may();
        night();
        taken();
        cards();
        least();
        leastTies();
        leastTiesOfNeighbours();
        move();
        wardens();
        turns();
        tickets();
        states();
        likes();
        refusals();
        constants();
        D.holds("every sentence is quoted, not: " + TERMS.left(), TERMS.left().isEmpty());
        D.end();
    }

    private static void edge(String quote, String lines) {
        D.holds("in the document: " + quote, TERMS.quote(quote));
        Script.play(D, quote, lines);
    }

    private static void streets() {
        edge("STREETS are numbered from 0 as they come, 5 at most,", """
            street 0 1 = 0
            street 0 1,1,1 = 1 2 3
            move 4 0 = -1               # the fifth hasn't come
            street 0 1 = 4
            move 4 0 = 0
            street 0 1 = -2
            many 0 = 5
            move 5 0 = -1
            """);
        edge("each of a ZONE (0 to 3)", """
            street low,-1,4,high 1 = -1
            street 0..3 1 = 0 1 2 3
            move 0..3 low,-1,4,high = -1
            move 0..3 3 = 0 1 2 3
            """);
        edge("and with BAYS (0 to 5),", """
            street 0 low,-1,6,high = -1
            street 0 0,5 = 0 1
            many 6 = 5
            car 0,0,0,0,0,0,0 = 0 1 2 3 4 5 6
            stands 0 0 0..6 false = 1 1 1 1 1 -3 -3
            stands 0 0 0..6 true = 1 1 1 1 1 -3 -3
            """);
        edge("of which some may be CLOSED on a NIGHT (0 to 6; none at first).", """
            street 0 2 = 0
            street 0 5 = 1
            close 0,1 0..6 0 = 0
            close 0 low,-1,7,high 1 = -1
            close 0 0 2 = 0
            close 0 6 1 = 0
            close 1 6 5 = 0
            close 0 0..6 0 = 2 0 0 0 0 0 1
            close 1 0..6 0 = 0 0 0 0 0 0 5
            """);
        edge("WALK of two STREETS is told (0 to 50; 10 at first; 0 of one and itself), the same both ways.", """
            street 0 1,1,0 = 0 1 2
            walk 0 1,2 10 = 10
            walk 1 2 10 = 10
            walk 0 1 low,-1,51,high = -1
            walk 0 1 50 = 10
            walk 1 0 0 = 50
            walk 0 1 7 = 0
            walk 1 2 3 = 10
            walk 0 2 10 = 10            # the others' is their own
            car 0 = 0
            told 0 0 0 false,true = 0
            close 0 0 1 = 0
            told 0 0 0 false,true = 7
            new
            street 0 0,0,0,0,0 = 0 1 2 3 4
            walk 0 1,2,3,4 10 = 10
            walk 4 0,1,2,3 10 = 10
            """);
    }

    private static void cars() {
        edge("CARS are numbered from 0 as they come, 7 at most,", """
            street 0 1 = 0
            late 0 = -1
            car 0 = 0
            car 0,0,0,0,0 = 1 2 3 4 5
            late 6 = -1                 # the seventh hasn't come
            car 0 = 6
            late 6 = 0
            car 0 = -2
            many 1 = 7
            late 7 = -1
            """);
        edge("each with the STREET at which it is at HOME.", """
            car 0 = -1                  # there is no STREET yet
            street 0 2,1,1 = 0 1 2
            car 2,0,1,0 = 0 1 2 3
            stands 0 0 0..3 false = 2 0 1 0
            stands 0 0 0..3 true = 2 0 1 0
            told 0 0 0 false,true = 0
            """);
        edge("SORTS of PERMITS are 0 to 2;", """
            street 0 1 = 0
            car 0 = 0
            permit 0 low,-1,3,high 0 true = -1
            hours 0 low,-1,3,high 0 23 = -1
            permit 0 0..2 0 true = 1
            hours 0 0..2 0 23 = 1
            """);
        edge("a CAR may have PERMITS of a SORT for a ZONE,", """
            street 0 1 = 0
            car 0,0 = 0 1
            permit 0,1 0..2 0..3 false = 0
            permit 0 2 3 true = 1
            permit 1 0 0 true = 1
            permit 1 1 2 true = 1
            permit 0 0..2 0..3 false = 0 0 0 0  0 0 0 0  0 0 0 1
            permit 1 0..2 0..3 false = 1 0 0 0  0 0 1 0  0 0 0 0
            """);
        edge("and CARDS for a ZONE (0 to 9; 0 at first), each good for one NIGHT.", """
            street 2 1 = 0
            car 0,0 = 0 1
            cards 0,1 0..3 0 = 0
            cards 0 2 low,-1,10,high = -1
            cards 0 2 9 = 0
            cards 0 2 0 = 9
            cards 0 2 1 = 0
            cards 1 0..3 0 = 0          # those of another CAR are its own
            rule 2 0 23 = 1
            keep 3 5 = 1
            may 0 0 5 = 0
            stands 4 5 0 false,true = -3
            """);
        edge("LIMIT of a CAR: how far it may walk (0 to 99; 99 at first).", """
            street 0 0,1 = 0 1
            car 0,0 = 0 1
            limit 0 low,-1,100,high = -1
            walk 0 1 50 = 10
            stands 0 0 0 false,true = 1
            limit 0 50 = 99
            stands 0 0 0 false,true = 1
            limit 0 49 = 50
            stands 0 0 0 false,true = -3
            limit 0 0 = 49
            walk 0 1 1 = 50
            stands 0 0 0 false,true = -3
            walk 0 1 0 = 1
            stands 0 0 0 false,true = 1
            limit 1 99 = 99             # that of another CAR is its own
            limit 0 99 = 0
            """);
    }

    private static void hours() {
        edge("HOURS of a SORT in a ZONE: from a to b (0 to 23, both with them;"
            + " around midnight, if a is above b; none at first): in these a PERMIT of it is good there.", """
            street 1 1 = 0
            car 0,0 = 0 1
            rule 1 0 23 = 1
            permit 0 1 1 true = 1
            may 0 0 0..23 = 0           # none at first
            hours 1 1 low,-2,24,high 5 = -1
            hours 1 1 5 low,-2,-1,24,high = -1
            may 0 0 0..23 = 0
            hours 1 1 8 10 = 1
            may 0 0 0..7,11..23 = 0
            may 0 0 8..10 = 2
            may 1 0 8..10 = 0           # one without a PERMIT
            hours 1 1 22 1 = 1
            may 0 0 0..1,22..23 = 2
            may 0 0 2..21 = 0
            hours 1 1 23 0 = 1
            may 0 0 0,23 = 2
            may 0 0 1..22 = 0
            hours 1 1 6 5 = 1           # around to the hour before: all day
            may 0 0 0..23 = 2
            hours 1 1 0 23 = 1
            may 0 0 0..23 = 2
            hours 1 1 0 0 = 1
            may 0 0 0 = 2
            may 0 0 1..23 = 0
            hours 1 1 23 23 = 1
            may 0 0 23 = 2
            may 0 0 0..22 = 0
            hours 1 0,2 0 23 = 1        # those of other SORTS and ZONES
            hours 0,2,3 1 0 23 = 1
            may 0 0 23 = 2
            may 0 0 0..22 = 0
            """);
    }

    private static void may() {
        edge("A CAR MAY stand in a STREET at an hour, if the ZONE isn't RULED then"
            + " (each ZONE is RULED from an hour to an hour likewise; never at first),", """
            street 0..3 1 = 0 1 2 3
            car 0 = 0
            may 0 0..3 0..23 = 2        # never at first
            rule 2 low,-2,24,high 5 = -1
            rule 2 5 low,-2,-1,24,high = -1
            may 0 0..3 0..23 = 2
            rule 2 8 10 = 1
            may 0 2 0..7,11..23 = 2
            may 0 2 8..10 = 0
            may 0 0,1,3 8..10 = 2       # other ZONES
            rule 2 22 1 = 1
            may 0 2 0..1,22..23 = 0
            may 0 2 2..21 = 2
            rule 2 23 0 = 1
            may 0 2 0,23 = 0
            may 0 2 1..22 = 2
            rule 2 6 5 = 1
            may 0 2 0..23 = 0
            rule 2 0 23 = 1
            may 0 2 0..23 = 0
            rule 2 0 0 = 1
            may 0 2 0 = 0
            may 0 2 1..23 = 2
            rule 2 23 23 = 1
            may 0 2 23 = 0
            may 0 2 0..22 = 2
            """);
        edge("or it has a PERMIT for it that is good then.", """
            street 1 1 = 0
            car 0 = 0
            rule 1 4 8 = 1
            hours 1 2 6 9 = 1
            may 0 0 3..9 = 2 0 0 0 0 0 2
            permit 0 0,1 1 true = 1     # other SORTS
            permit 0 0..2 0,2,3 true = 1
            hours 0,2,3 0..2 0 23 = 1   # other ZONES
            may 0 0 3..9 = 2 0 0 0 0 0 2
            permit 0 2 1 true = 1
            may 0 0 3..9 = 2 0 0 2 2 2 2
            hours 1 0 4 4 = 1           # any of its PERMITS will do
            may 0 0 3..9 = 2 2 0 2 2 2 2
            """);
        edge("It MAY by a CARD otherwise, if it has one for that ZONE.", """
            street 1 1 = 0
            car 0,0 = 0 1
            rule 1 4 8 = 1
            hours 1 2 6 9 = 1
            permit 0 2 1 true = 1
            cards 0 0,2,3 9 = 0         # CARDS for other ZONES
            may 0 0 3..9 = 2 0 0 2 2 2 2
            cards 0 1 1 = 0
            may 0 0 3..9 = 2 1 1 2 2 2 2
            may 1 0 3..9 = 2 0 0 0 0 0 2
            cards 0 1 0 = 1
            may 0 0 3..9 = 2 0 0 2 2 2 2
            """);
    }

    private static void night() {
        edge("A NIGHT is parked at an hour: CARS come home in a told order (all at first by numbers).", """
            street 0 1 = 0
            car 0,0,0,0,0,0,0 = 0 1 2 3 4 5 6
            stands 0 0 0..6 false = 0 -3 -3 -3 -3 -3 -3
            late 0 = 6
            stands 0 0 0..6 false = -3 0 -3 -3 -3 -3 -3
            late 1,2,3,4,5 = 6
            stands 0 0 0..6 false = -3 -3 -3 -3 -3 -3 0
            late 6 = 6
            stands 0 0 0..6 false = 0 -3 -3 -3 -3 -3 -3
            rule 0 7 7 = 1
            stands 0 7 0..6 false = -3
            stands 0 6,8 0 false = 0
            """);
        edge("Each takes, of the STREETS with a BAY that is neither CLOSED then nor taken,", """
            street 0 2,1 = 0 1
            car 0,0,0,0 = 0 1 2 3
            stands 0 0 0..3 false = 0 0 1 -3
            close 0 0 1 = 0
            stands 0 0 0..3 false = 0 1 -3 -3
            stands 1 0 0..3 false = 0 0 1 -3
            close 0 0 2 = 1
            stands 0 0 0..3 false = 1 -3 -3 -3
            close 1 0 1 = 0
            stands 0 0 0..3 false = -3
            told 0 0 1 false,true = 4
            """);
        edge("at which it MAY stand (by a CARD, too), and whose WALK to its HOME isn't above its LIMIT,", """
            street 0,1 1 = 0 1
            street 2 0 = 2
            walk 1 2 9 = 10
            car 2 = 0
            rule 1 6 6 = 1
            stands 0 6 0 false = 0
            stands 0 7 0 false = 1
            cards 0 1 1 = 0
            stands 0 6 0 false = 1
            limit 0 9 = 99
            stands 0 6 0 false = 1
            limit 0 8 = 9
            stands 0 6 0 false = -3
            walk 0 1 0 = 10             # from STREET to STREET counts nothing
            stands 0 6 0 false = -3
            """);
    }

    private static void taken() {
        edge("that with the least WALK,", """
            street 0 1,1,1,1,1 = 0 1 2 3 4
            walk 2 0,1 50 = 10
            walk 2 3 49 = 10
            walk 2 4 1 = 10
            car 2,2,2,2,2,2 = 0 1 2 3 4 5
            stands 0 0 0..5 false = 2 4 3 0 1 -3
            told 0 0 0 false = 150
            """);
        edge("of several one at which it MAY without a CARD ahead of others,", """
            street 1 1,1 = 0 1
            street 2 1 = 2
            street 0 0 = 3
            car 3 = 0
            cards 0 1 1 = 0
            rule 1 5 5 = 1
            stands 0 5 0 false = 2
            told 0 5 2 false = 0
            stands 0 6 0 false = 0
            walk 1 3 9 = 10             # the WALK counts first
            stands 0 5 0 false = 1
            told 0 5 2 false = 1
            """);
        edge("of several the least STREET; or it is OUT.", """
            street 0 0,1,1,1 = 0 1 2 3
            car 0,0,0,0 = 0 1 2 3
            stands 0 0 0..3 false = 1 2 3 -3
            new
            street 1 0,1,1 = 0 1 2      # by a CARD in both
            rule 1 0 23 = 1
            car 0 = 0
            stands 0 0 0 false = -3
            cards 0 1 2 = 0
            stands 0 0 0 false = 1
            """);
    }

    private static void cards() {
        edge("THE NIGHT is what comes of that; no CARD is used up by asking.", """
            street 1 1 = 0
            rule 1 0 23 = 1
            car 0 = 0
            cards 0 1 1 = 0
            stands 0 0 0 false,true = 0
            told 0 0 2 false,true = 1
            moved 0 0 0 0,1 0,1 = 0
            may 0 0 0 = 1
            many 7 = 1
            """);
        edge("When it is kept CARDS by which CARS stand are used up, each one of the ZONE.", """
            street 1 1 = 0
            street 2 1 = 1
            street 3 5 = 2
            rule 1,2 4 4 = 1
            car 0,1,0 = 0 1 2
            cards 0,1,2 0..3 5 = 0
            keep 0 4 = 2                # the third MAY without a CARD where it stands
            cards 0 0..3 5 = 5 4 5 5
            cards 1 0..3 5 = 5 5 4 5
            cards 2 0..3 5 = 5 5 5 5
            keep 0 5 = 0
            close 0,1,2 6 1 = 0         # who is OUT uses none up
            close 2 6 5 = 1
            keep 6 4 = 0
            many 7 = 60
            new                         # it is THE NIGHT that is kept, not THE LEAST
            street 1 1 = 0
            street 0 1,0 = 1 2
            rule 1 0 23 = 1
            car 2 = 0
            cards 0 1 9 = 0
            told 0 0 2 false,true = 0 1
            keep 0 0 = 0
            many 7 = 9
            """);
    }

    private static void least() {
        edge("THE LEAST: of all ways to lay CARS into BAYS at which they MAY stand (by a CARD, too) within LIMITS,", """
            street 0,1 1 = 0 1
            street 2 0 = 2
            walk 1 2 9 = 10
            car 2 = 0
            rule 1 6 6 = 1
            stands 0 6 0 true = 0
            stands 0 7 0 true = 1
            cards 0 1 1 = 0
            stands 0 6 0 true = 1
            limit 0 9 = 99
            stands 0 6 0 true = 1
            limit 0 8 = 9
            stands 0 6 0 true = -3
            limit 0 10 = 8
            close 1 6 1 = 0
            stands 6 6 0 true = 0       # CLOSED BAYS are no BAYS then
            stands 5 6 0 true = 1
            """);
        edge("those with the fewest OUT;", """
            street 0 1,1 = 0 1
            walk 0 1 50 = 10
            car 0,0 = 0 1
            limit 1 49 = 99
            stands 0 0 0,1 false = 0 -3
            stands 0 0 0,1 true = 1 0
            told 0 0 1 false,true = 1 0
            told 0 0 0 false,true = 0 50
            limit 0 49 = 99             # now one must be OUT: the first stands
            stands 0 0 0,1 true = 0 -3
            new                         # each must make room for the next
            street 0 1,1,1,1,1 = 0 1 2 3 4
            walk 0 2,3,4 50 = 10
            walk 1 3,4 50 = 10
            walk 2 4 50 = 10
            walk 0 1 1 = 10
            walk 1 2 1 = 10
            walk 2 3 1 = 10
            walk 3 4 1 = 10
            car 3,2,1,0,0 = 0 1 2 3 4
            limit 0..3 1 = 99
            limit 4 0 = 99
            stands 0 0 0..4 true = 4 3 2 1 0
            told 0 0 0..2 true = 4 0 0
            stands 0 0 0..4 false = 3 2 1 0 -3
            """);
        edge("of these with the least sum of WALKS;", """
            street 0 1,1,1 = 0 1 2
            walk 0 1 4 = 10
            walk 0 2 5 = 10
            walk 1 2 50 = 10
            car 0,0,1 = 0 1 2
            stands 0 0 0..2 false = 0 1 2
            stands 0 0 0..2 true = 0 2 1
            told 0 0 0 false,true = 54 5
            close 2 3 1 = 0             # one OUT, and nobody walks
            stands 3 0 0..2 true = 0 -3 1
            told 3 0 0 true = 0
            new
            street 0 1,0 = 0 1          # the one who walks less stands, not the first
            car 1,0 = 0 1
            stands 0 0 0,1 true = -3 0
            """);
    }

    private static void leastTies() {
        edge("of several the one in which the first CAR for which they are unlike has the lesser STREET"
            + " (OUT stands behind all).", """
            street 0 1,1,1,1,1 = 0 1 2 3 4
            walk 0 1,2,3,4 0 = 10
            walk 1 2,3,4 0 = 10
            walk 2 3,4 0 = 10
            walk 3 4 0 = 10
            car 4,3,2,1,0,4,3 = 0 1 2 3 4 5 6
            stands 0 0 0..6 true = 0 1 2 3 4 -3 -3
            late 0,1,2,3 = 6            # the order of coming home counts nothing
            stands 0 0 0..6 true = 0 1 2 3 4 -3 -3
            limit 0..4 0 = 99
            stands 0 0 0..6 true = 0 1 2 3 4 -3 -3
            close 0 1 1 = 0
            stands 1 0 0..6 true = 1 2 3 4 -3 -3 -3
            new                         # the last CAR alone has a choice
            street 0 5,1,1,0,1 = 0 1 2 3 4
            car 0,0,0,0,0,1,3 = 0 1 2 3 4 5 6
            stands 0 0 0..6 true = 0 0 0 0 0 1 2
            close 2 0 1 = 0
            stands 0 0 0..6 true = 0 0 0 0 0 1 4
            new                         # the first has its lesser one, though others go further on
            street 0 1,1,1,0 = 0 1 2 3
            car 3,3,3 = 0 1 2
            rule 1 0 23 = 1
            move 0 1 = 0
            cards 0,2 1 1 = 0
            stands 0 0 0..2 true = 0 1 2
            stands 0 0 0..2 false = 1 2 0
            """);
    }

    /** A CAR has its lesser STREET even where the next one goes from the last to the first for that. */
    private static void leastTiesOfNeighbours() {
        for (int car = 0; car < 6; car++) {
            edge("has the lesser STREET", """
                street 0 1 = 0
                street 1 1 = 1
                street 0 0,0,1 = 2 3 4
                car 2,2,2,2,2,2,2 = 0 1 2 3 4 5 6
                rule 1 0 23 = 1
                limit 0..6 0 = 99
                limit CAR,NEXT 10 = 0
                cards CAR 1 1 = 0
                stands 0 0 CAR,NEXT true = 0 4
                told 0 0 0..2 true = 20 5 0
                """.replace("CAR", "" + car).replace("NEXT", "" + (car + 1)));
        }
    }

    private static void move() {
        edge("A MOVE of a STREET to another ZONE: what the sum of WALKS, and how many are OUT,"
            + " in THE LEAST become by it; nothing is changed by asking.", """
            street 0 1,2 = 0 1
            rule 1 6 6 = 1
            car 0,0 = 0 1
            told 0 6 0,1 true = 10 0
            moved 0 6 0 1 0,1 = 20 0
            moved 0 6 1 1 0,1 = 0 1
            moved 0 5,7 0,1 1 0,1 = 10 0 10 0 10 0 10 0
            moved 0 6 0,1 2,3 0,1 = 10 0 10 0 10 0 10 0
            cards 1 1 1 = 0
            moved 0 6 0 1 0,1 = 10 0    # by a CARD
            close 1 2 2 = 0
            moved 2 6 0 1 0,1 = 0 1
            told 0 6 0,1 true = 10 0
            many 7 = 1
            move 0,1 0 = 0
            new                         # in THE LEAST, not in THE NIGHT
            street 0 1,1,1 = 0 1 2
            walk 0 1 50 = 10
            walk 0 2 0 = 10
            walk 1 2 50 = 10
            car 0,0 = 0 1
            limit 1 49 = 99
            rule 3 0 23 = 1
            move 2 3 = 0
            told 0 0 0,1 false = 0 1
            moved 0 0 2 3 0,1 = 50 0
            moved 0 0 2 0 0,1 = 0 0
            """);
    }

    private static void wardens() {
        edge("WARDENS go to one STREET a NIGHT. Who cheats in STREET s gains G(s) (0 to 99; 0 at first)"
            + " if no warden comes,", """
            street 0 0,0 = 0 1
            gain 0,1 0 = 0
            gain 0 low,-1,100,high = -1
            gain 0 99 = 0
            gain 1 0 = 0
            gain 0 0 = 99
            gain 0 0 = 0
            """);
        edge("and loses F (1 to 500; 100 at first) less, if one does"
            + " (so G(s) less F times the chance of a warden there).", """
            fine low,-1,0,501,high = -1
            fine 100 = 100
            fine 1 = 100
            fine 500 = 1
            fine 500 = 500
            new
            street 0 0 = 0
            gain 0 99 = 0
            turn 0 0,1 = 99 100         # F is 100 at first
            stake 0,1 = 0 1
            fine 1 = 100
            turn 0 0,1 = 1 1
            stake 0,1 = 98 1
            fine 500 = 1
            turn 0 0,1 = 99 500
            """);
    }

    private static void turns() {
        edge("THE TURNS are chances for all STREETS, together 1 at most,"
            + " for which the greatest that a cheat has anywhere is least,", """
            street 0 0,0 = 0 1
            gain 0,1 50 = 0
            turn 0,1 0,1 = 1 2 1 2      # together just 1
            stake 0,1 = 0 1
            fine 101 = 100
            turn 0,1 0,1 = 50 101 50 101
            stake 0,1 = 0 1
            fine 99 = 101
            turn 0,1 0,1 = 1 2 1 2
            stake 0,1 = 1 2
            gain 0 99 = 50
            turn 0,1 0,1 = 74 99 25 99
            stake 0,1 = 25 1
            new
            street 0 0,0,0,0,0 = 0 1 2 3 4
            gain 0..4 99 = 0
            fine 500 = 100
            turn 0..4 0 = 99
            turn 0..4 1 = 500
            fine 494 = 500
            turn 0..4 0,1 = 1 5 1 5 1 5 1 5 1 5
            stake 0,1 = 1 5
            fine 1 = 494
            turn 0..4 0,1 = 1 5 1 5 1 5 1 5 1 5
            stake 0,1 = 494 5
            """);
        edge("but 0 at least;", """
            street 0 0,0 = 0 1
            turn 0,1 0,1 = 0 1 0 1
            stake 0,1 = 0 1
            gain 0 1 = 0
            fine 500 = 100
            turn 0,1 0,1 = 1 500 0 1    # not more, though chances are left
            stake 0,1 = 0 1
            """);
        edge("and no chance is greater than it must be for that.", """
            street 0 0,0,0 = 0 1 2
            gain 0,1 60 = 0
            gain 2 10 = 0
            stake 0,1 = 10 1
            turn 0..2 0,1 = 1 2 1 2 0 1 # what gains just the STAKE needs no warden
            gain 2 11 = 10
            stake 0,1 = 31 3
            turn 0..2 0,1 = 149 300 149 300 1 150
            gain 2 9 = 11
            stake 0,1 = 10 1
            turn 0..2 0,1 = 1 2 1 2 0 1
            """);
        edge("STAKE is that greatest (0 without STREETS).", """
            stake 0,1 = 0 1
            fine 1 = 100
            stake 0,1 = 0 1
            turn 0 0,1 = -1
            street 0 0 = 0
            stake 0,1 = 0 1
            gain 0 2 = 0
            stake 0,1 = 1 1
            """);
    }

    private static void tickets() {
        edge("TICKETS are numbered from 0 as they come, 20 at most: a CAR, a STREET, an hour,"
            + " whether the SIGN of the ZONE was SEEN there (1), missing (0), or UNKNOWN (2).", """
            street 0 1 = 0
            car 0 = 0
            ticket 0 0 0 low,-1,3,high = -1
            ticket 0 0 low,-1,24,high 0 = -1
            of 0 0 = -1
            ticket 0 0 0 0..2 = 0 1 2
            ticket 0 0 23 0..2 = 3 4 5
            ticket 0 0 6..18 1 = 6 7 8 9 10 11 12 13 14 15 16 17 18
            of 19 0 = -1
            ticket 0 0 5 1 = 19
            of 19 2 = 5
            ticket 0 0 0 1 = -2
            many 2 = 20
            of 20 0 = -1
            """);
        edge("(PERMITS, HOURS and CARDS as they were when it was written.)", """
            street 1 1 = 0
            car 0 = 0
            ticket 0 0 5 2 = 0          # not RULED
            rule 1 0 23 = 1
            ticket 0 0 5 2 = 1          # RULED, and nothing else
            cards 0 1 1 = 0
            ticket 0 0 5 2 = 2          # with a CARD
            keep 0 5 = 1
            ticket 0 0 5 1 = 3          # that is used up
            permit 0 0 1 true = 1
            ticket 0 0 5 1 = 4          # a PERMIT without HOURS
            hours 1 0 5 5 = 1
            ticket 0 0 5 1 = 5          # a PERMIT that is good then
            of 0..5 5 = 0 2 0 1 1 0
            hours 1 0 -1 0 = 1
            of 0..5 5 = 0 2 0 1 1 0
            cards 0 1 9 = 0
            of 0..5 5 = 0 2 0 1 1 0
            rule 1 -1 0 = 1
            of 0..5 5 = 0 2 0 1 1 0
            permit 0 0 1 false = 1
            move 0 3 = 1
            of 0..5 5 = 0 2 0 1 1 0
            """);
    }

    private static void states() {
        edge("A TICKET is GOOD (1) if the CAR MAY not stand there at that hour without a CARD,"
            + " it had no CARD there, and the SIGN was SEEN;", """
            street 1 1 = 0
            car 0 = 0
            rule 1 8 9 = 1
            cards 0 0,2,3 9 = 0         # CARDS, but not there
            ticket 0 0 7..10 1 = 0 1 2 3
            of 0..3 5 = 0 1 1 0
            """);
        edge("VOID (0) if it MAY, had one, or the SIGN was missing;", """
            street 1 1 = 0
            car 0,0 = 0 1
            ticket 0 0 5 0..2 = 0 1 2
            of 0..2 5 = 0
            rule 1 0 23 = 1
            permit 0 1 1 true = 1
            hours 1 1 5 5 = 1
            ticket 0 0 5 0..2 = 3 4 5
            of 3..5 5 = 0
            cards 1 1 1 = 0
            ticket 1 0 5 0..2 = 6 7 8
            of 6..8 5 = 0
            cards 1 1 0 = 1
            ticket 1 0 5 0 = 9
            of 9 5 = 0
            """);
        edge("else in DOUBT (2).", """
            street 1 1 = 0
            car 0 = 0
            rule 1 5 5 = 1
            ticket 0 0 5 2 = 0
            of 0 5 = 2
            many 3,4,5 = 0 0 1
            """);
    }

    private static void likes() {
        edge("LIKE ones of a TICKET: other ones of the same ZONE (as it was) and hour,"
            + " in which the SIGN was SEEN or missing;", """
            street 1,1,2 1 = 0 1 2
            car 0,0 = 0 1
            rule 1,2 0 11 = 1
            ticket 0 0 5 1 = 0
            of 0 7 = 0                  # it is none of its own
            ticket 0 0 5 2 = 1
            of 0,1 7 = 0 1              # UNKNOWN is none
            ticket 1 1 5 0 = 2          # another CAR, another STREET
            of 0..2 7 = 1 2 1
            ticket 0 0 4,6 1 = 3 4      # another hour
            ticket 0 2 5 1 = 5          # another ZONE
            of 0..5 7 = 1 2 1 0 0 0
            move 2 1 = 2                # ZONES as they were
            of 0..5 7 = 1 2 1 0 0 0
            ticket 0 2 5 1 = 6          # and now it is of theirs
            of 0..6 7 = 2 3 2 0 0 0 2
            """);
        edge("one in DOUBT is by its LIKES GOOD if more of them SAW it than missed it, VOID if fewer,"
            + " else in DOUBT still.", """
            street 1 1 = 0
            car 0 = 0
            rule 1 0 23 = 1
            ticket 0 0 5 2 = 0
            of 0 5,6,7 = 2 2 0          # none either way
            ticket 0 0 5 1 = 1
            of 0 5,6,7 = 2 1 1
            ticket 0 0 5 0 = 2
            of 0 5,6,7 = 2 2 2          # as many
            ticket 0 0 5 0 = 3
            of 0 5,6,7 = 2 0 3
            ticket 0 0 5 2 = 4
            of 0,4 6 = 0 0
            ticket 0 0 5 1,1 = 5 6
            of 0,4 6 = 1 1
            of 1,2 6 = 1 0              # others than those in DOUBT as they are
            many 3,4,5 = 3 2 2
            """);
    }

    private static void refusals() {
        edge("A call that is refused (answers below 0, where not told otherwise) changes nothing.", """
            street 1 1 = 0
            street 2 2,2,2,2 = 1 2 3 4
            street 3 5 = -2
            many 0,6 = 5 9
            move 0..4 0 = 1 2 2 2 2
            car 0,0,0,0,0,0,0 = 0 1 2 3 4 5 6
            limit 6 3 = 99
            car 4 = -2
            many 1 = 7
            limit 6 3 = 3
            late 0..6 = 6
            stands 0 0 0..6 false = 0 1 1 2 2 3 -3
            stands 0 0 6 false = -3
            late 0..6 = 6
            rule 0 0 23 = 1
            ticket 0 0 0..19 1 = 0 1 2 3 4 5 6 7 8 9 10 11 12 13 14 15 16 17 18 19
            ticket 0 1 5 0 = -2
            many 2,3,4,5 = 20 20 0 0
            of 19 0..7 = 0 0 19 1 0 1 1 0
            of 5 7 = 0
            """);
        edge("Of several refusals that a call names the first one named is answered.", """
            street 0 0,0,0,0,0 = 0 1 2 3 4
            street 0 0 = -2
            street 4 0 = -1
            street 0 6 = -1
            car 0,0,0,0,0,0,0 = 0 1 2 3 4 5 6
            car 0 = -2
            car 5 = -1
            ticket 0 0 0..19 0 = 0 1 2 3 4 5 6 7 8 9 10 11 12 13 14 15 16 17 18 19
            ticket 0 0 0 0 = -2
            ticket 7 0 0 0 = -1
            ticket 0 5 0 0 = -1
            ticket 0 0 24 0 = -1
            ticket 0 0 0 3 = -1
            stands 0 0 0 false,true = -3
            stands 7 0 0 false,true = -1
            stands 0 24 0 false,true = -1
            stands 0 0 7 false,true = -1
            """);
    }

    private static void constants() {
        edge("The constants: `NUMBER = -1`: A number is none, or none that may be.", "late 0 = -1");
        D.due("NUMBER", ParkDesk.NUMBER, -1);
        edge("`FULL = -2`: There are as many as may be.", "street 0 0,0,0,0,0,0 = 0 1 2 3 4 -2");
        D.due("FULL", ParkDesk.FULL, -2);
        edge("`NONE = -3`: There is none.", """
            street 0 0 = 0
            car 0 = 0
            stands 0 0 0 true = -3
            """);
        D.due("NONE", ParkDesk.NONE, -3);
    }
}

import java.util.ArrayList;
import java.util.List;
import java.util.function.ToIntFunction;

/** Refused calls and mere questions change nothing: a desk reads as one on which they weren't made. */
public final class RefusalsTest {
    private static final Due D = new Due("RefusalsTest");
    private static final int LOW = Integer.MIN_VALUE;
    private static final int HIGH = Integer.MAX_VALUE;

    public static void main(String[] args) {
        List<Integer> untouched = read(desk());
        setters(untouched);
        questions(untouched);
        answersOfQuestions(untouched);
        D.end();
    }

    /** All but full, so that nothing is refused for that alone but where a test asks for it. */
    private static ParkDesk desk() {
        ParkDesk x = new ParkDesk();
        for (int s = 0; s < 3; s++) {
            x.street(s, s + 1);
            x.gain(s, 30 * s + 20);
            x.close(s, s, 1);
        }
        x.walk(0, 1, 4);
        x.walk(1, 2, 6);
        x.rule(1, 20, 8);
        x.rule(2, 0, 23);
        x.hours(1, 1, 4, 5);
        for (int c = 0; c < 4; c++) {
            x.car(c % 3);
            x.permit(c, c % 3, 1, true);
            x.cards(c, 2, c);
            x.limit(c, 5 + c);
        }
        x.late(1);
        x.ticket(0, 2, 5, 2);
        x.ticket(1, 2, 5, 1);
        x.fine(70);
        return x;
    }

    /** Reads all there is to read; what can be read only by setting is read last. */
    private static List<Integer> read(ParkDesk x) {
        List<Integer> r = new ArrayList<>();
        for (int what = 0; what < 8; what++) {
            r.add(x.many(what));
            r.add(x.of(0, what));
            r.add(x.of(1, what));
        }
        for (int what = 0; what < 2; what++) {
            r.add(x.stake(what));
            r.add(x.turn(1, what));
            r.add(x.moved(0, 5, 2, 0, what));
        }
        for (int c = 0; c < 4; c++) {
            for (int s = 0; s < 3; s++) {
                r.add(x.may(c, s, 5));
                r.add(x.may(c, s, 20));
            }
            r.add(x.stands(2, 5, c, false));
            r.add(x.stands(2, 5, c, true));
        }
        readBySetting(x, r);
        return r;
    }

    private static void readBySetting(ParkDesk x, List<Integer> r) {
        for (int c = 0; c < 4; c++) {
            r.add(x.late(c));
            r.add(x.limit(c, 0));
            for (int zone = 0; zone < 4; zone++) {
                r.add(x.cards(c, zone, 0));
                for (int sort = 0; sort < 3; sort++) {
                    r.add(x.permit(c, sort, zone, false));
                }
            }
        }
        r.add(x.fine(1));
        for (int s = 0; s < 3; s++) {
            r.add(x.gain(s, 0));
            r.add(x.walk(s, (s + 1) % 3, 0));
            r.add(x.move(s, 3));
            for (int night = 0; night < 7; night++) {
                r.add(x.close(s, night, 0));
            }
        }
    }

    private static void refused(List<Integer> untouched, String call, ToIntFunction<ParkDesk> made) {
        ParkDesk x = desk();
        D.due(call, made.applyAsInt(x), -1);
        D.holds(call + " changes nothing", read(x).equals(untouched));
    }

    private static void setters(List<Integer> u) {
        for (int bad : new int[] {LOW, -1, 99999, HIGH}) {
            refused(u, "street zone " + bad, x -> x.street(bad, 1));
            refused(u, "street bays " + bad, x -> x.street(1, bad));
            refused(u, "move street " + bad, x -> x.move(bad, 1));
            refused(u, "move zone " + bad, x -> x.move(0, bad));
            refused(u, "walk street " + bad, x -> x.walk(bad, 0, 1));
            refused(u, "walk other " + bad, x -> x.walk(0, bad, 1));
            refused(u, "walk v " + bad, x -> x.walk(0, 1, bad));
            refused(u, "close street " + bad, x -> x.close(bad, 0, 0));
            refused(u, "close night " + bad, x -> x.close(0, bad, 0));
            refused(u, "close n " + bad, x -> x.close(0, 0, bad));
            refused(u, "rule zone " + bad, x -> x.rule(bad, 0, 1));
            refused(u, "rule b " + bad, x -> x.rule(1, 5, bad));
            refused(u, "hours zone " + bad, x -> x.hours(bad, 0, 0, 1));
            refused(u, "hours sort " + bad, x -> x.hours(1, bad, 0, 1));
            refused(u, "hours b " + bad, x -> x.hours(1, 0, 5, bad));
            refused(u, "car home " + bad, x -> x.car(bad));
            refused(u, "permit car " + bad, x -> x.permit(bad, 0, 0, true));
            refused(u, "permit sort " + bad, x -> x.permit(0, bad, 0, true));
            refused(u, "permit zone " + bad, x -> x.permit(0, 0, bad, true));
            refused(u, "cards car " + bad, x -> x.cards(bad, 0, 1));
            refused(u, "cards zone " + bad, x -> x.cards(0, bad, 1));
            refused(u, "cards n " + bad, x -> x.cards(0, 0, bad));
            refused(u, "limit car " + bad, x -> x.limit(bad, 1));
            refused(u, "limit v " + bad, x -> x.limit(0, bad));
            refused(u, "late " + bad, x -> x.late(bad));
            refused(u, "keep night " + bad, x -> x.keep(bad, 5));
            refused(u, "keep hour " + bad, x -> x.keep(0, bad));
            refused(u, "gain street " + bad, x -> x.gain(bad, 1));
            refused(u, "gain v " + bad, x -> x.gain(0, bad));
            refused(u, "fine " + bad, x -> x.fine(bad));
            refused(u, "ticket car " + bad, x -> x.ticket(bad, 0, 0, 0));
            refused(u, "ticket street " + bad, x -> x.ticket(0, bad, 0, 0));
            refused(u, "ticket hour " + bad, x -> x.ticket(0, 0, bad, 0));
            refused(u, "ticket sign " + bad, x -> x.ticket(0, 0, 0, bad));
        }
        for (int bad : new int[] {LOW, -2, 24, HIGH}) {
            refused(u, "rule a " + bad, x -> x.rule(1, bad, 1));
            refused(u, "hours a " + bad, x -> x.hours(1, 0, bad, 1));
        }
        refused(u, "walk of one and itself", x -> x.walk(1, 1, 5));
        refused(u, "fine(0)", x -> x.fine(0));
    }

    private static void questions(List<Integer> u) {
        for (int bad : new int[] {LOW, -1, 99999, HIGH}) {
            refused(u, "may car " + bad, x -> x.may(bad, 0, 0));
            refused(u, "may street " + bad, x -> x.may(0, bad, 0));
            refused(u, "may hour " + bad, x -> x.may(0, 0, bad));
            refused(u, "stands night " + bad, x -> x.stands(bad, 0, 0, true));
            refused(u, "stands hour " + bad, x -> x.stands(0, bad, 0, true));
            refused(u, "stands car " + bad, x -> x.stands(0, 0, bad, true));
            refused(u, "told night " + bad, x -> x.told(bad, 0, 0, true));
            refused(u, "told hour " + bad, x -> x.told(0, bad, 0, true));
            refused(u, "told what " + bad, x -> x.told(0, 0, bad, true));
            refused(u, "moved night " + bad, x -> x.moved(bad, 0, 0, 3, 0));
            refused(u, "moved hour " + bad, x -> x.moved(0, bad, 0, 3, 0));
            refused(u, "moved street " + bad, x -> x.moved(0, 0, bad, 3, 0));
            refused(u, "moved zone " + bad, x -> x.moved(0, 0, 0, bad, 0));
            refused(u, "moved what " + bad, x -> x.moved(0, 0, 0, 3, bad));
            refused(u, "turn street " + bad, x -> x.turn(bad, 0));
            refused(u, "turn what " + bad, x -> x.turn(0, bad));
            refused(u, "stake " + bad, x -> x.stake(bad));
            refused(u, "of ticket " + bad, x -> x.of(bad, 0));
            refused(u, "of what " + bad, x -> x.of(0, bad));
            refused(u, "many " + bad, x -> x.many(bad));
        }
    }

    private static void answersOfQuestions(List<Integer> untouched) {
        ParkDesk x = desk();
        for (int what = 0; what < 2; what++) {
            x.told(1, 5, what, false);
            x.told(1, 5, what, true);
            x.moved(1, 5, 0, 2, what);
            x.moved(1, 5, 2, 0, what);
            x.turn(0, what);
            x.stake(what);
        }
        for (int c = 0; c < 4; c++) {
            x.stands(1, 5, c, false);
            x.stands(1, 5, c, true);
            x.may(c, 2, 5);
        }
        D.holds("questions change nothing", read(x).equals(untouched));
    }
}

/** Promises 18 to 21: gain, fine, turn, stake. */
public final class WardensTest {
    private static final Due D = new Due("WardensTest");

    public static void main(String[] args) {
        gains();
        fines();
        refusals();
        without();
        turns(new int[] {60, 60, 10}, 100, "10/1", "1/2", "1/2", "0/1");
        turns(new int[] {60, 60, 10}, 130, "0/1", "6/13", "6/13", "1/13");
        turns(new int[] {60, 60, 10}, 129, "1/3", "179/387", "179/387", "29/387");
        turns(new int[] {60, 60, 10}, 500, "0/1", "3/25", "3/25", "1/50");
        turns(new int[] {99, 0, 10}, 1, "98/1", "1/1", "0/1", "0/1");
        turns(new int[] {0, 0}, 1, "0/1", "0/1", "0/1");
        turns(new int[] {99}, 100, "0/1", "99/100");
        turns(new int[] {99}, 99, "0/1", "1/1");
        turns(new int[] {99}, 98, "1/1", "1/1");
        turns(new int[] {5, 3}, 2, "3/1", "1/1", "0/1");
        turns(new int[] {5, 3}, 3, "5/2", "5/6", "1/6");
        turns(new int[] {3, 9, 3, 7, 9}, 6, "19/3", "0/1", "4/9", "0/1", "1/9", "4/9");
        turns(new int[] {99, 98, 97, 96, 95}, 500, "0/1", "99/500", "49/250", "97/500", "24/125",
            "19/100");
        turns(new int[] {99, 99, 99, 99, 99}, 494, "1/5", "1/5", "1/5", "1/5", "1/5", "1/5");
        laterStreet();
        D.end();
    }

    private static void gains() {
        ParkDesk x = new ParkDesk();
        D.due("gain without streets", x.gain(0, 1), -1);
        x.street(0, 0);
        x.street(0, 0);
        D.due("gain(0, 99)", x.gain(0, 99), 0);
        D.due("gain(0, 100)", x.gain(0, 100), -1);
        D.due("gain(0, -1)", x.gain(0, -1), -1);
        D.due("gain(2, 1)", x.gain(2, 1), -1);
        D.due("gain(-1, 1)", x.gain(-1, 1), -1);
        D.due("gain(1, 0)", x.gain(1, 0), 0);
        D.due("gain(0, 0)", x.gain(0, 0), 99);
        D.due("gain(0, 0)", x.gain(0, 0), 0);
    }

    private static void fines() {
        ParkDesk x = new ParkDesk();
        D.due("fine(0)", x.fine(0), -1);
        D.due("fine(-1)", x.fine(-1), -1);
        D.due("fine(501)", x.fine(501), -1);
        D.due("fine(500)", x.fine(500), 100);
        D.due("fine(1)", x.fine(1), 500);
        D.due("fine(0)", x.fine(0), -1);
        D.due("fine(7)", x.fine(7), 1);
    }

    private static void refusals() {
        ParkDesk x = new ParkDesk();
        x.street(0, 0);
        D.due("turn(1, 0)", x.turn(1, 0), -1);
        D.due("turn(-1, 0)", x.turn(-1, 0), -1);
        D.due("turn(0, -1)", x.turn(0, -1), -1);
        D.due("turn(0, 2)", x.turn(0, 2), -1);
        D.due("stake(-1)", x.stake(-1), -1);
        D.due("stake(2)", x.stake(2), -1);
    }

    private static void without() {
        ParkDesk x = new ParkDesk();
        D.due("stake(0) without streets", x.stake(0), 0);
        D.due("stake(1) without streets", x.stake(1), 1);
        D.due("turn(0, 0) without streets", x.turn(0, 0), -1);
    }

    /** Of gains and a fine: the stake, then the chances, each as above/below. */
    private static void turns(int[] gains, int fine, String... want) {
        ParkDesk x = new ParkDesk();
        for (int s = 0; s < gains.length; s++) {
            x.street(s % 4, 1);
            x.gain(s, gains[s]);
        }
        x.fine(fine);
        String name = java.util.Arrays.toString(gains) + " fine " + fine;
        ratio(name + ": stake", x.stake(0), x.stake(1), want[0]);
        for (int s = 0; s < gains.length; s++) {
            ratio(name + ": turn " + s, x.turn(s, 0), x.turn(s, 1), want[s + 1]);
        }
    }

    private static void ratio(String name, int above, int below, String want) {
        String[] parts = want.split("/");
        D.due(name + " above", above, Integer.parseInt(parts[0]));
        D.due(name + " below", below, Integer.parseInt(parts[1]));
    }

    private static void laterStreet() {
        ParkDesk x = new ParkDesk();
        x.street(0, 0);
        x.gain(0, 99);
        x.fine(50);
        ratio("one street", x.stake(0), x.stake(1), "49/1");
        x.street(0, 0);
        ratio("a later street gains 0 at first", x.stake(0), x.stake(1), "49/1");
        ratio("its chance", x.turn(1, 0), x.turn(1, 1), "0/1");
    }
}

/** Villages to begin a test with, and a picture of all that can be asked of one. */
final class Scene {
    private static final int PEOPLE = 8;

    private Scene() {
    }

    /** People by threes: a cell, a reach, a kind. */
    static HandRing with(int... people) {
        HandRing x = new HandRing();
        for (int i = 0; i + 2 < people.length; i += 3) {
            x.person(people[i], people[i + 1], people[i + 2]);
        }
        return x;
    }

    /** So many people in cell 0, all of whom can hold one another's hands. */
    static HandRing crowd(int n) {
        HandRing x = new HandRing();
        for (int i = 0; i < n; i++) {
            x.person(0, 4, i % 4);
        }
        return x;
    }

    /** The village under one more law, which must be one that can be read. */
    static HandRing under(HandRing x, String law) {
        int number = Due.law(x, law);
        if (number < 0) {
            throw new IllegalStateException("no law: " + law);
        }
        x.force(number);
        return x;
    }

    /** The people hold hands in a ring, by their numbers. */
    static HandRing ringOf(int n) {
        HandRing x = crowd(n);
        for (int i = 0; i < n; i++) {
            x.take(i, (i + 1) % n);
        }
        return x;
    }

    /** All that questions tell but what was refused; some ninety calls of the 512. */
    static String picture(HandRing x) {
        StringBuilder told = new StringBuilder();
        for (int what : new int[] {0, 1, 2, 3, 4, 5, 11, 12, 13, 14, 15}) {
            told.append(what).append(':').append(x.count(what)).append(' ');
        }
        for (int p = 0; p < PEOPLE; p++) {
            told.append("| ");
            for (int what = 0; what <= 5; what++) {
                told.append(x.of(p, what)).append(' ');
            }
            for (int what = 0; what <= 2; what++) {
                told.append(x.drawn(p, what)).append(' ');
            }
        }
        told.append("| ").append(x.fault()).append(' ').append(x.stopped()).append(' ').append(x.gaps());
        told.append(' ').append(x.fits(0)).append(' ').append(x.lights(1));
        return told.toString();
    }
}

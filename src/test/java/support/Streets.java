/** Streets to begin a test with, and what is told to them in one go. */
final class Streets {
    private Streets() {
    }

    static void feedAll(ForgivenStreet x, String text) {
        for (int i = 0; i < text.length(); i++) x.feed(text.charAt(i));
    }

    static int enact(ForgivenStreet x, String text) {
        feedAll(x, text);
        return x.law();
    }

    static void fill(ForgivenStreet x, int shelf, int sort, int... values) {
        x.row(shelf, sort, values.length);
        for (int i = 0; i < values.length; i++) x.put(shelf, i, values[i]);
    }

    /** NUMBERS of the HOUSES from 0 on. */
    static void numbers(ForgivenStreet x, int... values) {
        for (int h = 0; h < values.length; h++) x.mend(h, 0, values[h]);
    }

    /** So many PEOPLE, in the HOUSES of their own numbers. */
    static ForgivenStreet peopled(int many) {
        ForgivenStreet x = new ForgivenStreet();
        for (int p = 0; p < many; p++) x.person(p);
        return x;
    }

    /** PEOPLE 0, 1, 2 in HOUSES 0, 1, 2; each WRONG counts by its WEIGHT. */
    static ForgivenStreet weighing() {
        ForgivenStreet x = peopled(3);
        enact(x, "w");
        return x;
    }

    /** Ten PEOPLE; each WRONG counts by its WEIGHT. */
    static ForgivenStreet tenWeighing() {
        ForgivenStreet x = peopled(10);
        enact(x, "w");
        return x;
    }

    /** weighing(), and so many WRONGS of 0 to 1 with the WEIGHT told. */
    static ForgivenStreet wronged(int many, int weight) {
        ForgivenStreet x = weighing();
        for (int w = 0; w < many; w++) x.wrong(1, weight);
        return x;
    }

    /** One WRONG: WEIGHT 7, 30 days ago, HEART 4 of TO; in HOUSE 2, where TO lives, two see it and NUMBER is 5. */
    static ForgivenStreet told() {
        ForgivenStreet x = new ForgivenStreet();
        for (int house : new int[] {1, 2, 2, 2, 3}) x.person(house);
        x.mend(1, 2, 4);
        x.wrong(1, 7);
        x.mend(0, 6, 30);
        x.mend(2, 0, 5);
        return x;
    }

    /** Some of everything: people, wrongs, a law, a tape, deeds, an image, changes, doors, a trace, all sorts of shelves. */
    static ForgivenStreet rich() {
        ForgivenStreet x = new ForgivenStreet();
        for (int house : new int[] {0, 3, 3, 7}) x.person(house);
        x.wrong(1, 5);
        x.wrong(12, 9);
        x.wrong(20, 2);
        x.wrong(31, 7);
        enact(x, "w/2+o");
        x.mend(4, 0, 3);
        x.call(0, 3);
        x.call(0, 3);
        x.days(3);
        x.image();
        x.call(1, 5);
        x.slam(3);
        x.days(2);
        x.again(0);
        x.call(2, 0);
        x.wrong(13, 4);
        x.mend(0, 0, 7);
        x.mend(1, 2, 9);
        x.mend(0, 3, 1);
        x.mend(2, 1, 5);
        x.undo();
        for (int kind = 0; kind < 8; kind++) x.body(kind);
        x.act(7, 3, 5);
        fill(x, 0, 0, 0, 1, 5, 1, 2, 9);
        fill(x, 1, 1, 3, 15, 36);
        fill(x, 2, 1, 3, 3, 3, 6);
        fill(x, 3, 3, 8, 9);
        x.keep(4, 6);
        feedAll(x, "9-h");
        return x;
    }

    /** Twelve WRONGS, each of another WEIGHT than the one before, among ten PEOPLE. */
    static ForgivenStreet fullOfWrongs() {
        ForgivenStreet x = tenWeighing();
        for (int w = 0; w < 12; w++) x.wrong(w % 9 * 10 + 9, 1 + w % 9);
        return x;
    }

    /** 120 bytes on THE TAPE, the last of them a sign. */
    static ForgivenStreet fullTape() {
        ForgivenStreet x = wronged(1, 4);
        for (int i = 0; i < 120; i++) x.feed(i % 2 == 0 ? 'w' : '+');
        return x;
    }

    static ForgivenStreet fullOfBodies() {
        ForgivenStreet x = new ForgivenStreet();
        for (int b = 0; b < 50; b++) x.body(b % 8);
        x.act(49, 1, 3);
        return x;
    }

    /** Forty changes that may be undone: NUMBER of HOUSE 0 from 1 to 40. */
    static ForgivenStreet changed() {
        ForgivenStreet x = wronged(1, 4);
        for (int v = 1; v <= 40; v++) x.mend(0, 0, v);
        return x;
    }
}

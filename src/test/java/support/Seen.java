/** All that later calls show of a street, as a text; the street is used up by it. */
final class Seen {
    private final ForgivenStreet x;
    private final StringBuilder text = new StringBuilder();
    private int calls = 0;

    private Seen(ForgivenStreet x) {
        this.x = x;
    }

    /** Some 300 calls for Streets.rich(); only what a street has is asked, so that an object's 512 calls are enough. */
    static String of(ForgivenStreet x) {
        Seen seen = new Seen(x);
        seen.counted();
        seen.shelved();
        seen.people();
        seen.deeds();
        seen.changed();
        seen.imaged();
        seen.legal();
        seen.sorted();
        if (seen.calls > 420) throw new IllegalStateException(seen.calls + " calls are too many");
        return seen.text.toString();
    }

    private long note(long answer) {
        calls++;
        text.append(answer).append(' ');
        return answer;
    }

    private void head(String name) {
        text.append('[').append(name).append("] ");
    }

    private void counted() {
        head("count, trace");
        for (int what = 0; what < 6; what++) note(x.count(what));
        for (int i = 0; note(x.trace(i)) >= 0; i++);
    }

    private void shelved() {
        for (int s = 0; s < 6; s++) {
            head("shelf " + s);
            if (note(x.taken(s, 0)) != -12) continue;
            for (int i = 0; i < 60 && note(x.element(s, i)) != Long.MIN_VALUE; i++);
        }
    }

    private void people() {
        head("people");
        for (int p = 0; note(x.of(p, 1)) >= 0; p++) note(x.of(p, 2));
        head("by, to, weight");
        for (int w = 0; note(x.of(w, 7)) >= 0; w++) {
            note(x.of(w, 8));
            note(x.of(w, 3));
        }
    }

    private void deeds() {
        head("numbers, days, forgiven, today, led");
        for (int h = 0; h < 12; h++) note(x.of(h, 0));
        for (int w = 0; note(x.of(w, 4)) >= 0; w++) note(x.of(w, 5));
        note(x.of(0, 6));
        for (int what = 0; what < 6; what++) note(x.led(what));
    }

    private void changed() {
        head("redo");
        if (note(x.redo()) >= 0) {
            while (note(x.redo()) >= 0);
            people();
            deeds();
        }
        head("undo");
        if (note(x.undo()) < 0) return;
        while (note(x.undo()) >= 0);
        people();
        deeds();
    }

    private void imaged() {
        head("back");
        if (note(x.back()) >= 0) deeds();
    }

    private void legal() {
        head("law, the law of the tape");
        for (int w = 0; w < 3; w++) note(x.counts(w, w));
        note(x.law());
        for (int w = 0; w < 3; w++) note(x.counts(w, w));
    }

    private void sorted() {
        head("sorts");
        for (int s = 0; s < 6; s++) {
            if (note(x.put(s, 0, 0x123456789abcdefL)) == 1) note(x.element(s, 0));
        }
    }
}

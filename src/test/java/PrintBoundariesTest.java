/** The boundaries of EDITIONS, prints, jumps and sound: the end of Terms II, Terms III and IV, promises 10 to 20. */
public final class PrintBoundariesTest extends Sentences {
    public static void main(String[] args) {
        editions();
        longestEdition();
        keptByTurns();
        keptShots();
        places();
        lightInUse();
        notches();
        lastNotch();
        printedGreys();
        fails();
        printedPlaces();
        seenRows();
        refusedRows();
        seenPlaces();
        faultyOrApart();
        dearestFaulty();
        withinOrApart();
        seenAndPrinted();
        alikeByFails();
        alikeByRows();
        explainedOrNot();
        failedNotches();
        slips();
        halves();
        jumpsAtSlack();
        jumpsTold();
        strips();
        heardAhead();
        heardPlaces();
        joins();
        loudJoins();
        soundCounted();
        finish();
    }

    private static void editions() {
        sentence("EDITION of a LAND: of all SHOTS that are not CUT, in order, as many frames of TITLE as told, "
                + "then its FRAMES: PLACES from 0 on.");
        FilmPrinter x = lengths(2, 1, 2);
        law(x, "title shot;cut if land=1 and shot=1;cut if land=2;cut if land=3 and shot<2");
        int[][] shots = {{0, 0, 1, 1, 2, 2, 2, 2}, {0, 0, 2, 2, 2, 2}, {}, {2, 2, 2, 2}};
        int[][] frames = {{0, 1, NONE, 2, NONE, NONE, 3, 4}, {0, 1, NONE, NONE, 3, 4}, {}, {NONE, NONE, 3, 4}};
        for (int land = 0; land < 4; land++) {
            due("PLACES of " + land, x.edition(land, 0), shots[land].length);
            for (int p = 0; p < shots[land].length; p++) {
                due("SHOT of " + p + " in " + land, x.place(land, p, 0), shots[land][p]);
                due("FRAME of " + p + " in " + land, x.place(land, p, 1), frames[land][p]);
            }
            due("SHOT behind the last in " + land, x.place(land, shots[land].length, 0), NONE);
        }
    }

    private static void longestEdition() {
        sentence("EDITION of a LAND: of all SHOTS that are not CUT, in order, as many frames of TITLE as told, "
                + "then its FRAMES: PLACES from 0 on.");
        FilmPrinter x = new FilmPrinter();
        for (int n = 0; n < 16; n++) {
            x.shot(40, 50, 0, 0, 0, 0);
        }
        law(x, "title 21;cut if land=1 and shot=15;light 19");
        due("PLACES", x.edition(0, 0), 960);
        due("PLACES but for one SHOT", x.edition(1, 0), 900);
        due("SHOT of the last", x.place(0, 959, 0), 15);
        due("FRAME of the last", x.place(0, 959, 1), 639);
        due("PRINTED in the last", x.printed(0, 959), 46);
        due("the last of TITLE", x.place(0, 919, 1), NONE);
        due("the first behind it", x.place(0, 920, 1), 600);
        due("behind the last", x.place(0, 960, 0), NONE);
        due("PRINTED behind the last", x.printed(0, 960), NONE);
        due("HEARD in the last", x.heard(0, 959), 15);
        due("HEARD behind the last", x.heard(0, 960), NONE);
        due("behind the last of the other", x.place(1, 900, 0), NONE);
    }

    private static void keptByTurns() {
        sentence("KEPT are these SHOTS, by turns from 0 on.");
        FilmPrinter x = lengths(1, 1, 1, 1);
        law(x, "light 20+shot;cut if land=1 and shot=0;cut if land=2 and shot=2;cut if land=3");
        x.fail(1, 2);
        // the second NOTCH leads from turn 1 to turn 3, or to the last turn there is
        dueRow("all KEPT", printed(x, 0), 100, 104, 112, 112);
        dueRow("but for the first", printed(x, 1), 104, 108, 112);
        dueRow("but for the third", printed(x, 2), 100, 104, 112);
        due("all KEPT", x.edition(0, 1), 4);
        due("but for the first", x.edition(1, 1), 3);
        due("none KEPT", x.edition(3, 1), 0);
    }

    private static void keptShots() {
        sentence("How many PLACES the EDITION of a LAND has (what 0), KEPT SHOTS (1). NONE.");
        FilmPrinter x = lengths(2, 1, 2);
        law(x, "cut if land>shot");
        due("all KEPT", x.edition(0, 1), 3);
        due("their PLACES", x.edition(0, 0), 5);
        due("two KEPT", x.edition(1, 1), 2);
        due("one KEPT", x.edition(2, 1), 1);
        due("its PLACES", x.edition(2, 0), 2);
        due("none KEPT", x.edition(3, 1), 0);
        due("no PLACES", x.edition(3, 0), 0);
        for (int off : new int[] {-1, 2, MIN, MAX}) {
            due("what " + off, x.edition(0, off), NONE);
        }
        for (int off : new int[] {-1, 8, MIN, MAX}) {
            due("PLACES of LAND " + off, x.edition(off, 0), NONE);
            due("KEPT of LAND " + off, x.edition(off, 1), NONE);
        }
    }

    private static void places() {
        sentence("Of a PLACE of an EDITION its SHOT (what 0), its FRAME in the NEGATIVE (1; NONE: a TITLE). NONE.");
        FilmPrinter x = lengths(1, 2);
        law(x, "title 1 if shot=1;cut if land=7");
        due("SHOT of 0", x.place(0, 0, 0), 0);
        due("FRAME of 0", x.place(0, 0, 1), 0);
        due("SHOT of a TITLE", x.place(0, 1, 0), 1);
        due("FRAME of a TITLE", x.place(0, 1, 1), NONE);
        due("SHOT of the last", x.place(0, 3, 0), 1);
        due("FRAME of the last", x.place(0, 3, 1), 2);
        for (int off : new int[] {-1, 4, MIN, MAX}) {
            due("SHOT of " + off, x.place(0, off, 0), NONE);
            due("FRAME of " + off, x.place(0, off, 1), NONE);
        }
        for (int off : new int[] {-1, 2, MIN, MAX}) {
            due("what " + off, x.place(0, 0, off), NONE);
        }
        for (int off : new int[] {-1, 8, MIN, MAX}) {
            due("LAND " + off, x.place(off, 0, 0), NONE);
        }
        due("of no PLACES", x.place(7, 0, 0), NONE);
    }

    private static void lightInUse() {
        sentence("PRINTED: the LIGHT in use is the first KEPT SHOT's.");
        FilmPrinter x = lengths(1, 1, 1);
        law(x, "light 20+shot;cut if land>shot");
        dueRow("the first is 0", printed(x, 0), 100, 104, 108);
        dueRow("the first is 1", printed(x, 1), 104, 108);
        dueRow("the first is 2", printed(x, 2), 108);
        dueRow("there is no first", printed(x, 3));
        for (int how = 0; how <= 2; how++) {
            x.fail(0, how);
            due("no NOTCH is ahead of it", x.printed(0, 0), 100);
            due("no NOTCH is ahead of it", x.printed(2, 0), 108);
        }
    }

    private static FilmPrinter failing(int... hows) {
        FilmPrinter x = lengths(1, 1, 1, 1, 1);
        law(x, "light 20+shot;cut if land=1 and shot=1;title 2 if land=2");
        for (int notch = 0; notch < hows.length; notch++) {
            x.fail(notch, hows[notch]);
        }
        return x;
    }

    private static void notches() {
        sentence("Ahead of the first PLACE of each later KEPT SHOT's part a NOTCH (0, 1, ..) asks for the next one: "
                + "by its FAIL it moves on by one turn (0), by none (1: missed), by two (2: doubled), "
                + "never beyond the last one.");
        dueRow("none fails", printed(failing(), 0), 100, 104, 108, 112, 116);
        dueRow("the first missed", printed(failing(1), 0), 100, 100, 104, 108, 112);
        dueRow("the first doubled", printed(failing(2), 0), 100, 108, 112, 116, 116);
        dueRow("the second missed", printed(failing(0, 1), 0), 100, 104, 104, 108, 112);
        dueRow("the last missed", printed(failing(0, 0, 0, 1), 0), 100, 104, 108, 112, 112);
        dueRow("the last doubled", printed(failing(0, 0, 0, 2), 0), 100, 104, 108, 112, 116);
        dueRow("the last but one doubled", printed(failing(0, 0, 2), 0), 100, 104, 108, 116, 116);
        dueRow("all missed", printed(failing(1, 1, 1, 1), 0), 100, 100, 100, 100, 100);
        dueRow("all doubled", printed(failing(2, 2, 2, 2), 0), 100, 108, 116, 116, 116);
        dueRow("missed, doubled", printed(failing(1, 2), 0), 100, 100, 108, 112, 116);
        dueRow("doubled beyond, missed", printed(failing(2, 2, 2, 1), 0), 100, 108, 116, 116, 116);
        dueRow("one that asks for nothing", printed(failing(0, 0, 0, 0, 1), 0), 100, 104, 108, 112, 116);
        dueRow("none fails, one CUT", printed(failing(), 1), 100, 108, 112, 116);
        dueRow("the first missed, one CUT", printed(failing(1), 1), 100, 100, 108, 112);
        dueRow("the third missed, one CUT", printed(failing(0, 0, 1), 1), 100, 108, 112, 112);
        dueRow("the fourth is none, one CUT", printed(failing(0, 0, 0, 1), 1), 100, 108, 112, 116);
        dueRow("TITLES ask once", printed(failing(0, 1), 2),
                255, 255, 100, 255, 255, 104, 255, 255, 104, 255, 255, 108, 255, 255, 112);
    }

    private static void lastNotch() {
        sentence("FAIL of a NOTCH 0 .. 14 becomes 0, 1, 2: what it was (0 at first). -1.");
        FilmPrinter x = greys(row(16, 100));
        x.terms(GAIN, 1);
        law(x, "light 20+shot");
        due("the last PLACE", x.printed(0, 15), 115);
        x.fail(14, 1);
        due("the last PLACE, its NOTCH missed", x.printed(0, 15), 114);
        due("the one ahead of it", x.printed(0, 14), 114);
        x.fail(14, 0);
        x.fail(13, 2);
        due("the last PLACE, beyond", x.printed(0, 15), 115);
        due("the one ahead of it, doubled", x.printed(0, 14), 115);
        due("the one ahead of that", x.printed(0, 13), 113);
        x.fail(15, 1);
        due("no such NOTCH", x.printed(0, 15), 115);
    }

    /** A film of one SHOT with one FRAME, printed. */
    private static int printedWith(int grey, int gain, int light) {
        FilmPrinter x = greys(grey);
        x.terms(GAIN, gain);
        law(x, "light " + light);
        return x.printed(0, 0);
    }

    private static void printedGreys() {
        sentence("A PLACE is PRINTED with its GREY and GAIN times (the LIGHT in use less 20), "
                + "0 .. 255 (else the nearest); a TITLE with 255.");
        due("LIGHT 20", printedWith(77, 20, 20), 77);
        due("LIGHT 21", printedWith(77, 20, 21), 97);
        due("LIGHT 19", printedWith(77, 20, 19), 57);
        due("no GAIN", printedWith(77, 0, 40), 77);
        due("254", printedWith(214, 4, 30), 254);
        due("255", printedWith(215, 4, 30), 255);
        due("256", printedWith(216, 4, 30), 255);
        due("the most", printedWith(255, 20, 40), 255);
        due("from 0 up", printedWith(0, 20, 40), 255);
        due("1", printedWith(41, 4, 10), 1);
        due("0", printedWith(40, 4, 10), 0);
        due("-1", printedWith(39, 4, 10), 0);
        due("the least", printedWith(0, 20, 1), 0);
        due("from 255 down", printedWith(255, 20, 1), 0);
        FilmPrinter x = new FilmPrinter();
        x.shot(3, 250, 9, 0, 0, 0);
        x.shot(3, 5, -9, 0, 0, 0);
        law(x, "light 19 if shot=0;light 21 if shot=1");
        dueRow("upon what is the nearest already", printed(x, 0), 246, 251, 251, 9, 4, 4);
        FilmPrinter y = lengths(1);
        y.terms(GAIN, 20);
        law(y, "title 2;light 1");
        dueRow("a TITLE knows no LIGHT", printed(y, 0), 255, 255, 0);
    }

    private static void fails() {
        sentence("FAIL of a NOTCH 0 .. 14 becomes 0, 1, 2: what it was (0 at first). -1.");
        FilmPrinter x = new FilmPrinter();
        for (int notch = 0; notch <= 14; notch++) {
            due("at first", x.fail(notch, 2), 0);
            due("was 2", x.fail(notch, 1), 2);
            due("status", x.status(), 0);
        }
        for (int off : new int[] {-1, 15, MIN, MAX}) {
            due("NOTCH " + off, x.fail(off, 0), -1);
            due("status", x.status(), -1);
        }
        for (int off : new int[] {-1, 3, MIN, MAX}) {
            due("FAIL " + off, x.fail(0, off), -1);
            due("FAIL " + off, x.fail(14, off), -1);
            due("status", x.status(), -1);
        }
        for (int notch = 0; notch <= 14; notch++) {
            due("a refused one leaves it", x.fail(notch, 0), 1);
            due("was 0", x.fail(notch, 0), 0);
        }
    }

    private static void printedPlaces() {
        sentence("What is PRINTED in a PLACE; NONE.");
        FilmPrinter x = lengths(2);
        law(x, "cut if land=7");
        due("the first", x.printed(0, 0), 100);
        due("the last", x.printed(0, 1), 100);
        for (int off : new int[] {-1, 2, MIN, MAX}) {
            due("PLACE " + off, x.printed(0, off), NONE);
        }
        due("LAND 6", x.printed(6, 0), 100);
        for (int off : new int[] {-1, 7, 8, MIN, MAX}) {
            due("LAND " + off, x.printed(off, 0), NONE);
        }
    }

    private static void seenRows() {
        sentence("SEEN: a row of greys, 800 at most, told by ROWS of bytes, each behind the others.");
        FilmPrinter x = new FilmPrinter();
        due("one", see(x, 7), 1);
        due("two more", see(x, 0, 255), 3);
        due("first", x.seen(0), 7);
        due("second", x.seen(1), 0);
        due("third", x.seen(2), 255);
        due("400 more", see(x, row(400, 1)), 403);
        due("397 more", see(x, row(397, 2)), 800);
        due("the last of the third ROW", x.seen(402), 1);
        due("the first of the fourth ROW", x.seen(403), 2);
        due("the last", x.seen(799), 2);
        due("one more", see(x, 3), -5);
        due("as many as before", x.count(3), 800);
    }

    private static void refusedRows() {
        sentence("A ROW that is SEEN, the TAPE is empty then: how many greys there are. "
                + "-5 there would be more than 800; -6 the TAPE is empty.");
        FilmPrinter x = new FilmPrinter();
        due("of none", x.see(), -6);
        due("status", x.status(), -6);
        x.feed(1, 1, 1, 1, 1);
        x.end(0);
        due("of none again", x.see(), -6);
        due("of one", see(x, 9), 1);
        due("status", x.status(), 0);
        due("the TAPE is empty", x.count(6), 0);
        due("of none again", x.see(), -6);
        due("as many as before", x.count(3), 1);
        see(x, row(400, 1));
        due("801", see(x, row(400, 2)), -5);
        due("status", x.status(), -5);
        due("the TAPE is empty", x.count(6), 0);
        due("as many as before", x.count(3), 401);
        due("nothing of it is SEEN", x.seen(401), NONE);
        due("800", see(x, row(399, 2)), 800);
        due("status", x.status(), 0);
        due("801 by one", see(x, 2), -5);
        due("of none when full", x.see(), -6);
        due("as before", x.seen(0), 9);
        due("cleared", x.clear(), 800);
        due("one again", see(x, 5), 1);
    }

    private static void seenPlaces() {
        sentence("What is SEEN in a PLACE; NONE.");
        FilmPrinter x = new FilmPrinter();
        due("nothing SEEN", x.seen(0), NONE);
        see(x, 0, 128, 255);
        due("PLACE 0", x.seen(0), 0);
        due("PLACE 1", x.seen(1), 128);
        due("PLACE 2", x.seen(2), 255);
        for (int off : new int[] {-1, 3, 800, MIN, MAX}) {
            due("PLACE " + off, x.seen(off), NONE);
        }
        x.clear();
        due("nothing SEEN again", x.seen(0), NONE);
    }

    /** EXPLAINED for LAND 0: cost, fails, PLACES that are apart, then the row of FAILS. */
    private static void explains(String what, FilmPrinter x, int... want) {
        due(what + ": cost", x.explain(0, 0), want[0]);
        due(what + ": fails", x.explain(0, 1), want[1]);
        due(what + ": apart", x.explain(0, 2), want[2]);
        for (int notch = 0; notch < want.length - 3; notch++) {
            due(what + ": NOTCH " + notch, x.failed(0, notch), want[3 + notch]);
        }
        due(what + ": no more NOTCHES", x.failed(0, want.length - 3), NONE);
    }

    /** The second SHOT is SEEN by the first one's LIGHT: its NOTCH was missed, or all its PLACES are apart. */
    private static FilmPrinter missed(int faulty, int length) {
        FilmPrinter x = lengths(1, length);
        law(x, "light 20+10*shot");
        x.terms(FAULTY, faulty);
        see(x, row(1 + length, 100));
        return x;
    }

    private static void faultyOrApart() {
        sentence("of all ways in which its NOTCHES can fail the one that costs least: FAULTY for each that fails, "
                + "1 for each PLACE that is SEEN and PRINTED more than WITHIN apart");
        explains("4 apart for 5", missed(5, 4), 4, 0, 4, 0);
        explains("5 apart for 5", missed(5, 5), 5, 0, 5, 0);
        explains("6 apart for 5", missed(5, 6), 5, 1, 0, 1);
        explains("1 apart for 1", missed(1, 1), 1, 0, 1, 0);
        explains("2 apart for 1", missed(1, 2), 1, 1, 0, 1);
        explains("40 apart for 40", missed(40, 40), 40, 0, 40, 0);
        explains("40 apart for 39", missed(39, 40), 39, 1, 0, 1);
        explains("40 apart for 100", missed(100, 40), 40, 0, 40, 0);
        FilmPrinter x = lengths(1, 3, 3, 3);
        law(x, "light 20+5*shot");
        x.terms(FAULTY, 2);
        see(x, 100, 140, 140, 140, 160, 160, 160, 160, 160, 160);
        explains("doubled", x, 2, 1, 0, 2, 0, 0);
        x.fail(0, 1);
        x.fail(2, 2);
        explains("FAILS that are set do not matter", x, 2, 1, 0, 2, 0, 0);
        x.clear();
        see(x, 100, 100, 100, 100, 100, 100, 100, 100, 100, 100);
        explains("missed thrice", x, 6, 3, 0, 1, 1, 1);
    }

    private static void dearestFaulty() {
        sentence("of all ways in which its NOTCHES can fail the one that costs least: FAULTY for each that fails, "
                + "1 for each PLACE that is SEEN and PRINTED more than WITHIN apart");
        for (int last = 20; last <= 21; last++) {
            FilmPrinter x = lengths(1, 40, 40, last);
            law(x, "light 10*shot+10");
            x.terms(FAULTY, 100);
            // PRINTED 60, 100, 140, 180: each part behind the first is SEEN by the LIGHT of the one ahead of it
            see(x, row(41, 60));
            see(x, row(40, 100));
            see(x, row(last, 140));
            if (last == 20) {
                explains("100 apart for 100", x, 100, 0, 100, 0, 0, 0);
            } else {
                explains("101 apart for 100", x, 100, 1, 0, 1, 0, 0);
            }
        }
        FilmPrinter y = greys(row(16, 100));
        law(y, "light 20+shot");
        y.terms(WITHIN, 0);
        y.terms(FAULTY, 1);
        see(y, row(16, 0));
        explains("each apart, no NOTCH helps", y, 16, 0, 16, 0, 0, 0, 0, 0, 0, 0, 0, 0, 0, 0, 0, 0, 0, 0);
    }

    private static void withinOrApart() {
        sentence("1 for each PLACE that is SEEN and PRINTED more than WITHIN apart");
        FilmPrinter x = lengths(2);
        for (int within : new int[] {0, 1, 3, 50}) {
            x.terms(WITHIN, within);
            x.clear();
            see(x, 100 - within, 100 + within);
            explains("just WITHIN " + within, x, 0, 0, 0);
            x.clear();
            see(x, 100 - within - 1, 100 + within);
            explains("one below WITHIN " + within, x, 1, 0, 1);
            x.clear();
            see(x, 100 - within, 100 + within + 1);
            explains("one above WITHIN " + within, x, 1, 0, 1);
            x.clear();
            see(x, 0, 255);
            explains("far off WITHIN " + within, x, 2, 0, 2);
        }
        FilmPrinter y = lengths(1);
        law(y, "title 2");
        see(y, 252, 251, 100);
        explains("a TITLE is 255", y, 1, 0, 1);
    }

    private static void seenAndPrinted() {
        sentence("1 for each PLACE that is SEEN and PRINTED more than WITHIN apart");
        FilmPrinter x = lengths(2);
        see(x, 0);
        explains("one SEEN of two", x, 1, 0, 1);
        see(x, 0);
        explains("two SEEN of two", x, 2, 0, 2);
        see(x, 0);
        explains("three SEEN of two", x, 2, 0, 2);
        FilmPrinter y = missed(5, 6);
        explains("all SEEN", y, 5, 1, 0, 1);
        y.clear();
        see(y, row(6, 100));
        explains("all SEEN but for one", y, 5, 0, 5, 0);
        y.clear();
        see(y, row(400, 100));
        see(y, row(400, 100));
        explains("as many SEEN as can be", y, 5, 1, 0, 1);
        y.clear();
        see(y, 100);
        explains("the later part not SEEN", y, 0, 0, 0, 0);
    }

    private static void alikeByFails() {
        sentence("of alike ones the fewest fails, then the first as rows (0, 1, 2 in this order).");
        FilmPrinter x = lengths(1, 3, 2);
        law(x, "light 20+5*shot");
        x.terms(FAULTY, 1);
        // 1 1 costs 2 fails and 2 apart, 2 0 one fail and 3 apart: 1 1 would be the first as rows
        see(x, 100, 100, 140, 140, 100, 100);
        explains("4 by one fail, not by two", x, 4, 1, 3, 2, 0);
        x.clear();
        see(x, 100, 100, 100, 140, 100, 100);
        explains("3 by two fails alone", x, 3, 2, 1, 1, 1);
        explains("5 by none, not by one", missed(5, 5), 5, 0, 5, 0);
    }

    private static void alikeByRows() {
        sentence("of alike ones the fewest fails, then the first as rows (0, 1, 2 in this order).");
        FilmPrinter x = lengths(4, 4, 4);
        law(x, "light 20;light 30 if shot=2");
        x.terms(FAULTY, 1);
        see(x, row(12, 100));
        explains("0 1 ahead of 1 0", x, 1, 1, 0, 0, 1);
        FilmPrinter y = lengths(2, 2, 2);
        law(y, "light 20;light 30 if shot=1");
        y.terms(FAULTY, 1);
        see(y, row(4, 100));
        explains("1 0 ahead of 2 0", y, 1, 1, 0, 1, 0);
        see(y, 100, 100);
        explains("2 0 alone", y, 1, 1, 0, 2, 0);
        y.clear();
        see(y, 100, 100, 100, 100, 140, 140);
        explains("1 0 alone", y, 1, 1, 0, 1, 0);
        FilmPrinter z = lengths(1, 1, 1);
        see(z, 100, 100, 100);
        explains("0 0 ahead of all", z, 0, 0, 0, 0, 0);
    }

    private static void explainedOrNot() {
        sentence("EXPLAINED for a LAND: the cost (what 0), how many NOTCHES fail (1), how many PLACES are apart (2). "
                + "NONE (nothing SEEN, no PLACE, too).");
        FilmPrinter x = lengths(1, 6);
        law(x, "light 20+10*shot;cut if land=7");
        for (int what = 0; what <= 2; what++) {
            due("nothing SEEN", x.explain(0, what), NONE);
        }
        see(x, row(7, 100));
        due("cost", x.explain(0, 0), 5);
        due("fails", x.explain(0, 1), 1);
        due("apart", x.explain(0, 2), 0);
        due("LAND 6", x.explain(6, 0), 5);
        for (int off : new int[] {-1, 3, MIN, MAX}) {
            due("what " + off, x.explain(0, off), NONE);
        }
        for (int off : new int[] {-1, 8, MIN, MAX}) {
            due("LAND " + off, x.explain(off, 0), NONE);
        }
        for (int what = 0; what <= 2; what++) {
            due("no PLACE", x.explain(7, what), NONE);
        }
        x.clear();
        due("nothing SEEN again", x.explain(0, 0), NONE);
        FilmPrinter y = new FilmPrinter();
        see(y, 100);
        due("no SHOT", y.explain(0, 0), NONE);
        y.shot(1, 100, 0, 0, 0, 0);
        due("one PLACE", y.explain(0, 0), 0);
    }

    private static void failedNotches() {
        sentence("FAIL of a NOTCH by the way that EXPLAINED tells for a LAND; NONE.");
        FilmPrinter x = greys(row(16, 100));
        x.terms(WITHIN, 0);
        x.terms(FAULTY, 1);
        law(x, "light 20+shot;cut if land=1 and shot>1;cut if land=2 and shot>0;cut if land=3");
        due("nothing SEEN", x.failed(0, 0), NONE);
        see(x, 100, 104, 108, 112, 116, 120, 124, 128, 132, 136, 140, 144, 148, 152, 156, 160);
        due("the first", x.failed(0, 0), 0);
        due("the last", x.failed(0, 14), 0);
        for (int off : new int[] {-1, 15, MIN, MAX}) {
            due("NOTCH " + off, x.failed(0, off), NONE);
        }
        due("one NOTCH alone", x.failed(1, 0), 0);
        due("no second", x.failed(1, 1), NONE);
        due("no NOTCH", x.failed(2, 0), NONE);
        due("no PLACE", x.failed(3, 0), NONE);
        for (int off : new int[] {-1, 8, MIN, MAX}) {
            due("LAND " + off, x.failed(off, 0), NONE);
        }
        FilmPrinter y = new FilmPrinter();
        for (int n = 0; n < 16; n++) {
            y.shot(2, 100, 0, 0, 0, 0);
        }
        law(y, "light 20;light 30 if shot=15");
        y.terms(FAULTY, 1);
        see(y, row(32, 100));
        due("the last one missed", y.failed(0, 14), 1);
        due("the one ahead of it", y.failed(0, 13), 0);
    }

    /** A film of SHOTS told by LENGTH and SHRINK in turn. */
    private static FilmPrinter shrunk(int slack, int... lengthsAndShrinks) {
        FilmPrinter x = new FilmPrinter();
        for (int k = 0; k + 1 < lengthsAndShrinks.length; k += 2) {
            x.shot(lengthsAndShrinks[k], 0, 0, 0, 0, lengthsAndShrinks[k + 1]);
        }
        x.terms(SLACK, slack);
        return x;
    }

    private static void slips() {
        sentence("SHRUNK: PLACE by PLACE a SLIP, 0 at first");
        dueRow("10, 20, 30", jumps(shrunk(30, 4, 10), 0), 2);
        dueRow("10, 20, 30, 40", jumps(shrunk(31, 4, 10), 0), 3);
        dueRow("never", jumps(shrunk(41, 4, 10), 0));
        dueRow("no SHRINK", jumps(shrunk(1, 40, 0), 0));
        dueRow("at first SLACK is 500", jumps(shrunk(500, 40, 40), 0), 12, 24, 37);
    }

    private static void halves() {
        sentence("ahead of the first PLACE of each later KEPT SHOT's part it becomes half, cut");
        dueRow("5, 2 and 3", jumps(shrunk(6, 1, 5, 1, 3), 0));
        dueRow("5, 2 and 4", jumps(shrunk(6, 1, 5, 1, 4), 0), 1);
        dueRow("4, 2 and 3", jumps(shrunk(6, 1, 4, 1, 3), 0));
        dueRow("4, 2 and 4", jumps(shrunk(6, 1, 4, 1, 4), 0), 1);
        dueRow("1, 0 and 0", jumps(shrunk(2, 1, 1, 1, 1), 0));
        dueRow("1, 0 and 2", jumps(shrunk(2, 1, 1, 1, 2), 0), 1);
        dueRow("9, 4 and 1, 2 and 8", jumps(shrunk(10, 1, 9, 1, 1, 1, 8), 0), 2);
        dueRow("9, 4 and 1, 2 and 7", jumps(shrunk(10, 1, 9, 1, 1, 1, 7), 0));
        FilmPrinter x = shrunk(20, 1, 19, 1, 0, 1, 11);
        dueRow("19, 9, 4 and 11", jumps(x, 0));
        law(x, "cut if shot=1;title 3 if shot=2 and land=1");
        dueRow("19, 9 and 11: a CUT one halves nothing", jumps(x, 0), 1);
        dueRow("19, 9 and 11: TITLES halve once", jumps(x, 1), 4);
        dueRow("no half within a part", jumps(shrunk(20, 2, 10), 0), 1);
        sentence("at each PLACE that is no TITLE it grows by its SHOT's SHRINK");
        FilmPrinter y = shrunk(40, 2, 40);
        dueRow("without TITLES", jumps(y, 0), 0, 1);
        law(y, "title 20");
        dueRow("with TITLES", jumps(y, 0), 20, 21);
        y.terms(SLACK, 41);
        dueRow("with TITLES", jumps(y, 0), 21);
    }

    private static void jumpsAtSlack() {
        sentence("if it is SLACK or more then, it JUMPS at that PLACE, and SLIP is less by SLACK.");
        dueRow("10 of 10", jumps(shrunk(10, 3, 10), 0), 0, 1, 2);
        dueRow("10 of 11", jumps(shrunk(11, 3, 10), 0), 1, 2);
        dueRow("10 of 9", jumps(shrunk(9, 3, 10), 0), 0, 1, 2);
        dueRow("6 of 10: 6 12>2 8 14>4 10>0", jumps(shrunk(10, 5, 6), 0), 1, 3, 4);
        dueRow("once in a PLACE", jumps(shrunk(1, 1, 3, 4, 0), 0), 0, 1);
        dueRow("40 of 1", jumps(shrunk(1, 1, 40, 20, 0, 1, 0), 0), 0, 1, 2, 3, 4, 5, 6, 7, 8, 9, 10, 11, 12, 13, 14, 15,
                16, 17, 18, 19);
        dueRow("a TITLE never", jumps(titled(shrunk(1, 1, 40, 1, 0)), 0), 0, 3);
        dueRow("2000, the most", jumps(shrunk(2000, 40, 40, 40, 40), 0), 69);
        dueRow("1600 of 2000", jumps(shrunk(2000, 40, 40), 0));
        dueRow("1600 of 1600", jumps(shrunk(1600, 40, 40), 0), 39);
        dueRow("1600 of 1601", jumps(shrunk(1601, 40, 40), 0));
    }

    private static FilmPrinter titled(FilmPrinter x) {
        law(x, "title 2 if shot=1");
        return x;
    }

    private static void jumpsTold() {
        sentence("The i-th PLACE at which it JUMPS (i NONE: how many). NONE.");
        FilmPrinter x = shrunk(10, 4, 10);
        law(x, "cut if land=7");
        due("how many", x.jump(0, NONE), 4);
        due("0", x.jump(0, 0), 0);
        due("3", x.jump(0, 3), 3);
        for (int off : new int[] {4, -2, 1000, MIN, MAX}) {
            due("i " + off, x.jump(0, off), NONE);
        }
        due("LAND 6", x.jump(6, NONE), 4);
        due("no PLACE", x.jump(7, NONE), 0);
        due("no PLACE", x.jump(7, 0), NONE);
        for (int off : new int[] {-1, 8, MIN, MAX}) {
            due("LAND " + off, x.jump(off, NONE), NONE);
            due("LAND " + off, x.jump(off, 0), NONE);
        }
        FilmPrinter y = new FilmPrinter();
        for (int n = 0; n < 16; n++) {
            y.shot(40, 0, 0, 0, 0, 40);
        }
        law(y, "title 20");
        y.terms(SLACK, 1);
        due("as many as can be", y.jump(0, NONE), 640);
        due("the last of them", y.jump(0, 639), 959);
        due("none behind it", y.jump(0, 640), NONE);
    }

    private static void strips() {
        sentence("the strip that bears FRAME f of the NEGATIVE bears the SOUND of FRAME f and AHEAD "
                + "(none beyond the end; TITLES bear none).");
        FilmPrinter x = lengths(1, 2);
        law(x, "title 3 if shot=1");
        // FRAMES 0 T T T 1 2
        x.terms(AHEAD, 0);
        dueRow("AHEAD 0", heard(x, 0), 0, NONE, NONE, NONE, 1, 1);
        x.terms(AHEAD, 1);
        dueRow("AHEAD 1", heard(x, 0), NONE, 1, NONE, NONE, NONE, 1);
        x.terms(AHEAD, 2);
        dueRow("AHEAD 2: the last FRAME", heard(x, 0), NONE, NONE, 1, NONE, NONE, NONE);
        x.terms(AHEAD, 3);
        dueRow("AHEAD 3: beyond the end", heard(x, 0), NONE, NONE, NONE, NONE, NONE, NONE);
        x.shot(1, 0, 0, 0, 0, 0);
        dueRow("AHEAD 3: a new end", heard(x, 0), NONE, NONE, NONE, 2, NONE, NONE, NONE);
        x.terms(AHEAD, 4);
        dueRow("AHEAD 4: beyond it", heard(x, 0), NONE, NONE, NONE, NONE, NONE, NONE, NONE);
        FilmPrinter y = lengths(2, 1, 2);
        law(y, "cut if shot=1 and land=0;cut if shot=2 and land=1");
        y.terms(AHEAD, 1);
        dueRow("a CUT one is HEARD", heard(y, 0), NONE, 0, 1, 2);
        dueRow("not the one behind the last", heard(y, 1), NONE, 0, 1);
        y.terms(AHEAD, 2);
        dueRow("a CUT one is HEARD", heard(y, 0), NONE, NONE, 1, 2);
    }

    private static void heardAhead() {
        sentence("HEARD at a PLACE is what the strip AHEAD PLACES ahead of it (a lower number) bears: its SHOT; "
                + "NONE without.");
        FilmPrinter x = lengths(21);
        due("AHEAD 20 at first: 19", x.heard(0, 19), NONE);
        due("AHEAD 20 at first: 20", x.heard(0, 20), 0);
        FilmPrinter y = lengths(40, 2);
        y.terms(AHEAD, 40);
        due("AHEAD 40: 39", y.heard(0, 39), NONE);
        due("AHEAD 40: 40", y.heard(0, 40), 1);
        due("AHEAD 40: 41", y.heard(0, 41), 1);
        due("AHEAD 40: 42", y.heard(0, 42), NONE);
        y.terms(AHEAD, 39);
        due("AHEAD 39: 38", y.heard(0, 38), NONE);
        due("AHEAD 39: 39", y.heard(0, 39), 0);
        due("AHEAD 39: 40", y.heard(0, 40), 1);
        FilmPrinter z = lengths(3, 2);
        z.terms(AHEAD, 2);
        dueRow("AHEAD 2", heard(z, 0), NONE, NONE, 0, 1, 1);
        z.terms(AHEAD, 0);
        dueRow("AHEAD 0", heard(z, 0), 0, 0, 0, 1, 1);
    }

    private static void heardPlaces() {
        sentence("The SHOT that is HEARD at a PLACE; NONE.");
        FilmPrinter x = lengths(2, 2);
        x.terms(AHEAD, 0);
        law(x, "cut if land=7");
        due("PLACE 0", x.heard(0, 0), 0);
        due("PLACE 3", x.heard(0, 3), 1);
        for (int off : new int[] {-1, 4, MIN, MAX}) {
            due("PLACE " + off, x.heard(0, off), NONE);
        }
        due("LAND 6", x.heard(6, 3), 1);
        for (int off : new int[] {-1, 7, 8, MIN, MAX}) {
            due("LAND " + off, x.heard(off, 0), NONE);
        }
        x.terms(AHEAD, 40);
        for (int off : new int[] {MIN, MIN + 39, MIN + 40, -40, -1, 40, MAX}) {
            due("PLACE " + off, x.heard(0, off), NONE);
        }
    }

    private static FilmPrinter sounds(int ahead, int... sounds) {
        FilmPrinter x = new FilmPrinter();
        for (int sound : sounds) {
            x.shot(1, 0, 0, 0, sound, 0);
        }
        x.terms(AHEAD, ahead);
        return x;
    }

    private static void joins() {
        sentence("A JOIN is a PLACE (not the first) in which another SHOT (or none) is HEARD "
                + "than in the one ahead of it");
        due("the first is none", sounds(0, 50).sound(0, 1), 0);
        due("another SHOT", sounds(0, 50, 60).sound(0, 1), 1);
        due("another SHOT with the same SOUND", sounds(0, 50, 50).sound(0, 1), 1);
        due("another SHOT behind none", sounds(1, 50, 50).sound(0, 1), 1);
        due("none behind none", sounds(2, 50, 50).sound(0, 1), 0);
        due("three", sounds(0, 50, 50, 50, 50).sound(0, 1), 3);
        FilmPrinter x = lengths(3, 2);
        x.terms(AHEAD, 0);
        due("the same SHOT is none", x.sound(0, 1), 1);
        law(x, "title 1 if shot=1");
        due("to none and back", x.sound(0, 1), 2);
        law(x, "title 1");
        due("none at first", x.sound(0, 1), 3);
        law(x, "cut");
        due("no PLACE", x.sound(0, 1), 0);
    }

    private static int loud(int loud, int ahead, int... sounds) {
        FilmPrinter x = sounds(ahead, sounds);
        x.terms(LOUD, loud);
        return x.sound(0, 2);
    }

    private static void loudJoins() {
        sentence("it is LOUD, if their SOUNDS (0 of none) are more than LOUD apart.");
        due("10 of 10", loud(10, 0, 50, 60), 0);
        due("11 of 10", loud(10, 0, 50, 61), 1);
        due("10 of 10 downwards", loud(10, 0, 60, 50), 0);
        due("11 of 10 downwards", loud(10, 0, 61, 50), 1);
        due("0 of 0", loud(0, 0, 50, 50), 0);
        due("1 of 0", loud(0, 0, 50, 51), 1);
        due("100 of 100", loud(100, 0, 0, 100), 0);
        due("100 of 99", loud(99, 0, 0, 100), 1);
        due("none and 10 of 10", loud(10, 1, 50, 10), 0);
        due("none and 11 of 10", loud(10, 1, 50, 11), 1);
        due("none and 0 of 0", loud(0, 1, 50, 0), 0);
        FilmPrinter x = sounds(0, 11, 11);
        law(x, "title 1 if shot=1");
        due("11 and none and 11 of 10", x.sound(0, 2), 2);
        x.terms(LOUD, 11);
        due("11 and none and 11 of 11", x.sound(0, 2), 0);
        due("the first PLACE is none", loud(0, 0, 99), 0);
    }

    private static void soundCounted() {
        sentence("How many PLACES in which another SHOT (or none) is HEARD than is there (what 0), JOINS (1), "
                + "LOUD ones (2). NONE.");
        FilmPrinter x = lengths(2, 2);
        law(x, "title 1 if land=1;title 1 if land=2 and shot=1;cut if land=7;cut if land=6 and shot=0");
        x.terms(AHEAD, 0);
        due("none is another", x.sound(0, 0), 0);
        due("TITLES, where none is HEARD", x.sound(1, 0), 2);
        x.terms(AHEAD, 1);
        due("none at first", x.sound(0, 0), 1);
        // there 0 0 1 1 1, FRAMES 0 1 T 2 3, HEARD - 0 1 - 1
        due("a TITLE, where its SHOT is HEARD", x.sound(2, 0), 2);
        x.terms(AHEAD, 2);
        // HEARD - - 1 1 -
        due("none at first and behind a TITLE", x.sound(2, 0), 3);
        x.terms(AHEAD, 4);
        due("none at all", x.sound(0, 0), 4);
        x.terms(AHEAD, 1);
        due("one CUT", x.sound(6, 0), 1);
        for (int what = 0; what <= 2; what++) {
            due("no PLACE", x.sound(7, what), 0);
        }
        for (int off : new int[] {-1, 3, MIN, MAX}) {
            due("what " + off, x.sound(0, off), NONE);
        }
        for (int off : new int[] {-1, 8, MIN, MAX}) {
            for (int what = 0; what <= 2; what++) {
                due("LAND " + off, x.sound(off, what), NONE);
            }
        }
    }
}

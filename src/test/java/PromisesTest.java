/** Each promise of the document by hand: ordinary inputs, the edges it names, wrong inputs. */
public final class PromisesTest extends Sentences {
    public static void main(String[] args) {
        newObject();
        shots();
        ofShots();
        termsOfAll();
        tapeFedAndEnded();
        lawsThatStand();
        faultsOfLaws();
        limitsOfLaws();
        asked();
        brokenSums();
        editions();
        failsOfNotches();
        printedByLights();
        seenRows();
        explained();
        explainedAlike();
        jumps();
        heardAhead();
        joinsOfSound();
        copiesTold();
        matchedFrames();
        matchedAlike();
        oneOfTwo();
        pairsOfStrips();
        cleared();
        imagesKept();
        counted();
        statusOfCalls();
        finish();
    }

    private static void accepted(String text, int clauses) {
        FilmPrinter x = new FilmPrinter();
        due("law of '" + text + "'", law(x, text), clauses);
        due("fault of '" + text + "'", x.fault(), NONE);
        due("clauses of '" + text + "'", x.count(2), clauses);
        due("status of '" + text + "'", x.status(), 0);
    }

    private static void faulty(String text, int place) {
        FilmPrinter x = new FilmPrinter();
        due("law of '" + text + "'", law(x, text), -6);
        due("fault of '" + text + "'", x.fault(), place);
        due("clauses of '" + text + "'", x.count(2), 0);
        due("status of '" + text + "'", x.status(), -6);
        due("tape behind '" + text + "'", x.count(6), 0);
    }

    private static void newObject() {
        FilmPrinter x = new FilmPrinter();
        for (int what = 0; what <= 6; what++) {
            due("1 count(" + what + ")", x.count(what), 0);
        }
        due("1 status", x.status(), 0);
        due("1 fault", x.fault(), NONE);
        due("1 edition", x.edition(0, 0), 0);
        due("1 kept", x.edition(7, 1), 0);
        due("1 one", x.one(0), 0);
        due("1 missing", x.one(2), 0);
        due("1 clear", x.clear(), 0);
        due("1 jumps", x.jump(0, NONE), 0);
        due("1 sound", x.sound(0, 0), 0);
        due("1 match", x.match(0, 0), 0);
        due("1 stray", x.match(1, 1), 0);
        due("1 brought", x.brought(2, 200), 200);
        due("1 none is fault", FilmPrinter.NONE, -1);
    }

    private static void shots() {
        int[] lows = {1, 0, -9, 0, 0, 0};
        int[] highs = {40, 255, 9, 7, 100, 40};
        FilmPrinter x = new FilmPrinter();
        due("2 all lowest", x.shot(1, 0, -9, 0, 0, 0), 0);
        due("2 all highest", x.shot(40, 255, 9, 7, 100, 40), 1);
        for (int k = 0; k < 6; k++) {
            for (int off : new int[] {lows[k] - 1, highs[k] + 1, MIN, MAX}) {
                int[] a = {5, 5, 5, 5, 5, 5};
                a[k] = off;
                due("2 wrong number " + k + " " + off, x.shot(a[0], a[1], a[2], a[3], a[4], a[5]), -1);
                due("2 status", x.status(), -1);
            }
        }
        due("2 none was added", x.count(0), 2);
        for (int n = 2; n < 16; n++) {
            due("2 next number", x.shot(40, 1, 1, 1, 1, 1), n);
        }
        due("2 no room", x.shot(1, 1, 1, 1, 1, 1), -5);
        due("2 status", x.status(), -5);
        due("2 a wrong number comes first", x.shot(0, 1, 1, 1, 1, 1), -1);
        due("2 frames", x.count(1), 1 + 15 * 40);
    }

    private static void ofShots() {
        FilmPrinter x = new FilmPrinter();
        x.shot(3, 10, -2, 1, 20, 30);
        x.shot(7, 11, 4, 2, 21, 31);
        x.shot(1, 12, 5, 3, 22, 32);
        int[] second = {7, 11, 4, 2, 21, 31, 3};
        for (int what = 0; what < 7; what++) {
            due("3 of(1, " + what + ")", x.of(1, what), second[what]);
        }
        due("3 first frame of the first", x.of(0, 6), 0);
        due("3 first frame of the third", x.of(2, 6), 10);
        due("3 no such shot", x.of(3, 0), -1000);
        due("3 shot below", x.of(-1, 0), -1000);
        due("3 what above", x.of(0, 7), -1000);
        due("3 what below", x.of(0, -1), -1000);
        due("3 far", x.of(MAX, MIN), -1000);
    }

    private static void termsOfAll() {
        int[] first = {4, 3, 5, 500, 20, 10, 10};
        int[] low = {0, 0, 1, 1, 0, 0, 0};
        int[] high = {20, 50, 100, 2000, 40, 200, 100};
        FilmPrinter x = new FilmPrinter();
        for (int what = 0; what < 7; what++) {
            due("4 below", x.terms(what, low[what] - 1), -1);
            due("4 status", x.status(), -1);
            due("4 above", x.terms(what, high[what] + 1), -1);
            due("4 at first", x.terms(what, low[what]), first[what]);
            due("4 status", x.status(), 0);
            due("4 lowest", x.terms(what, high[what]), low[what]);
            due("4 highest", x.terms(what, first[what]), high[what]);
        }
        due("4 no such", x.terms(7, 1), -1);
        due("4 no such", x.terms(-1, 1), -1);
        due("4 far", x.terms(MIN, MAX), -1);
    }

    private static void tapeFedAndEnded() {
        FilmPrinter x = new FilmPrinter();
        due("5 twenty", x.feed(0x01020304, 0x80FF7F00, 5, 6, -1), 20);
        due("5 forty", x.feed(1, 2, 3, 4, 5), 40);
        due("6 too many", x.end(41), NONE);
        due("6 below 0", x.end(-1), NONE);
        due("6 as it was", x.count(6), 40);
        due("6 first ones", x.end(20), 20);
        due("5 see", x.see(), 20);
        int[] greys = {1, 2, 3, 4, 128, 255, 127, 0, 0, 0, 0, 5, 0, 0, 0, 6, 255, 255, 255, 255};
        for (int k = 0; k < 20; k++) {
            due("5 byte " + k, x.seen(k), greys[k]);
        }
        for (int n = 1; n <= 20; n++) {
            due("5 fed", x.feed(0, 0, 0, 0, 0), 20 * n);
        }
        due("5 more than 400", x.feed(0, 0, 0, 0, 0), NONE);
        due("5 as it was", x.count(6), 400);
        due("6 all", x.end(400), 400);
        due("6 beyond", x.end(MAX), NONE);
        due("6 one less than room", x.end(381), 381);
        due("5 by one too many", x.feed(0, 0, 0, 0, 0), NONE);
        due("6 just room", x.end(380), 380);
        due("5 just room", x.feed(0, 0, 0, 0, 0), 400);
        due("6 none", x.end(0), 0);
        due("6 none again", x.end(0), 0);
        due("5 status is left alone", x.status(), 0);
    }

    private static void lawsThatStand() {
        accepted("cut", 1);
        accepted("light5", 1);
        accepted("light 5if land=1", 1);
        accepted("  title  [ grey + 1 ] * 2 ;cut if not(land=1 or land>3)and kind<2  ", 2);
        accepted("light 100000", 1);
        accepted("light 0000000000000000000000100000", 1);
        accepted("light grey+step-length*kind/sound+shot-land", 1);
        accepted("cut if not not not 1=1", 1);
        accepted("cut;cut;cut;cut;cut;cut;cut;cut;cut;cut;cut;cut", 12);
        FilmPrinter x = new FilmPrinter();
        due("7 two", law(x, "cut if land=1;light 3"), 2);
        due("7 the later one counts", law(x, "title 2"), 1);
        due("7 bad", law(x, "cut cut"), -6);
        due("8 fault", x.fault(), 4);
        due("7 the one before stays", x.count(2), 1);
        x.shot(1, 1, 1, 1, 1, 1);
        due("7 the one before stays", x.asks(0, 0, 1), 2);
        due("8 others leave it", x.fault(), 4);
        due("7 good again", law(x, "cut"), 1);
        due("8 without", x.fault(), NONE);
        due("7 empty", x.law(), -6);
        due("8 empty", x.fault(), 0);
    }

    private static void faultsOfLaws() {
        faulty("", 0);
        faulty("     ", 5);
        faulty("light", 5);
        faulty("light  ", 7);
        faulty("lights 5", 0);
        faulty("fight 5", 0);
        faulty("cutz", 0);
        faulty("acut", 0);
        faulty("cut`", 3);
        faulty("cut{", 3);
        faulty("light 5/", 8);
        faulty("light 5:", 7);
        faulty("light brey", 6);
        faulty("light gre", 6);
        faulty("light greys", 6);
        faulty("Light 5", 0);
        faulty("cutif 1=1", 0);
        faulty("cut;", 4);
        faulty("cut ; ", 6);
        faulty(";cut", 0);
        faulty("cut 5", 4);
        faulty("title 5 f", 8);
        faulty("light 5 6", 8);
        faulty("light -5", 6);
        faulty("light 5+", 8);
        faulty("light 5+*3", 8);
        faulty("light (5)", 6);
        faulty("light [5)", 8);
        faulty("light [5", 8);
        faulty("light []", 7);
        faulty("light shrink", 6);
        faulty("light frame", 6);
        faulty("light 100001", 6);
        faulty("light 99999999999999999999999", 6);
        faulty("cut if", 6);
        faulty("cut if grey", 11);
        faulty("cut if grey 5", 12);
        faulty("cut if grey < = 5", 14);
        faulty("cut if 1=1=1", 10);
        faulty("cut if (1=1", 11);
        faulty("cut if (1)=1", 9);
        faulty("cut if [1=1]", 9);
        faulty("cut if 1=1 and", 14);
        faulty("cut if 1=1 or or", 14);
        faulty("cut if not", 10);
        faulty("cut if not if", 11);
        faulty("cut if 1=1)", 10);
        faulty("cut if 1=1 if 1=1", 11);
        faulty("cut if 1=1,", 10);
        faulty("cut\t", 3);
        faulty("cut\0", 3);
        faulty("cut" + (char) 255, 3);
        faulty("light 5 if cut", 11);
        faulty("light 1.5", 7);
    }

    private static void limitsOfLaws() {
        faulty("cut;cut;cut;cut;cut;cut;cut;cut;cut;cut;cut;cut;cut", 48);
        faulty("cut;cut;cut;cut;cut;cut;cut;cut;cut;cut;cut;cut; 5", 49);
        faulty("cut;cut;cut;cut;cut;cut;cut;cut;cut;cut;cut;cut; ", 49);
        StringBuilder sum = new StringBuilder("light 1");
        for (int n = 1; n < 50; n++) {
            sum.append("+1");
        }
        accepted(sum.toString(), 1);
        faulty(sum + "+1", sum.length() + 1);
        faulty(sum + ";title land", sum.length() + 7);
        accepted(sum + ";cut", 2);
        accepted("light [[[[[[[[1]]]]]]]]", 1);
        faulty("light [[[[[[[[[1]]]]]]]]]", 14);
        accepted("cut if ((((((((1=1))))))))", 1);
        faulty("cut if (((((((((1=1)))))))))", 15);
        accepted("cut if (((([[[[1]]]]=1))))", 1);
        faulty("cut if (((([[[[[1]]]]]=1))))", 15);
        accepted("cut if ((((1=1)))) and [[[[[[[[1]]]]]]]]=1", 1);
        faulty("[".repeat(400), 0);
        faulty("light " + "[".repeat(394), 14);
        faulty("cut" + ";".repeat(397), 4);
        accepted("cut" + " ".repeat(397), 1);
        faulty("cut;" + " ".repeat(396), 400);
        faulty("a".repeat(400), 0);
        faulty("light " + "9".repeat(394), 6);
        accepted("light " + "0".repeat(394), 1);
        StringBuilder nots = new StringBuilder("cut if ");
        for (int n = 0; n < 97; n++) {
            nots.append("not ");
        }
        accepted(nots + "1=2", 1);
        FilmPrinter x = new FilmPrinter();
        x.shot(1, 1, 1, 1, 1, 1);
        law(x, nots + "1=2");
        due("7 an odd row of not", x.asks(0, 0, 2), 1);
    }

    private static int light(String sum) {
        FilmPrinter x = new FilmPrinter();
        x.shot(1, 1, 1, 1, 1, 1);
        x.shot(13, 17, -3, 5, 29, 37);
        due("9 law " + sum, law(x, "light " + sum) > 0 ? 1 : 0, 1);
        return x.asks(1, 6, 0);
    }

    private static int isCut(String test) {
        FilmPrinter x = new FilmPrinter();
        x.shot(13, 17, -3, 5, 29, 37);
        due("9 law " + test, law(x, "cut if " + test), 1);
        return x.asks(0, 6, 2);
    }

    private static void asked() {
        due("9 grey", light("grey"), 17);
        due("9 step", light("20+step"), 17);
        due("9 length", light("length"), 13);
        due("9 kind", light("kind"), 5);
        due("9 sound", light("sound"), 29);
        due("9 shot", light("10+shot"), 11);
        due("9 land", light("land"), 6);
        due("9 nearest above", light("41"), 40);
        due("9 nearest below", light("0"), 1);
        due("9 from the left", light("30-10-5"), 15);
        due("9 times ahead of and", light("2+3*4"), 14);
        due("9 brackets", light("[2+3]*4"), 20);
        due("9 cut towards 0", light("20+[0-7]/2"), 17);
        due("9 through from the left", light("100/5/2*3"), 30);
        due("9 less", isCut("grey<18"), 1);
        due("9 not less", isCut("grey<17"), 0);
        due("9 more", isCut("grey>16"), 1);
        due("9 not more", isCut("grey>17"), 0);
        due("9 like", isCut("grey=17"), 1);
        due("9 not", isCut("not grey=17"), 0);
        due("9 and binds ahead of or", isCut("1=1 or 1=1 and 1=2"), 1);
        due("9 brackets", isCut("(1=1 or 1=1) and 1=2"), 0);
        due("9 not binds the nearest", isCut("not 1=2 and 1=2"), 0);
        FilmPrinter x = new FilmPrinter();
        x.shot(1, 1, 1, 1, 1, 1);
        due("9 light without", x.asks(0, 0, 0), 20);
        due("9 title without", x.asks(0, 0, 1), 0);
        due("9 cut without", x.asks(0, 0, 2), 0);
        law(x, "light 5;light 7 if land=1;light 9 if land>1;title 21;title 0-1 if land=2");
        due("9 the last that holds", x.asks(0, 0, 0), 5);
        due("9 the last that holds", x.asks(0, 1, 0), 7);
        due("9 the last that holds", x.asks(0, 2, 0), 9);
        due("9 title nearest above", x.asks(0, 0, 1), 20);
        due("9 title nearest below", x.asks(0, 2, 1), 0);
        due("9 land above", x.asks(0, 8, 0), NONE);
        due("9 land below", x.asks(0, -1, 0), NONE);
        due("9 shot above", x.asks(1, 0, 0), NONE);
        due("9 shot below", x.asks(-1, 0, 0), NONE);
        due("9 what above", x.asks(0, 0, 3), NONE);
        due("9 what below", x.asks(0, 0, -1), NONE);
        law(x, "cut if land=3;cut if land=4;cut if land=9");
        due("9 any cut that holds", x.asks(0, 3, 2), 1);
        due("9 any cut that holds", x.asks(0, 5, 2), 0);
    }

    private static void brokenSums() {
        due("9 just not beyond", light("100000*10000/100000/1000+0*grey"), 10);
        due("9 beyond", light("100000*10000+1"), 20);
        due("9 beyond on the way", light("[100000*10000+1]-100000*10000"), 20);
        due("9 just not below", light("[0-100000*10000]/[0-100000]/1000"), 10);
        due("9 below", light("0-100000*10000-1"), 20);
        due("9 far beyond", light("100000*100000*100000*100000*100000/100000"), 20);
        due("9 through 0", light("5/0"), 20);
        due("9 through what is 0", light("5/[land-6]"), 20);
        due("9 broken test", isCut("1/0=1"), 0);
        due("9 not broken is broken", isCut("not 1/0=1"), 0);
        due("9 or asks not what can't matter", isCut("1=1 or 1/0=1"), 1);
        due("9 or asks what can", isCut("1=2 or 1/0=1"), 0);
        due("9 or is broken ahead", isCut("1/0=1 or 1=1"), 0);
        due("9 and asks not what can't matter", isCut("not (1=2 and 1/0=1)"), 1);
        due("9 and asks what can", isCut("not (1=1 and 1/0=1)"), 0);
        due("9 behind an and", isCut("1=2 and 1/0=1 or 1=1"), 1);
        due("9 behind an or", isCut("(1=1 or 1/0=1) and 1=1"), 1);
        due("9 long or", isCut("1=2 or 1=1 or 1/0=1"), 1);
        due("9 a broken test lets no light", light("30 if 1/0=1"), 20);
        due("9 the one before a broken one", light("31;light 1/0"), 31);
    }

    private static void editions() {
        FilmPrinter x = new FilmPrinter();
        x.shot(2, 10, 5, 0, 0, 0);
        x.shot(3, 20, 5, 1, 0, 0);
        x.shot(1, 30, 5, 2, 0, 0);
        law(x, "cut if kind=1 and land=1;title 2 if kind=2;cut if land=7");
        due("10 places", x.edition(0, 0), 8);
        due("10 kept", x.edition(0, 1), 3);
        due("10 places", x.edition(1, 0), 5);
        due("10 kept", x.edition(1, 1), 2);
        due("10 all cut", x.edition(7, 0), 0);
        due("10 all cut", x.edition(7, 1), 0);
        due("10 land above", x.edition(8, 0), NONE);
        due("10 land below", x.edition(-1, 0), NONE);
        due("10 what above", x.edition(0, 2), NONE);
        due("10 what below", x.edition(0, -1), NONE);
        int[] places = {0, 0, 2, 2, 2};
        int[] frames = {0, 1, NONE, NONE, 5};
        for (int p = 0; p < 5; p++) {
            due("11 shot at " + p, x.place(1, p, 0), places[p]);
            due("11 frame at " + p, x.place(1, p, 1), frames[p]);
        }
        due("11 beyond", x.place(1, 5, 0), NONE);
        due("11 below", x.place(1, -1, 0), NONE);
        due("11 far", x.place(1, MAX, 1), NONE);
        due("11 what", x.place(1, 0, 2), NONE);
        due("11 what", x.place(1, 0, -1), NONE);
        due("11 land", x.place(8, 0, 0), NONE);
        due("11 none there", x.place(7, 0, 0), NONE);
        FilmPrinter y = new FilmPrinter();
        for (int n = 0; n < 16; n++) {
            y.shot(40, 0, 0, 0, 0, 0);
        }
        law(y, "title 99");
        due("10 the longest", y.edition(3, 0), 960);
        due("11 its last", y.place(3, 959, 1), 639);
        due("11 beyond it", y.place(3, 960, 1), NONE);
        due("13 beyond it", y.printed(3, 960), NONE);
    }

    private static void failsOfNotches() {
        FilmPrinter x = new FilmPrinter();
        due("12 at first", x.fail(0, 2), 0);
        due("12 what it was", x.fail(0, 1), 2);
        due("12 what it was", x.fail(0, 0), 1);
        due("12 the last", x.fail(14, 2), 0);
        due("12 above", x.fail(15, 0), -1);
        due("12 status", x.status(), -1);
        due("12 below", x.fail(-1, 0), -1);
        due("12 how above", x.fail(0, 3), -1);
        due("12 how below", x.fail(0, -1), -1);
        due("12 as it was", x.fail(14, 0), 2);
        due("12 status", x.status(), 0);
    }

    private static void printedByLights() {
        FilmPrinter x = new FilmPrinter();
        for (int n = 0; n < 5; n++) {
            x.shot(2, 100, 3, n, 0, 0);
        }
        law(x, "light 20+shot;title 1 if shot=3;cut if land=2 and shot=0");
        int[] plain = {100, 103, 104, 107, 108, 111, 255, 112, 115, 116, 119};
        for (int p = 0; p < plain.length; p++) {
            due("13 place " + p, x.printed(0, p), plain[p]);
        }
        due("13 beyond", x.printed(0, 11), NONE);
        due("13 below", x.printed(0, -1), NONE);
        due("13 land", x.printed(8, 0), NONE);
        due("13 first kept is another", x.printed(2, 0), 104);
        x.fail(1, 1);
        int[] missed = {100, 103, 104, 107, 104, 107, 255, 108, 111, 112, 115};
        for (int p = 0; p < missed.length; p++) {
            due("13 missed, place " + p, x.printed(0, p), missed[p]);
        }
        x.fail(1, 2);
        int[] doubled = {100, 103, 104, 107, 112, 115, 255, 116, 119, 116, 119};
        for (int p = 0; p < doubled.length; p++) {
            due("13 doubled, never beyond the last, place " + p, x.printed(0, p), doubled[p]);
        }
        x.terms(0, 20);
        law(x, "light 40 if shot=0;light 1 if shot=1");
        due("13 nearest above", x.printed(0, 0), 255);
        due("13 nearest below", x.printed(0, 2), 0);
        x.terms(0, 0);
        due("13 no gain", x.printed(0, 1), 103);
        FilmPrinter y = new FilmPrinter();
        y.shot(40, 250, 9, 0, 0, 0);
        y.shot(40, 5, -9, 0, 0, 0);
        due("13 frames, nearest above", y.printed(0, 1), 255);
        due("13 frames, nearest below", y.printed(0, 41), 0);
        law(y, "light 19");
        due("13 gain upon the nearest", y.printed(0, 39), 251);
    }

    private static void seenRows() {
        FilmPrinter x = new FilmPrinter();
        due("14 empty", x.see(), -6);
        due("14 status", x.status(), -6);
        tape(x, 0, 255, 7);
        due("14 three", x.see(), 3);
        due("14 the tape is empty", x.count(6), 0);
        tape(x, 9);
        due("14 behind", x.see(), 4);
        due("15 first", x.seen(0), 0);
        due("15 second", x.seen(1), 255);
        due("15 fourth", x.seen(3), 9);
        due("15 beyond", x.seen(4), NONE);
        due("15 below", x.seen(-1), NONE);
        due("15 far", x.seen(MIN), NONE);
        tape(x, new int[400]);
        due("14 more", x.see(), 404);
        tape(x, new int[397]);
        due("14 no room", x.see(), -5);
        due("14 status", x.status(), -5);
        due("14 as it was", x.count(3), 404);
        due("14 refused: the tape is empty", x.count(6), 0);
        due("14 nothing is left of it", x.see(), -6);
        tape(x, new int[396]);
        due("14 full", x.see(), 800);
        due("15 last", x.seen(799), 0);
        due("14 empty when full", x.see(), -6);
        tape(x, 1);
        due("14 one too many", x.see(), -5);
        due("14 refused: no text is left", x.law(), -6);
        due("14 refused: no text is left", x.fault(), 0);
    }

    private static FilmPrinter fourLights() {
        FilmPrinter x = new FilmPrinter();
        for (int n = 0; n < 4; n++) {
            x.shot(3, 100, 0, n, 0, 0);
        }
        law(x, "light 20+5*shot;cut if land=7");
        return x;
    }

    private static void explained() {
        FilmPrinter x = fourLights();
        due("16 nothing seen", x.explain(0, 0), NONE);
        due("17 nothing seen", x.failed(0, 0), NONE);
        tape(x, 100, 100, 100, 100, 100, 100, 120, 120, 120, 140, 140, 140);
        x.see();
        due("16 a miss", x.explain(0, 0), 5);
        due("16 a miss", x.explain(0, 1), 1);
        due("16 a miss", x.explain(0, 2), 0);
        due("17 missed", x.failed(0, 0), 1);
        due("17 no fail", x.failed(0, 1), 0);
        due("17 no fail", x.failed(0, 2), 0);
        due("17 no such notch", x.failed(0, 3), NONE);
        due("17 below", x.failed(0, -1), NONE);
        due("17 far", x.failed(0, MAX), NONE);
        due("17 land", x.failed(8, 0), NONE);
        due("16 land", x.explain(8, 0), NONE);
        due("16 land", x.explain(-1, 0), NONE);
        due("16 what", x.explain(0, 3), NONE);
        due("16 what", x.explain(0, -1), NONE);
        due("16 no place", x.explain(7, 0), NONE);
        due("17 no place", x.failed(7, 0), NONE);
        x.fail(0, 2);
        due("16 FAILS that are set do not matter", x.explain(0, 0), 5);
        x.terms(2, 100);
        due("16 faulty is dear: all apart", x.explain(0, 0), 9);
        due("16 none fails", x.explain(0, 1), 0);
        due("16 nine apart", x.explain(0, 2), 9);
        due("17 none fails", x.failed(0, 0), 0);
        x.terms(1, 19);
        due("16 one below", x.explain(0, 2), 9);
        x.terms(1, 20);
        due("16 just within", x.explain(0, 2), 0);
        x.clear();
        x.terms(1, 3);
        x.terms(2, 2);
        tape(x, 100, 100, 100, 120, 120, 120, 160, 160, 160, 160, 160, 160);
        x.see();
        due("16 doubled", x.explain(0, 0), 2);
        due("17 doubled", x.failed(0, 0), 0);
        due("17 doubled", x.failed(0, 1), 2);
        due("17 behind", x.failed(0, 2), 0);
        x.clear();
        tape(x, 100, 100, 100, 120, 124);
        x.see();
        due("16 only what is seen costs", x.explain(0, 0), 1);
        due("16 only what is seen costs", x.explain(0, 2), 1);
        tape(x, 120, 140, 140, 140, 160, 160, 160, 0, 0, 0);
        x.see();
        due("16 only places cost", x.explain(0, 0), 1);
    }

    private static void explainedAlike() {
        FilmPrinter x = fourLights();
        x.terms(2, 3);
        tape(x, 100, 100, 100, 100, 100, 100);
        x.see();
        due("16 alike: cost", x.explain(0, 0), 3);
        due("16 alike: the fewest fails", x.explain(0, 1), 0);
        due("16 alike: apart", x.explain(0, 2), 3);
        x.clear();
        x.terms(2, 1);
        tape(x, 100, 100, 100, 100, 100, 100, 100, 100, 100, 160, 160, 160);
        x.see();
        // 1 1 0 prints 100 100 100 120, 1 0 2 prints 100 100 120 160: both cost 2 fails and 3 apart
        due("16 two ways: cost", x.explain(0, 0), 5);
        due("16 two ways: fails", x.explain(0, 1), 2);
        due("16 two ways: apart", x.explain(0, 2), 3);
        due("17 missed", x.failed(0, 0), 1);
        due("17 the first as rows", x.failed(0, 1), 0);
        due("17 doubled", x.failed(0, 2), 2);
        FilmPrinter y = new FilmPrinter();
        for (int n = 0; n < 4; n++) {
            y.shot(1, 100, 0, n, 0, 0);
        }
        law(y, "light 20;light 30 if shot=3");
        y.terms(2, 1);
        tape(y, 100, 100, 100, 100);
        y.see();
        due("16 alike with one fail and none", y.explain(0, 1), 0);
        due("16 alike with one fail and none", y.explain(0, 0), 1);
        FilmPrinter z = new FilmPrinter();
        for (int n = 0; n < 4; n++) {
            z.shot(4, 100, 0, n, 0, 0);
        }
        law(z, "light 20;light 30 if shot=3");
        z.terms(2, 1);
        tape(z, 100, 100, 100, 100, 100, 100, 100, 100, 100, 100, 100, 100, 100, 100, 100, 100);
        z.see();
        due("16 some one missed", z.explain(0, 0), 1);
        due("17 the first as rows: the last of them", z.failed(0, 0), 0);
        due("17 the first as rows: the last of them", z.failed(0, 1), 0);
        due("17 the first as rows: the last of them", z.failed(0, 2), 1);
        FilmPrinter one = new FilmPrinter();
        one.shot(2, 50, 0, 0, 0, 0);
        tape(one, 50, 60);
        one.see();
        due("16 no notch", one.explain(0, 0), 1);
        due("16 no notch", one.explain(0, 1), 0);
        due("17 no notch", one.failed(0, 0), NONE);
    }

    private static void jumps() {
        FilmPrinter x = new FilmPrinter();
        x.shot(5, 0, 0, 0, 0, 30);
        x.shot(4, 0, 0, 1, 0, 40);
        x.terms(3, 100);
        // slips: 30 60 90 120>20 50 | 25: 65 105>5 45 85
        due("18 how many", x.jump(0, NONE), 2);
        due("18 first", x.jump(0, 0), 3);
        due("18 half and on", x.jump(0, 1), 6);
        due("18 beyond", x.jump(0, 2), NONE);
        due("18 below", x.jump(0, -2), NONE);
        due("18 far", x.jump(0, MAX), NONE);
        due("18 land", x.jump(8, NONE), NONE);
        due("18 land", x.jump(-1, 0), NONE);
        law(x, "title 2 if shot=1;title 1 if shot=0");
        due("18 titles grow none", x.jump(0, NONE), 2);
        due("18 but are places", x.jump(0, 0), 4);
        due("18 but are places", x.jump(0, 1), 9);
        x.terms(3, 1);
        due("18 once in a place", x.jump(0, NONE), 9);
        due("18 once in a place", x.jump(0, 8), 11);
        FilmPrinter y = new FilmPrinter();
        y.shot(3, 0, 0, 0, 0, 5);
        y.shot(1, 0, 0, 0, 0, 1);
        y.shot(1, 0, 0, 0, 0, 0);
        y.terms(3, 8);
        // 5, 10>2, 7 | 3 cut: 4 | 2
        due("18 half is cut", y.jump(0, NONE), 1);
        y.terms(3, 4);
        // 5>1, 6>2, 7>3 | 1: 2 | 1
        due("18 at slack itself", y.jump(0, NONE), 3);
        y.terms(3, 3);
        // 5>2, 7>4, 9>6 | 3: 4>1 | 0
        due("18 just reached", y.jump(0, NONE), 4);
        law(y, "cut if shot=1");
        // .. 6 | 3: 3 reached
        due("18 over a cut", y.jump(0, NONE), 4);
        due("18 over a cut", y.jump(0, 3), 3);
    }

    private static void heardAhead() {
        FilmPrinter x = new FilmPrinter();
        x.shot(4, 0, 0, 0, 10, 0);
        x.shot(3, 0, 0, 1, 20, 0);
        x.shot(2, 0, 0, 2, 31, 0);
        law(x, "cut if land=1 and shot=1;title 1 if land=2 and shot=1");
        due("19 first ahead is 20", x.heard(0, 8), NONE);
        x.terms(4, 2);
        int[] all = {NONE, NONE, 0, 0, 1, 1, 1, 2, 2};
        for (int p = 0; p < all.length; p++) {
            due("19 place " + p, x.heard(0, p), all[p]);
        }
        // frames 0 1 2 3 7 8: strips bear 2>0 3>0 4>1 5>1 9>none 10>none
        int[] over = {NONE, NONE, 0, 0, 1, 1};
        for (int p = 0; p < over.length; p++) {
            due("19 over a cut " + p, x.heard(1, p), over[p]);
        }
        // frames 0 1 2 3 T 4 5 6 7 8
        int[] titled = {NONE, NONE, 0, 0, 1, 1, NONE, 1, 2, 2};
        for (int p = 0; p < titled.length; p++) {
            due("19 with a title " + p, x.heard(2, p), titled[p]);
        }
        due("19 beyond", x.heard(0, 9), NONE);
        due("19 below", x.heard(0, -1), NONE);
        due("19 land", x.heard(8, 0), NONE);
        x.terms(4, 0);
        due("19 none ahead", x.heard(1, 4), 2);
        due("19 none ahead: a title", x.heard(2, 4), NONE);
        x.terms(4, 1);
        // land 1: frames 0 1 2 3 7 8: at 5 the strip of 7 bears 8
        due("19 within the end", x.heard(1, 5), 2);
        due("19 at a cut", x.heard(1, 4), 1);
    }

    private static void joinsOfSound() {
        FilmPrinter x = new FilmPrinter();
        x.shot(4, 0, 0, 0, 10, 0);
        x.shot(3, 0, 0, 1, 20, 0);
        x.shot(2, 0, 0, 2, 31, 0);
        law(x, "cut if land=1 and shot=1;title 1 if land=2 and shot=1;cut if land=7");
        x.terms(4, 2);
        due("20 other than there", x.sound(0, 0), 2);
        due("20 joins", x.sound(0, 1), 3);
        due("20 loud", x.sound(0, 2), 1);
        x.terms(6, 9);
        due("20 loud", x.sound(0, 2), 3);
        x.terms(6, 11);
        due("20 just not loud", x.sound(0, 2), 0);
        x.terms(6, 10);
        // heard - - 0 0 1 1, there 0 0 0 0 2 2
        due("20 over a cut", x.sound(1, 0), 4);
        due("20 over a cut", x.sound(1, 1), 2);
        due("20 over a cut", x.sound(1, 2), 0);
        // heard - - 0 0 1 1 - 1 2 2, there 0 0 0 0 1 1 1 1 2 2
        due("20 a title's place is its shot's", x.sound(2, 0), 3);
        due("20 joins to none and back", x.sound(2, 1), 5);
        due("20 loud to none and back", x.sound(2, 2), 3);
        due("20 no place", x.sound(7, 0), 0);
        due("20 no place", x.sound(7, 1), 0);
        due("20 land", x.sound(8, 0), NONE);
        due("20 what", x.sound(0, 3), NONE);
        due("20 what", x.sound(0, -1), NONE);
    }

    private static void copiesTold() {
        FilmPrinter x = new FilmPrinter();
        due("21 no such", x.copy(2), -1);
        due("21 no such", x.copy(-1), -1);
        due("21 empty", x.copy(0), -6);
        due("21 status", x.status(), -6);
        tape(x, 1, 2, 3);
        due("21 no such, with a row", x.copy(2), -1);
        due("21 refused: the tape is empty", x.count(6), 0);
        tape(x, 1, 2, 3);
        due("21 no such, with a row", x.copy(MIN), -1);
        due("21 refused: the tape is empty", x.count(6), 0);
        due("21 nothing is left of it", x.copy(0), -6);
        tape(x, 1, 2, 3);
        due("21 one alone is none", x.copy(0), 1);
        due("21 the tape is empty", x.count(6), 0);
        tape(x, 9);
        due("21 one alone", x.copy(0), 1);
        due("21 the tape is empty", x.count(6), 0);
        due("21 the other", x.copy(1), -6);
        for (int n = 1; n <= 3; n++) {
            tape(x, new int[400]);
            due("21 more", x.copy(1), 200 * n);
        }
        tape(x, new int[82]);
        due("21 no room", x.copy(1), -5);
        due("21 status", x.status(), -5);
        due("21 as it was", x.count(5), 600);
        due("21 refused: the tape is empty", x.count(6), 0);
        tape(x, new int[81]);
        due("21 full", x.copy(1), 640);
        tape(x, 5);
        due("21 one byte has room always", x.copy(1), 640);
        tape(x, 5, 5);
        due("21 one too many", x.copy(1), -5);
        due("21 empty when full", x.copy(1), -6);
    }

    private static void matchedFrames() {
        FilmPrinter x = new FilmPrinter();
        x.shot(5, 100, 9, 0, 0, 0);
        tape(x, 100, 0, 118, 0, 50, 0, 139, 0, 121, 0);
        x.copy(0);
        // frames 100 109 118 127 136
        due("22 matched", x.match(0, 0), 3);
        due("22 stray", x.match(0, 1), 2);
        int[] frames = {0, 2, NONE, 4, NONE};
        for (int k = 0; k < frames.length; k++) {
            due("23 frame " + k, x.matched(0, k), frames[k]);
        }
        due("23 beyond", x.matched(0, 5), NONE);
        due("23 below", x.matched(0, -1), NONE);
        due("23 copy", x.matched(2, 0), NONE);
        due("23 the other", x.matched(1, 0), NONE);
        due("22 copy", x.match(2, 0), NONE);
        due("22 copy", x.match(-1, 0), NONE);
        due("22 what", x.match(0, 2), NONE);
        due("22 what", x.match(0, -1), NONE);
        x.terms(1, 2);
        due("22 just not within", x.match(0, 0), 2);
        x.terms(1, 3);
        due("22 again within", x.match(0, 0), 3);
        x.shot(1, 122, 0, 0, 0, 0);
        due("22 a new frame", x.match(0, 0), 4);
        due("23 a new frame", x.matched(0, 4), 5);
        law(x, "cut");
        due("22 the negative knows no law", x.match(0, 0), 4);
    }

    private static void matchedAlike() {
        FilmPrinter x = new FilmPrinter();
        x.terms(1, 0);
        for (int grey : new int[] {1, 2, 1, 3}) {
            x.shot(1, grey, 0, 0, 0, 0);
        }
        tape(x, 2, 0, 1, 0, 2, 0);
        x.copy(0);
        // as many as two: 2 and 1; the second 2 is stray
        due("23 first matched", x.matched(0, 0), 1);
        due("23 then", x.matched(0, 1), 2);
        due("23 stray", x.matched(0, 2), NONE);
        tape(x, 3, 0, 1, 0, 2, 0);
        x.copy(1);
        // two by 1 and 2 alone: the first one is stray, though it could be one
        due("22 as many as can be", x.match(1, 0), 2);
        due("23 stray for more", x.matched(1, 0), NONE);
        due("23 the lower frame", x.matched(1, 1), 0);
        due("23 and on", x.matched(1, 2), 1);
        FilmPrinter y = new FilmPrinter();
        y.terms(1, 0);
        for (int grey : new int[] {5, 6, 5, 6}) {
            y.shot(1, grey, 0, 0, 0, 0);
        }
        tape(y, 6, 0, 5, 0);
        y.copy(0);
        due("23 one order alone", y.matched(0, 0), 1);
        due("23 one order alone", y.matched(0, 1), 2);
        tape(y, 5, 0, 5, 0, 5, 0, 6, 0);
        y.copy(1);
        due("22 three", y.match(1, 0), 3);
        due("23 the first ones rather", y.matched(1, 0), 0);
        due("23 the first ones rather", y.matched(1, 1), 2);
        due("23 the first ones rather", y.matched(1, 2), NONE);
        due("23 the last", y.matched(1, 3), 3);
    }

    private static void oneOfTwo() {
        FilmPrinter x = new FilmPrinter();
        for (int n = 0; n < 8; n++) {
            x.shot(1, 10 * n, 0, 0, 0, 0);
        }
        due("24 all missing", x.one(2), 8);
        due("24 all missing", x.one(3), 8);
        due("25 missing", x.from(0), NONE);
        tape(x, 0, 5, 10, 0, 30, 20, 50, 7, 60, 0);
        x.copy(0);
        tape(x, 0, 3, 10, 4, 30, 1, 60, 2);
        x.copy(1);
        // both have 0, 1, 3, 6; only COPY 0 has 5. All of 0: 5+0+20+7+0 = 32.
        // COPY 1 for 0, 1, 3: 3+4+1, then a seam to 0: 10+7+0 = 25. COPY 1 at 3 alone: 5+0+10+1+10+7+0 = 33.
        due("24 cost", x.one(0), 25);
        due("24 seams", x.one(1), 1);
        due("24 missing", x.one(2), 3);
        due("24 longest row", x.one(3), 1);
        due("24 older", x.one(4), 2);
        int[] from = {1, 1, NONE, 1, NONE, 0, 0, NONE};
        for (int f = 0; f < 8; f++) {
            due("25 frame " + f, x.from(f), from[f]);
        }
        due("25 beyond", x.from(8), NONE);
        due("25 below", x.from(-1), NONE);
        due("24 what", x.one(5), NONE);
        due("24 what", x.one(-1), NONE);
        x.terms(5, 17);
        // 8 + 17 + 7 = 32: alike with COPY 0 alone, which is the first as rows
        due("24 alike", x.one(0), 32);
        due("24 alike, the first as rows", x.one(1), 0);
        due("25 alike", x.from(0), 0);
        x.terms(5, 0);
        due("24 seams for nothing", x.one(0), 3 + 0 + 1 + 7 + 0);
        due("24 seams for nothing", x.one(1), 3);
        due("25 seams for nothing", x.from(1), 0);
        FilmPrinter y = new FilmPrinter();
        for (int n = 0; n < 3; n++) {
            y.shot(1, 10 * n, 0, 0, 0, 0);
        }
        tape(y, 0, 5, 10, 5, 20, 5);
        y.copy(0);
        y.end(0);
        tape(y, 0, 5, 10, 5, 20, 5);
        y.copy(1);
        y.terms(5, 0);
        due("25 alike everywhere", y.from(0) + y.from(1) + y.from(2), 0);
        due("24 older", y.one(4), 3);
        y.clear();
        tape(y, 0, 0, 20, 0);
        y.copy(1);
        due("24 missing in the midst", y.one(2), 1);
        due("25 from the other alone", y.from(2), 1);
        due("24 a first one is no seam", y.one(1), 0);
        FilmPrinter z = new FilmPrinter();
        for (int n = 0; n < 3; n++) {
            z.shot(1, 10 * n, 0, 0, 0, 0);
        }
        tape(z, 0, 0);
        z.copy(0);
        tape(z, 20, 0);
        z.copy(1);
        due("24 a seam over a gap", z.one(1), 1);
        FilmPrinter w = new FilmPrinter();
        w.shot(1, 10, 0, 0, 0, 0);
        tape(w, 10, 5);
        w.copy(0);
        tape(w, 10, 4);
        w.copy(1);
        due("24 one scratch less", w.one(0), 4);
        due("25 one scratch less", w.from(0), 1);
        due("24 a seam over a gap", z.one(0), 10);
    }

    private static void pairsOfStrips() {
        FilmPrinter x = new FilmPrinter();
        due("26 strip", x.pair(3, 0, 0), -1);
        due("26 strip", x.pair(-1, 0, 0), -1);
        due("26 seen", x.pair(0, 256, 0), -1);
        due("26 seen", x.pair(0, -1, 0), -1);
        due("26 right", x.pair(0, 0, 256), -1);
        due("26 right", x.pair(0, 0, -1), -1);
        due("26 status", x.status(), -1);
        due("27 without pairs", x.brought(0, 255), 255);
        due("26 one", x.pair(0, 100, 50), 1);
        due("26 two", x.pair(0, 110, 20), 2);
        due("27 in a pair", x.brought(0, 110), 20);
        due("27 downwards, cut towards 0", x.brought(0, 101), 47);
        x.pair(0, 107, 45);
        due("27 cut towards 0", x.brought(0, 101), 50);
        due("27 cut towards 0", x.brought(0, 106), 46);
        due("27 between the next ones", x.brought(0, 108), 37);
        due("27 below all", x.brought(0, 60), 10);
        due("27 below all, nearest", x.brought(0, 10), 0);
        due("27 above all", x.brought(0, 130), 40);
        x.pair(0, 110, 240);
        due("27 the later one counts", x.brought(0, 110), 240);
        due("27 above all, nearest", x.brought(0, 126), 255);
        due("27 strip", x.brought(3, 0), NONE);
        due("27 strip", x.brought(-1, 0), NONE);
        due("27 seen", x.brought(0, 256), NONE);
        due("27 seen", x.brought(0, -1), NONE);
        for (int n = 1; n <= 20; n++) {
            due("26 next", x.pair(1, n * 10, n), n);
        }
        due("26 no room", x.pair(1, 5, 5), -5);
        due("26 status", x.status(), -5);
        due("26 none was added", x.brought(1, 5), 0);
        due("26 told again has room", x.pair(1, 200, 99), 20);
        due("26 another strip has room", x.pair(2, 5, 5), 1);
        due("27 others are left", x.brought(2, 6), 6);
    }

    private static void cleared() {
        FilmPrinter x = new FilmPrinter();
        x.shot(2, 10, 0, 0, 0, 0);
        law(x, "light 21");
        tape(x, 10, 10, 10);
        x.see();
        tape(x, 10, 1, 10, 1);
        x.copy(0);
        tape(x, 10, 1);
        x.copy(1);
        x.fail(3, 2);
        x.pair(0, 1, 9);
        x.terms(0, 7);
        x.shot(0, 0, 0, 0, 0, 0);
        tape(x, 1, 2, 3);
        due("24 both", x.one(2), 0);
        due("28 how many", x.clear(), 6);
        due("28 again", x.clear(), 0);
        due("28 seen", x.count(3), 0);
        due("28 seen", x.seen(0), NONE);
        due("28 copies", x.count(4) + x.count(5), 0);
        due("28 matched", x.matched(0, 0), NONE);
        due("28 one", x.one(2), 2);
        due("28 the tape stays", x.count(6), 3);
        due("28 the status stays", x.status(), -1);
        due("28 the law stays", x.asks(0, 0, 0), 21);
        due("28 pairs stay", x.brought(0, 1), 9);
        due("28 terms stay", x.terms(0, 7), 7);
        due("28 fails", x.fail(3, 0), 0);
    }

    private static void imagesKept() {
        FilmPrinter x = new FilmPrinter();
        due("29 no such", x.image(2), -1);
        due("29 no such", x.image(-1), -1);
        due("30 no such", x.back(2), -1);
        due("30 no such", x.back(-1), -1);
        due("30 not kept", x.back(0), -2);
        due("30 status", x.status(), -2);
        x.shot(2, 10, 0, 0, 0, 0);
        law(x, "light 25");
        x.fail(1, 2);
        x.terms(1, 0);
        x.pair(2, 3, 4);
        tape(x, 10, 10, 10);
        x.see();
        tape(x, 10, 1, 10, 1);
        x.copy(0);
        due("29 kept", x.image(1), 0);
        due("30 the other is not", x.back(0), -2);
        x.shot(3, 50, 0, 0, 0, 0);
        law(x, "light 30;title 1");
        x.fail(1, 1);
        x.terms(1, 9);
        x.pair(2, 3, 200);
        x.pair(2, 4, 200);
        x.clear();
        tape(x, 50, 7);
        x.copy(0);
        due("23 ahead of back", x.matched(0, 0), 2);
        due("7 bad", law(x, "cut x"), -6);
        tape(x, 1, 2);
        due("30 back", x.back(1), 0);
        due("30 status", x.status(), 0);
        due("30 fault stays", x.fault(), 4);
        due("30 tape stays", x.count(6), 2);
        due("30 shots", x.count(0), 1);
        due("30 frames", x.count(1), 2);
        due("30 law", x.asks(0, 0, 0), 25);
        due("30 law", x.count(2), 1);
        due("30 seen", x.count(3), 3);
        due("30 copy", x.count(4), 2);
        due("30 matching", x.match(0, 0), 2);
        due("30 one", x.one(0), 2);
        due("30 pairs", x.brought(2, 3), 4);
        due("30 pairs", x.pair(2, 9, 9), 2);
        due("30 terms", x.terms(1, 5), 0);
        due("30 fails", x.fail(1, 0), 2);
        due("30 again, the image stays", x.back(1), 0);
        due("30 again", x.terms(1, 5), 0);
        due("30 again", x.fail(1, 0), 2);
        due("29 anew", x.image(1), 0);
        x.terms(1, 6);
        x.back(1);
        due("30 the later image", x.terms(1, 0), 5);
        due("29 the other", x.image(0), 0);
        x.back(1);
        due("30 images are apart", x.terms(1, 1), 5);
        x.back(0);
        due("30 images are apart", x.terms(1, 1), 0);
        otherShotsInTheirPlace();
    }

    private static void otherShotsInTheirPlace() {
        FilmPrinter x = new FilmPrinter();
        x.image(0);
        x.shot(3, 50, 1, 2, 60, 7);
        x.shot(1, 90, 0, 0, 0, 0);
        tape(x, 50, 1, 51, 2);
        x.copy(1);
        x.pair(1, 7, 8);
        x.image(1);
        x.back(0);
        due("30 none", x.count(0) + x.count(1) + x.count(5), 0);
        due("30 no pair", x.brought(1, 7), 7);
        x.shot(2, 200, -1, 3, 10, 0);
        x.shot(9, 200, -1, 3, 10, 0);
        tape(x, 200, 9);
        x.copy(1);
        due("23 the other shots", x.matched(1, 0), 0);
        x.back(1);
        due("30 grey", x.printed(0, 2), 52);
        due("30 length", x.of(0, 0), 3);
        due("30 sound", x.of(0, 4), 60);
        due("30 first frame", x.of(1, 6), 3);
        due("30 shot of a frame", x.place(0, 3, 0), 1);
        x.terms(4, 0);
        due("30 shot that is heard", x.heard(0, 2), 0);
        due("30 copy", x.matched(1, 1), 1);
        due("30 scratches", x.one(0), 3);
        due("30 pair", x.brought(1, 7), 8);
    }

    private static void counted() {
        FilmPrinter x = new FilmPrinter();
        x.shot(3, 1, 1, 1, 1, 1);
        x.shot(4, 1, 1, 1, 1, 1);
        law(x, "cut;cut;cut");
        tape(x, 1, 2, 3, 4);
        x.see();
        tape(x, 1, 2, 3, 4);
        x.copy(0);
        tape(x, 1, 2);
        x.copy(1);
        tape(x, 1, 2, 3, 4, 5, 6);
        int[] counts = {2, 7, 3, 4, 2, 1, 6};
        for (int what = 0; what < counts.length; what++) {
            due("31 count(" + what + ")", x.count(what), counts[what]);
        }
        due("31 others", x.count(7), NONE);
        due("31 others", x.count(-1), NONE);
        due("31 others", x.count(MAX), NONE);
        due("31 others", x.count(MIN), NONE);
    }

    private static void statusOfCalls() {
        FilmPrinter x = new FilmPrinter();
        x.shot(0, 0, 0, 0, 0, 0);
        due("32 shot", x.status(), -1);
        x.of(5, 5);
        x.feed(0, 0, 0, 0, 0);
        x.end(77);
        x.end(0);
        x.asks(9, 9, 9);
        x.edition(9, 9);
        x.place(9, 9, 9);
        x.printed(9, 9);
        x.seen(9);
        x.explain(9, 9);
        x.failed(9, 9);
        x.jump(9, 9);
        x.heard(9, 9);
        x.sound(9, 9);
        x.match(9, 9);
        x.matched(9, 9);
        x.one(9);
        x.from(9);
        x.brought(9, 9);
        x.clear();
        x.count(0);
        x.fault();
        due("32 others leave it", x.status(), -1);
        due("32 again", x.status(), -1);
        x.terms(0, 1);
        due("32 terms", x.status(), 0);
        x.see();
        due("32 see", x.status(), -6);
        x.fail(0, 0);
        due("32 fail", x.status(), 0);
        x.copy(1);
        due("32 copy", x.status(), -6);
        x.pair(0, 0, 0);
        due("32 pair", x.status(), 0);
        x.law();
        due("32 law", x.status(), -6);
        x.image(0);
        due("32 image", x.status(), 0);
        x.back(1);
        due("32 back", x.status(), -2);
        x.back(0);
        due("32 back", x.status(), 0);
        x.image(7);
        due("32 image", x.status(), -1);
        x.shot(1, 0, 0, 0, 0, 0);
        due("32 shot", x.status(), 0);
    }
}

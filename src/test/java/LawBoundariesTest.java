/** The boundaries that the document names for the TAPE and the LAW: Terms II, promises 5 to 9. */
public final class LawBoundariesTest extends Sentences {
    private static final String ELEVEN = "cut;cut;cut;cut;cut;cut;cut;cut;cut;cut;cut";

    public static void main(String[] args) {
        fed();
        tapeIsFull();
        ended();
        noLawAtFirst();
        longestText();
        lettersAndDigits();
        blanks();
        clauses();
        clauseAndHead();
        tests();
        sums();
        words();
        misspeltHeadsAndJoints();
        numbers();
        parts();
        brackets();
        faultAtTheEnd();
        lawTakesTheTape();
        refusedLaws();
        faultOfTheLatest();
        landsAndShots();
        beyond();
        dividedByNothing();
        cutTowardsNothing();
        holding();
        askedOnlyIfItMatters();
        lights();
        titles();
        cuts();
        askedOf();
        finish();
    }

    private static void stands(String text, int clauses) {
        FilmPrinter x = new FilmPrinter();
        due("law of '" + text + "'", law(x, text), clauses);
        due("fault of '" + text + "'", x.fault(), NONE);
        due("CLAUSES of '" + text + "'", x.count(2), clauses);
    }

    private static void faults(String text, int place) {
        FilmPrinter x = new FilmPrinter();
        due("law of '" + text + "'", law(x, text), -6);
        due("fault of '" + text + "'", x.fault(), place);
        due("CLAUSES of '" + text + "'", x.count(2), 0);
    }

    /** A film of two SHOTS; the second one is asked in LAND 6. */
    private static FilmPrinter asked(String text) {
        FilmPrinter x = new FilmPrinter();
        x.shot(1, 1, 1, 1, 1, 1);
        x.shot(13, 17, -3, 5, 29, 37);
        due("CLAUSES of '" + text + "'", law(x, text) > 0 ? 1 : 0, 1);
        return x;
    }

    private static void lightIs(String sum, int light) {
        due("light " + sum, asked("light " + sum).asks(1, 6, 0), light);
    }

    private static void titleIs(String sum, int title) {
        due("title " + sum, asked("title " + sum).asks(1, 6, 1), title);
    }

    private static void isSo(String test) {
        due("if " + test, asked("cut if " + test).asks(1, 6, 2), 1);
        due("if not(" + test + ")", asked("cut if not(" + test + ")").asks(1, 6, 2), 0);
    }

    private static void isBroken(String test) {
        due("if " + test, asked("cut if " + test).asks(1, 6, 2), 0);
        due("if not(" + test + ")", asked("cut if not(" + test + ")").asks(1, 6, 2), 0);
    }

    private static void sumIsBroken(String sum) {
        lightIs(sum, 20);
        titleIs(sum, 0);
        isBroken(sum + "=0");
        isBroken("0=" + sum);
        isBroken(sum + "<0");
        isBroken(sum + ">0");
    }

    private static void fed() {
        sentence("Twenty bytes come behind the TAPE, four of each number, the highest first: how many it has.");
        FilmPrinter x = new FilmPrinter();
        due("feed", x.feed(0x00017FFF, 0x80FF00FE, MIN, MAX, NONE), 20);
        due("feed behind", x.feed(0x01020304, 0, 0, 0, 0x05060708), 40);
        x.see();
        int[] bytes = {0, 1, 127, 255, 128, 255, 0, 254, 128, 0, 0, 0, 127, 255, 255, 255, 255, 255, 255, 255,
            1, 2, 3, 4, 0, 0, 0, 0, 0, 0, 0, 0, 0, 0, 0, 0, 5, 6, 7, 8};
        for (int k = 0; k < 40; k++) {
            due("byte " + k, x.seen(k), bytes[k]);
        }
    }

    private static void tapeIsFull() {
        sentence("NONE, if there would be more than 400.");
        FilmPrinter x = new FilmPrinter();
        for (int n = 1; n <= 20; n++) {
            due("feed " + n, x.feed(1, 1, 1, 1, 1), 20 * n);
        }
        due("feed 21", x.feed(2, 2, 2, 2, 2), NONE);
        due("as many as before", x.count(6), 400);
        x.end(381);
        due("feed behind 381", x.feed(2, 2, 2, 2, 2), NONE);
        due("as many as before", x.count(6), 381);
        x.end(380);
        due("feed behind 380", x.feed(2, 2, 2, 2, 2), 400);
        x.see();
        due("the last byte ahead of it", x.seen(379), 1);
        due("its last byte", x.seen(399), 2);
        due("none behind it", x.seen(400), NONE);
        due("feed anew", x.feed(0, 0, 0, 0, 0), 20);
    }

    private static void ended() {
        sentence("The TAPE has its first n bytes alone: n. NONE, if it has not so many, or n is below 0.");
        FilmPrinter x = new FilmPrinter();
        due("end(0) of none", x.end(0), 0);
        due("end(1) of none", x.end(1), NONE);
        due("end(-1) of none", x.end(-1), NONE);
        x.feed(0x01020304, 0x05060708, 0x090A0B0C, 0x0D0E0F10, 0x11121314);
        due("end(21)", x.end(21), NONE);
        due("end(-1)", x.end(-1), NONE);
        due("end(MAX)", x.end(MAX), NONE);
        due("end(MIN)", x.end(MIN), NONE);
        due("as many as before", x.count(6), 20);
        due("end(20)", x.end(20), 20);
        due("as many as before", x.count(6), 20);
        due("end(19)", x.end(19), 19);
        due("end(20) of 19", x.end(20), NONE);
        due("end(2)", x.end(2), 2);
        due("feed behind 2", x.feed(0x21222324, 0, 0, 0, 0), 22);
        x.end(4);
        x.see();
        due("first", x.seen(0), 1);
        due("second", x.seen(1), 2);
        due("third", x.seen(2), 0x21);
        due("fourth", x.seen(3), 0x22);
        x.feed(0, 0, 0, 0, 0);
        due("end(0)", x.end(0), 0);
        due("none left", x.count(6), 0);
    }

    private static void noLawAtFirst() {
        sentence("The LAW is a TEXT (none at first: no CLAUSE) on a TAPE of at most 400 bytes.");
        FilmPrinter x = new FilmPrinter();
        x.shot(1, 0, 0, 0, 0, 0);
        due("CLAUSES", x.count(2), 0);
        due("LIGHT", x.asks(0, 0, 0), 20);
        due("TITLE", x.asks(0, 0, 1), 0);
        due("CUT", x.asks(0, 0, 2), 0);
        due("PLACES", x.edition(0, 0), 1);
        due("a LAW", law(x, "title 1"), 1);
        due("PLACES", x.edition(0, 0), 2);
    }

    private static void longestText() {
        sentence("The LAW is a TEXT (none at first: no CLAUSE) on a TAPE of at most 400 bytes.");
        stands(" ".repeat(397) + "cut", 1);
        faults(" ".repeat(397) + "cu;", 397);
        faults(" ".repeat(398) + "if", 398);
        faults(";".repeat(400), 0);
        faults("cut" + "+".repeat(397), 3);
        stands("light " + "0".repeat(388) + "100000", 1);
        faults("light " + "0".repeat(388) + "100001", 6);
        faults("light " + "9".repeat(394), 6);
        faults("c".repeat(400), 0);
        faults("cut if " + "not ".repeat(98) + "1", 400);
        stands("cut if " + "not ".repeat(97) + "1=1  ", 1);
        due("an odd row of not", asked("cut if " + "not ".repeat(97) + "1=1").asks(1, 6, 2), 0);
        due("an even row of not", asked("cut if " + "not ".repeat(96) + "1=1").asks(1, 6, 2), 1);
        faults("cut if" + "(".repeat(394), 14);
        faults("cut;" + " ".repeat(396), 400);
    }

    private static void lettersAndDigits() {
        sentence("TOKENS: longest rows of letters a .. z, of digits, single other bytes, any blanks (32) between.");
        faults("cuta", 0);
        faults("cutz", 0);
        faults("cut`", 3);
        faults("cut{", 3);
        faults("cutA", 3);
        faults("cutZ", 3);
        faults("Cut", 0);
        faults("cut" + (char) 128, 3);
        faults("cut" + (char) 255, 3);
        faults((char) 227 + "ut", 0);
        faults("light grey" + (char) 249, 10);
        stands("light0", 1);
        stands("light9", 1);
        lightIs("10", 10);
        lightIs("19", 19);
        lightIs("09", 9);
        faults("light 1/", 8);
        faults("light 1:", 7);
        faults("light 1 0", 8);
        faults("light 1a", 7);
        stands("light 5if 1<2or 3<4and 5<6", 1);
        faults("light 5if1=1or2=2and", 20);
        faults("cutif 1=1", 0);
        faults("cut ifnot 1=1", 4);
        faults("cut if notnot 1=1", 7);
        faults("li ght 5", 0);
        faults("light gr ey", 6);
        faults("cut if 1<=2", 9);
        faults("cut if 1<>2", 9);
        faults("cut if 1==1", 9);
        faults("light 5;;cut", 8);
    }

    private static void blanks() {
        sentence("TOKENS: longest rows of letters a .. z, of digits, single other bytes, any blanks (32) between.");
        stands("title[[grey+1]*2];cut if(land=1)and(kind<2)", 2);
        stands("  title  [  [  grey  +  1  ]  *  2  ]  ;  cut  if  (  land  =  1  )  and  (  kind  <  2  )  ", 2);
        for (int sign : new int[] {0, 9, 10, 13, 31, 33, 95, 127, 160}) {
            faults("cut" + (char) sign, 3);
            faults((char) sign + "cut", 0);
            faults("light" + (char) sign + "5", 5);
            faults("light 5" + (char) sign, 7);
        }
    }

    private static void clauses() {
        sentence("CLAUSE {\";\" CLAUSE}, 12 at most (FAULT at the 13th's first TOKEN).");
        stands(ELEVEN, 11);
        stands(ELEVEN + ";cut", 12);
        faults(ELEVEN + ";cut;cut", 48);
        faults(ELEVEN + ";cut; light 5", 49);
        faults(ELEVEN + ";cut;  )", 50);
        faults(ELEVEN + ";cut;cut;cut", 48);
        faults(ELEVEN + ";cut;", 48);
        faults(ELEVEN + ";cut;  ", 50);
        faults(ELEVEN + ";cut cut", 48);
        faults(ELEVEN + ";cut if", 50);
        faults(ELEVEN + ";", 44);
        faults("cut;", 4);
        faults(";", 0);
        faults(";cut", 0);
        faults("cut;;cut", 4);
        faults("cut,cut", 3);
    }

    private static void clauseAndHead() {
        sentence("CLAUSE: HEAD [\"if\" TEST]. HEAD: \"light\" SUM | \"title\" SUM | \"cut\".");
        stands("cut", 1);
        stands("light 1", 1);
        stands("title 1", 1);
        stands("cut if 1=1", 1);
        stands("light 1 if 1=1", 1);
        stands("title 1 if 1=1", 1);
        faults("light", 5);
        faults("title", 5);
        faults("light if 1=1", 6);
        faults("title ;cut", 6);
        faults("cut 1", 4);
        faults("cut if", 6);
        faults("cut if ;cut", 7);
        faults("cut if 1=1 if 1=1", 11);
        faults("cut if 1=1 cut", 11);
        faults("light 1 light", 8);
        faults("if 1=1", 0);
        faults("1", 0);
        faults("grey", 0);
        faults("light 1 or", 8);
        faults("light 1=1", 7);
    }

    private static void tests() {
        sentence("TEST: BOTH {\"or\" BOTH}. BOTH: PLAIN {\"and\" PLAIN}. "
                + "PLAIN: \"not\" PLAIN | \"(\" TEST \")\" | SUM (\"<\" | \">\" | \"=\") SUM.");
        stands("cut if 1=1 or 1=1 or 1=1", 1);
        stands("cut if 1=1 and 1=1 and 1=1", 1);
        stands("cut if not not (not 1=1)", 1);
        faults("cut if or 1=1", 7);
        faults("cut if and 1=1", 7);
        faults("cut if 1=1 or", 13);
        faults("cut if 1=1 or or", 14);
        faults("cut if 1=1 and", 14);
        faults("cut if 1=1 and and", 15);
        faults("cut if 1=1 not", 11);
        faults("cut if not", 10);
        faults("cut if ()", 8);
        faults("cut if (1=1", 11);
        faults("cut if (1=1]", 11);
        faults("cut if (1=1))", 12);
        faults("cut if 1=1)", 10);
        faults("cut if (1)=1", 9);
        faults("cut if (1+1)=2", 11);
        faults("cut if 1", 8);
        faults("cut if 1 and", 9);
        faults("cut if 1=", 9);
        faults("cut if =1", 7);
        faults("cut if 1=1=1", 10);
        faults("cut if 1=(1)", 9);
        faults("cut if 1=not 1", 9);
        faults("cut if 1!1", 8);
    }

    private static void sums() {
        sentence("SUM: TERM {(\"+\" | \"-\") TERM}. TERM: PART {(\"*\" | \"/\") PART}.");
        stands("light 1+1-1+1", 1);
        stands("light 1*1/1*1", 1);
        faults("light +1", 6);
        faults("light -1", 6);
        faults("light *1", 6);
        faults("light /1", 6);
        faults("light 1+", 8);
        faults("light 1-", 8);
        faults("light 1*", 8);
        faults("light 1/", 8);
        faults("light 1+-1", 8);
        faults("light 1*/1", 8);
        faults("light 1+*1", 8);
        faults("light []", 7);
        faults("light [1", 8);
        faults("light [1)", 8);
        faults("light [1]]", 9);
        faults("light 1]", 7);
        faults("light [1=1]", 8);
        faults("light (1)", 6);
        faults("light [1][1]", 9);
        faults("light 1%2", 7);
    }

    private static void words() {
        sentence("\"grey\" | \"step\" | \"length\" | \"kind\" | \"sound\" | \"shot\" | \"land\".");
        String[] fine = {"grey", "step", "length", "kind", "sound", "shot", "land"};
        for (String word : fine) {
            stands("light " + word, 1);
            faults("light " + word + "s", 6);
            faults("light " + word.substring(1), 6);
            faults("light " + word.substring(0, word.length() - 1), 6);
        }
        for (String word : fine) {
            for (String other : misspelt(word)) {
                faults("light " + other, 6);
            }
        }
        for (String word : new String[] {"shrink", "light", "title", "cut", "if", "or", "and", "not", "frame"}) {
            faults("light " + word, 6);
            faults("light 1+" + word, 8);
        }
        lightIs("grey", 17);
        lightIs("step+20", 17);
        lightIs("length", 13);
        lightIs("kind", 5);
        lightIs("sound", 29);
        lightIs("shot", 1);
        lightIs("land", 6);
    }

    /** The word with each of its letters in turn become the next one. */
    private static String[] misspelt(String word) {
        String[] all = new String[word.length()];
        for (int k = 0; k < all.length; k++) {
            all[k] = word.substring(0, k) + (char) (word.charAt(k) + 1) + word.substring(k + 1);
        }
        return all;
    }

    private static void misspeltHeadsAndJoints() {
        sentence("CLAUSE: HEAD [\"if\" TEST]. HEAD: \"light\" SUM | \"title\" SUM | \"cut\".");
        for (String head : new String[] {"light", "title", "cut"}) {
            stands(head.equals("cut") ? head : head + " 1", 1);
            for (String other : misspelt(head)) {
                faults(head.equals("cut") ? other : other + " 1", 0);
            }
        }
        for (String joint : misspelt("if")) {
            faults("cut " + joint + " 1=1", 4);
        }
        for (String joint : misspelt("or")) {
            faults("cut if 1=1 " + joint + " 1=1", 11);
        }
        for (String joint : misspelt("and")) {
            faults("cut if 1=1 " + joint + " 1=1", 11);
        }
        for (String joint : misspelt("not")) {
            faults("cut if " + joint + " 1=1", 7);
        }
    }

    private static void numbers() {
        sentence("PART: NUMBER (to 100,000)");
        stands("light 0", 1);
        stands("light 99999", 1);
        stands("light 100000", 1);
        faults("light 100001", 6);
        faults("light 100010", 6);
        faults("light 200000", 6);
        faults("light 999999", 6);
        faults("light 1000000", 6);
        faults("light 2147483648", 6);
        faults("light 4294967296", 6);
        faults("light 4294967301", 6);
        faults("light 18446744073709551617", 6);
        stands("light 000000000000000000000000000000000000000100000", 1);
        faults("light 000000000000000000000000000000000000000100001", 6);
        lightIs("100000/10000", 10);
        lightIs("99999/9999", 10);
        isSo("100000=99999+1");
        isSo("00000000000007=7");
        faults("light 5+100001*[grey", 8);
        faults("cut if 1=1 and 100001=1", 15);
    }

    private static String rowOf(String part, int many) {
        return "light " + part + ("+" + part).repeat(many - 1);
    }

    private static void parts() {
        sentence("50 PARTS that are NUMBERS and words (FAULT at the 51st)");
        stands(rowOf("1", 49), 1);
        stands(rowOf("1", 50), 1);
        faults(rowOf("1", 51), 106);
        faults(rowOf("1", 60), 106);
        stands(rowOf("land", 50), 1);
        faults(rowOf("land", 51), 256);
        stands(rowOf("[1]", 50), 1);
        faults(rowOf("[1]", 51), 207);
        stands(rowOf("1", 49) + ";cut;title land", 3);
        faults(rowOf("1", 50) + ";cut;title  land", 117);
        faults(rowOf("1", 49) + ";title 1 if 1=1", 115);
        stands(rowOf("1", 48) + " if 1=1;cut;cut", 3);
        faults(rowOf("1", 49) + " if 1=1", 109);
        stands(rowOf("1", 50) + ";cut;cut;cut", 4);
        faults(rowOf("1", 50) + "+(", 106);
        faults(rowOf("1", 50) + "+[ 1", 108);
        lightIs("1" + "+1".repeat(35) + "-1".repeat(14), 22);
        isSo("1" + "+1".repeat(24) + "=25" + "*1".repeat(24));
        FilmPrinter x = new FilmPrinter();
        due("50 in one LAW", law(x, rowOf("1", 50)), 1);
        due("50 in the next LAW", law(x, rowOf("2", 50)), 1);
        due("51 in a refused one", law(x, rowOf("3", 51)), -6);
        due("50 behind a refused one", law(x, rowOf("4", 50)), 1);
    }

    private static void brackets() {
        sentence("8 brackets of both kinds within one another (FAULT at the 9th) at most.");
        stands("light [[[[[[[[1]]]]]]]]", 1);
        faults("light [[[[[[[[[1]]]]]]]]]", 14);
        faults("light [[[[[[[[ [1]]]]]]]]]", 15);
        stands("cut if ((((((((1=1))))))))", 1);
        faults("cut if (((((((((1=1)))))))))", 15);
        faults("cut if (((((((([1]=1))))))))", 15);
        faults("cut if ((((((((1=[1]))))))))", 17);
        stands("cut if ((((((([1]=[1])))))))", 1);
        stands("cut if ([[[[[[[1]]]]]]]=[[[[[[[1]]]]]]])", 1);
        faults("cut if ([[[[[[[1]]]]]]]=[[[[[[[[1]]]]]]]])", 31);
        stands("light [[[[[[[[1]]]]]]]]+[[[[[[[[1]]]]]]]] if ((((((((1=1)))))))) and ((((((((1=1))))))))", 1);
        stands("light [1]+[1]+[1]+[1]+[1]+[1]+[1]+[1]+[1]+[1];cut if (1=1)or(1=1)or(1=1)or(1=1)or(1=1)", 2);
        stands("light [[[[[[[1]+[1]]]]]]]+[[1]*[1]]", 1);
        faults("light [[[[[[[[1+[1]]]]]]]]]", 16);
        faults("cut if not(not(not(not(not(not(not(not(not(1=1", 42);
        faults("cut if not(not(not(not(not(not(not(not 1=1", 42);
        lightIs("[[[[[[[[7]]]]]]]]", 7);
        isSo("(((((([7]=7))))))");
    }

    private static void faultAtTheEnd() {
        sentence("FAULT: the first TOKEN that can't go on there (the end's: the TEXT's length).");
        faults("light", 5);
        faults("light ", 6);
        faults("light     ", 10);
        faults("cut if grey", 11);
        faults("cut if grey  ", 13);
        faults("light [", 7);
        faults("light 5 5 5", 8);
        faults("light 5 * * 5 )", 10);
        faults(" light 5 if if", 12);
        faults("cut if (1=1 and (2=2) and", 25);
    }

    private static void lawTakesTheTape() {
        sentence("The TAPE, which is empty then, becomes the LAW: how many CLAUSES.");
        FilmPrinter x = new FilmPrinter();
        x.shot(1, 0, 0, 0, 0, 0);
        due("one", law(x, "light 5"), 1);
        due("the TAPE is empty", x.count(6), 0);
        due("twelve", law(x, ELEVEN + ";cut"), 12);
        due("the TAPE is empty", x.count(6), 0);
        due("count(2)", x.count(2), 12);
        due("the one before is gone", x.asks(0, 0, 0), 20);
        due("two", law(x, "title 3;title 4"), 2);
        due("count(2)", x.count(2), 2);
        due("the one before is gone", x.asks(0, 0, 2), 0);
        due("refused", law(x, "cut;cut;"), -6);
        due("the TAPE is empty too", x.count(6), 0);
        due("feed begins anew", x.feed(0, 0, 0, 0, 0), 20);
    }

    private static void refusedLaws() {
        sentence("-6 (blanks alone: FAULT at the end; the one before stays).");
        FilmPrinter x = new FilmPrinter();
        x.shot(1, 0, 0, 0, 0, 0);
        law(x, "light 5;title 2");
        String[] texts = {"", " ", "          ", " ".repeat(400), "cut;", "cut cut", ELEVEN + ";cut;cut", "light 7;light x"};
        int[] places = {0, 1, 10, 400, 4, 4, 48, 14};
        for (int n = 0; n < texts.length; n++) {
            due("law of '" + texts[n] + "'", law(x, texts[n]), -6);
            due("status", x.status(), -6);
            due("fault", x.fault(), places[n]);
            due("the TAPE is empty", x.count(6), 0);
            due("CLAUSES of the one before", x.count(2), 2);
            due("LIGHT of the one before", x.asks(0, 0, 0), 5);
            due("TITLE of the one before", x.asks(0, 0, 1), 2);
            due("CUT of the one before", x.asks(0, 0, 2), 0);
        }
    }

    private static void faultOfTheLatest() {
        sentence("FAULT of the latest law(): its place; NONE without.");
        FilmPrinter x = new FilmPrinter();
        due("ahead of any", x.fault(), NONE);
        law(x, "x");
        due("at the first byte", x.fault(), 0);
        law(x, "cut x");
        due("the latest", x.fault(), 4);
        tape(x, "cut");
        x.see();
        x.image(0);
        x.back(0);
        x.clear();
        x.end(0);
        due("other calls leave it", x.fault(), 4);
        law(x, "cut");
        due("without", x.fault(), NONE);
        x.law();
        due("of none", x.fault(), 0);
    }

    private static void landsAndShots() {
        sentence("It is asked of a SHOT (shot: its number) for a LAND 0 .. 7.");
        FilmPrinter x = new FilmPrinter();
        for (int n = 0; n < 16; n++) {
            x.shot(1, 0, 0, 0, 0, 0);
        }
        law(x, "light shot+10;title land+10");
        due("SHOT 0", x.asks(0, 0, 0), 10);
        due("SHOT 15", x.asks(15, 0, 0), 25);
        due("LAND 0", x.asks(0, 0, 1), 10);
        due("LAND 7", x.asks(0, 7, 1), 17);
        for (int land : new int[] {-1, 8, MIN, MAX}) {
            due("asks in " + land, x.asks(0, land, 0), NONE);
            due("edition of " + land, x.edition(land, 0), NONE);
            due("place of " + land, x.place(land, 0, 0), NONE);
            due("printed in " + land, x.printed(land, 0), NONE);
            due("jump in " + land, x.jump(land, NONE), NONE);
            due("heard in " + land, x.heard(land, 0), NONE);
            due("sound in " + land, x.sound(land, 0), NONE);
        }
        due("edition of 7", x.edition(7, 1), 16);
        due("place of 7", x.place(7, 0, 0), 0);
        due("printed in 7", x.printed(7, 0), 255);
        due("jump in 7", x.jump(7, NONE), 0);
        due("sound in 7", x.sound(7, 1) >= 0 ? 1 : 0, 1);
    }

    private static void beyond() {
        sentence("Beyond 1,000,000,000 either way, or divided by 0, a SUM, a TEST is BROKEN");
        lightIs("100000*10000", 40);
        lightIs("100000*10000/100000/1000", 10);
        lightIs("[100000*10000-1+1]/100000/1000", 10);
        lightIs("0-100000*10000", 1);
        lightIs("[0-100000*10000]/100000/1000+30", 20);
        lightIs("[0-100000*10000]/100000/1000+31", 21);
        titleIs("100000*10000", 20);
        isSo("100000*10000>100000*9999");
        isSo("0-100000*10000<0");
        isSo("100000*10000=10000*100000");
        sumIsBroken("[100000*10000+1]");
        sumIsBroken("[0-100000*10000-1]");
        sumIsBroken("[100000*10001]");
        sumIsBroken("[[0-10001]*100000]");
        sumIsBroken("[100000*10000+1-1]");
        sumIsBroken("[0-100000*10000-1+1]");
        sumIsBroken("[1-[0-100000*10000]]");
        sumIsBroken("[100000*100000/100000]");
        sumIsBroken("[100000*100000-100000*100000]");
        sumIsBroken("[0*[100000*100000]]");
        sumIsBroken("100000*100000*100000*100000*100000*100000");
        sumIsBroken("[65536*65536*65536*65536]");
        isSo("100000*10000-1<100000*10000");
    }

    private static void dividedByNothing() {
        sentence("Beyond 1,000,000,000 either way, or divided by 0, a SUM, a TEST is BROKEN");
        lightIs("5/1", 5);
        lightIs("[0-5]/[0-1]", 5);
        lightIs("0/5+7", 7);
        sumIsBroken("5/0");
        sumIsBroken("0/0");
        sumIsBroken("5/[land-6]");
        sumIsBroken("5/[1/2]");
        sumIsBroken("0*[5/0]");
        sumIsBroken("5/0*0");
        lightIs("5/[land-5]", 5);
    }

    private static void cutTowardsNothing() {
        sentence("/ is cut towards 0");
        lightIs("7/2", 3);
        lightIs("8/2", 4);
        lightIs("[0-7]/2+10", 7);
        lightIs("[0-8]/2+10", 6);
        lightIs("7/[0-2]+10", 7);
        lightIs("[0-7]/[0-2]", 3);
        isSo("1/2=0");
        isSo("[0-1]/2=0");
        isSo("1/[0-2]=0");
        isSo("99999/100000=0");
        isSo("[0-99999]/100000=0");
    }

    private static void holding() {
        sentence("A CLAUSE HOLDS, if its \"if\" (if it has one) is so, and neither that nor its SUM is BROKEN");
        lightIs("5", 5);
        lightIs("5 if 1=1", 5);
        lightIs("5 if 1=2", 20);
        lightIs("5 if 1/0=1", 20);
        lightIs("5 if not 1/0=1", 20);
        lightIs("5/0", 20);
        lightIs("5/0 if 1=1", 20);
        lightIs("5/0 if 1=2", 20);
        lightIs("5;light 5/0", 5);
        lightIs("5/0;light 5", 5);
        titleIs("5/0;title 6 if 1/0=1;title 7", 7);
        titleIs("5/0 if 1=1", 0);
        titleIs("5 if 1/0=1", 0);
        isSo("1=1");
        isBroken("1/0=1");
        isSo("grey=17");
        isSo("not grey=18");
        isSo("grey<18");
        isSo("not grey<17");
        isSo("grey>16");
        isSo("not grey>17");
    }

    private static void askedOnlyIfItMatters() {
        sentence("(\"or\", \"and\" ask what stands behind only if it can still matter)");
        isSo("1=1 or 1/0=1");
        isBroken("1=2 or 1/0=1");
        isBroken("1/0=1 or 1=1");
        isBroken("1/0=1 or 1/0=1");
        isSo("not(1=2 and 1/0=1)");
        isBroken("1=1 and 1/0=1");
        isBroken("1/0=1 and 1=2");
        isSo("1=2 or 1=1 or 1/0=1");
        isSo("1=1 or 1/0=1 or 1/0=2");
        isSo("not(1=1 and 1=2 and 1/0=1)");
        isSo("1=1 or 1=1 and 1/0=1");
        isSo("1=2 and 1/0=1 or 1=1");
        isBroken("1=2 and 1/0=1 or 1/0=1");
        isSo("(1=1 or 1/0=1) and 1=1");
        isBroken("(1=1 or 1/0=1) and 1/0=1");
        isSo("not 1=2 or 1/0=1");
        isBroken("not 1=1 or 1/0=1");
        isBroken("1=1 and (1/0=1 or 1=1)");
    }

    private static void lights() {
        sentence("LIGHT: what the last \"light\" that HOLDS tells, 1 .. 40 (else the nearest), 20 without");
        lightIs("1", 1);
        lightIs("2", 2);
        lightIs("0", 1);
        lightIs("0-1", 1);
        lightIs("0-100000*10000", 1);
        lightIs("40", 40);
        lightIs("39", 39);
        lightIs("41", 40);
        lightIs("100000*10000", 40);
        lightIs("5;light 6;light 7", 7);
        lightIs("5;light 6;light 7 if 1=2", 6);
        lightIs("50;light 45;light 7 if 1=2", 40);
        lightIs("5 if 1=2", 20);
        lightIs("5;title 9;cut", 5);
        due("none", asked("title 5;cut").asks(1, 6, 0), 20);
    }

    private static void titles() {
        sentence("TITLE likewise 0 .. 20, 0 without");
        titleIs("0", 0);
        titleIs("1", 1);
        titleIs("0-1", 0);
        titleIs("0-100000*10000", 0);
        titleIs("20", 20);
        titleIs("19", 19);
        titleIs("21", 20);
        titleIs("100000*10000", 20);
        titleIs("5;title 6;title 7", 7);
        titleIs("5;title 6;title 7 if 1=2", 6);
        titleIs("5;title 0", 0);
        titleIs("5 if 1=2", 0);
        titleIs("5;light 9;cut", 5);
        due("none", asked("light 5;cut").asks(1, 6, 1), 0);
    }

    private static void cuts() {
        sentence("it is CUT, if a \"cut\" HOLDS.");
        due("one that holds", asked("cut").asks(1, 6, 2), 1);
        due("one that does not", asked("cut if 1=2").asks(1, 6, 2), 0);
        due("the first of two", asked("cut if 1=1;cut if 1=2").asks(1, 6, 2), 1);
        due("the second of two", asked("cut if 1=2;cut if 1=1").asks(1, 6, 2), 1);
        due("neither", asked("cut if 1=2;cut if 1/0=1").asks(1, 6, 2), 0);
        due("none", asked("light 5;title 5").asks(1, 6, 2), 0);
        due("by its own SHOT", asked("cut if shot=1").asks(0, 6, 2), 0);
        due("by its own LAND", asked("cut if land=6").asks(1, 7, 2), 0);
    }

    private static void askedOf() {
        sentence("For a SHOT in a LAND: LIGHT (what 0), TITLE (1), 1 if it is CUT, else 0 (2). NONE.");
        FilmPrinter x = asked("light 11;title 12;cut");
        due("LIGHT", x.asks(1, 6, 0), 11);
        due("TITLE", x.asks(1, 6, 1), 12);
        due("CUT", x.asks(1, 6, 2), 1);
        for (int off : new int[] {-1, 3, MIN, MAX}) {
            due("what " + off, x.asks(1, 6, off), NONE);
        }
        for (int off : new int[] {-1, 2, MIN, MAX}) {
            for (int what = 0; what <= 2; what++) {
                due("SHOT " + off, x.asks(off, 6, what), NONE);
            }
        }
        for (int off : new int[] {-1, 8, MIN, MAX}) {
            for (int what = 0; what <= 2; what++) {
                due("LAND " + off, x.asks(1, off, what), NONE);
            }
        }
        due("SHOT 0, LAND 0", x.asks(0, 0, 0), 11);
        due("SHOT 1, LAND 7", x.asks(1, 7, 1), 12);
    }
}

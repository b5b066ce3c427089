/** Promises 7 and 8: the edges of the tape and of what is a text. */
final class TextBounds extends BoundsOf {
    /** A tape with 158 bytes: room for two. */
    private static final Bounds.Hall ROOM_FOR_TWO = () -> {
        NumbersCalled x = new NumbersCalled();
        Due.feed(x, Halls.tape(158));
        return x;
    };

    /** Six texts, and a tape of one byte that begins no token. */
    private static final Bounds.Hall SIX_TEXTS_AND_A_FAULT = () -> {
        NumbersCalled x = Halls.sixTexts(Halls.one());
        Due.feed(x, "?");
        return x;
    };

    private static void fits(String text) {
        NumbersCalled x = new NumbersCalled();
        is("text of " + text, Due.text(x, text), 1);
        is("count(5) behind it", x.count(5), 2);
    }

    private static void fault(String text, int place) {
        NumbersCalled x = new NumbersCalled();
        is("text of " + text, Due.text(x, text), -100 - place);
        is("count(5) behind it", x.count(5), 1);
        is("count(7) behind it", x.count(7), 0);
    }

    /** What minds E is, 0 .. 999, for base 42, more 7, wait 8, said 9, letter 3. */
    private static void minds(String e, int want) {
        NumbersCalled x = new NumbersCalled();
        x.counter(8, 5);
        x.pull(0, 3427, 0);
        Due.law(x, "takes 1;waits 1;minds " + e + ";");
        is("minds " + e, x.asks(0, 0, 8, 9, 2), want);
    }

    private static int feed(NumbersCalled x, int n, int b) {
        return x.feed(n, b, b, b, b, b);
    }

    private static int with(NumbersCalled x, int n, int place, int b) {
        int[] all = {'a', 'a', 'a', 'a', 'a'};
        all[place] = b;
        return x.feed(n, all[0], all[1], all[2], all[3], all[4]);
    }

    // ---- promise 7

    @Says({"The first n (1 .. 5) of five bytes (0 .. 255 each) come", "BAD: n, any of the five"})
    static void promise07_n() {
        range("feed(n, ..)", Halls.EMPTY, BAD, 1, 5, (x, n) -> feed(x, n, 'a'));
        for (int n = 1; n <= 5; n++) {
            is("feed(" + n + ", ..)", feed(new NumbersCalled(), n, 'a'), n);
        }
    }

    @Says({"The first n (1 .. 5) of five bytes (0 .. 255 each) come", "BAD: n, any of the five"})
    static void promise07_eachOfTheFiveIsAByte() {
        for (int place = 0; place < 5; place++) {
            int at = place;
            range("feed(5, ..), place " + place, Halls.SOME, BAD, 0, 255, (x, b) -> with(x, 5, at, b));
        }
    }

    @Says("BAD: n, any of the five")
    static void promise07_alsoThoseThatDoNotCome() {
        for (int place = 1; place < 5; place++) {
            int at = place;
            range("feed(1, ..), place " + place, Halls.SOME, BAD, 0, 255, (x, b) -> with(x, 1, at, b));
        }
    }

    @Says("come behind THE TAPE's, one by one: how many it has.")
    static void promise07_onlyTheFirstComeInTheirOrder() {
        NumbersCalled x = new NumbersCalled();
        is("feed(2)", x.feed(2, 't', 'a', 'x', 'x', 'x'), 2);
        is("feed(5)", x.feed(5, 'k', 'e', 's', '4', ';'), 7);
        is("feed(1)", x.feed(1, 'w', '1', '1', '1', '1'), 8);
        is("feed(4)", x.feed(4, 'a', 'i', 't', 's', '1'), 12);
        is("feed(3)", x.feed(3, '1', ';', 'm', 'x', 'x'), 15);
        Due.feed(x, "inds 1;");
        is("text()", x.text(), 1);
    }

    @Says({"THE TAPE (160 bytes at most)", "FULL: not all of the n have room (none comes)."})
    static void promise07_theLastByteHasRoom() {
        is("feed(2), room for two", feed(ROOM_FOR_TWO.make(), 2, ' '), 160);
        NumbersCalled x = ROOM_FOR_TWO.make();
        is("feed(1), room for two", feed(x, 1, ' '), 159);
        is("feed(1), room for one", feed(x, 1, ' '), 160);
        is("it is a text", x.text(), 1);
    }

    @Says("FULL: not all of the n have room (none comes).")
    static void promise07_noneOfThreeComesIntoRoomForTwo() {
        for (int n = 3; n <= 5; n++) {
            int k = n;
            refused("feed(" + n + "), room for two", FULL, ROOM_FOR_TWO, x -> feed(x, k, 'a'));
        }
    }

    @Says("FULL: not all of the n have room (none comes).")
    static void promise07_noRoomAtAll() {
        for (int n = 1; n <= 5; n++) {
            int k = n;
            refused("feed(" + n + "), full", FULL, Halls.FULL, x -> feed(x, k, 'a'));
        }
    }

    @Says({"BAD: n, any of the five", "FULL: not all of the n have room (none comes)."})
    static void promise07_badComesAheadOfFull() {
        refused("feed(0)", BAD, Halls.FULL, x -> feed(x, 0, 'a'));
        refused("feed(6)", BAD, Halls.FULL, x -> feed(x, 6, 'a'));
        refused("feed(1, .., 256)", BAD, Halls.FULL, x -> with(x, 1, 4, 256));
        refused("feed(5, -1, ..)", BAD, Halls.FULL, x -> with(x, 5, 0, -1));
    }

    // ---- promise 8: texts

    @Says({"is a TEXT: its number;", "TEXTS are numbered from 0 on, 6 at most"})
    static void promise08_numbersFromZeroToFive() {
        NumbersCalled x = new NumbersCalled();
        for (int t = 1; t < 6; t++) {
            is("text()", Due.text(x, "takes 1;waits 1;minds 1;"), t);
        }
        is("count(5)", x.count(5), 6);
    }

    @Says({"TEXTS are numbered from 0 on, 6 at most", "FULL (ahead of the FAULT; then THE TAPE stays)."})
    static void promise08_theSeventhIsFull() {
        refused("text(), full", FULL, Halls.FULL, x -> x.text());
    }

    @Says("FULL (ahead of the FAULT; then THE TAPE stays).")
    static void promise08_fullComesAheadOfTheFault() {
        refused("text() of ?, full", FULL, SIX_TEXTS_AND_A_FAULT, x -> x.text());
        refused("text() of nothing, full", FULL, () -> Halls.sixTexts(Halls.one()), x -> x.text());
        NumbersCalled x = SIX_TEXTS_AND_A_FAULT.make();
        x.text();
        is("count(7): the tape stays", x.count(7), 1);
        is("feed behind it", feed(x, 1, 'a'), 2);
    }

    @Says("THE TAPE, which is empty then (by a FAULT, too)")
    static void promise08_theTapeIsEmptyBehindAText() {
        NumbersCalled x = new NumbersCalled();
        Due.text(x, "takes 1;waits 1;minds 1;");
        is("count(7)", x.count(7), 0);
        is("text() of nothing", x.text(), -100);
        is("feed", feed(x, 1, 'a'), 1);
    }

    @Says({"THE TAPE, which is empty then (by a FAULT, too)", "-100 less the place of its FAULT."})
    static void promise08_theTapeIsEmptyBehindAFault() {
        NumbersCalled x = new NumbersCalled();
        is("text of takes ?", Due.text(x, "takes ?"), -106);
        is("count(7)", x.count(7), 0);
        is("count(5)", x.count(5), 1);
        is("the next text", Due.text(x, "takes 1;waits 1;minds 1;"), 1);
    }

    @Says("(the text's size, if it ends too early)")
    static void promise08_nothingEndsTooEarly() {
        fault("", 0);
    }

    @Says({"(the text's size, if it ends too early)", "blanks (32, 10) may stand between"})
    static void promise08_endsTooEarlyBehindBlanks() {
        fault(" ", 1);
        fault("\n", 1);
        fault("takes 1 ; waits 1 ; minds 1 \n ", 30);
    }

    @Says({"(the text's size, if it ends too early)", "TEXT: takes E ; waits E ; minds E ;"})
    static void promise08_endsTooEarlyBehindEachToken() {
        String whole = "takes ( 1 + - base ) * 2 < 3 and not 4 or 5 ; waits 6 ; minds 7 ;";
        fits(whole);
        String[] tokens = whole.split(" ");
        String text = "";
        for (int i = 0; i < tokens.length - 1; i++) {
            text = text + tokens[i];
            fault(text, text.length());
            text = text + " ";
        }
    }

    @Says({"A TEXT is read from THE TAPE (160 bytes at most)", "(the text's size, if it ends too early)"})
    static void promise08_aFullTape() {
        fits(Halls.tape(160));
        String open = Halls.tape(160).replace(';', ' ');
        fault(open, 8);
        fault(Halls.tape(160).replace("1;waits", "1;;aits"), 8);
        String early = Halls.tape(160).substring(0, 158) + "1 ";
        fault(early, 160);
        fault(early.substring(0, 158) + "1?", 159);
        fault(early.substring(0, 155) + "12345", 155);
    }

    @Says("TEXT: takes E ; waits E ; minds E ;")
    static void promise08_nothingMoreStandsBehind() {
        fits("takes 1;waits 1;minds 1;");
        fits("takes 1;waits 1;minds 1; \n");
        fault("takes 1;waits 1;minds 1;;", 24);
        fault("takes 1;waits 1;minds 1; 1", 25);
        fault("takes 1;waits 1;minds 1;\n?", 25);
    }

    @Says("TEXT: takes E ; waits E ; minds E ;")
    static void promise08_keysInTheirOrder() {
        fault("waits 1;takes 1;minds 1;", 0);
        fault("takes 1;minds 1;waits 1;", 8);
        fault("takes 1;waits 1;takes 1;", 16);
        fault("takes 1;waits 1;waits 1;", 16);
        fault("takes 1;takes 1;", 8);
        fault("base 1;", 0);
        fault("1;", 0);
    }

    // ---- promise 8: tokens

    @Says("TOKENS, each as long as can be: WORDS (as many letters a .. z as stand there)")
    static void promise08_wordsAreLettersAToZ() {
        fault("takes a;", 6);
        fault("takes z;", 6);
        fault("takes `base;", 6);
        fault("takes {base;", 6);
        fault("takes base{;", 10);
        fault("takes base`;", 10);
        fault("takes Base;", 6);
        fault("takes bAse;", 6);
        fault("Takes base;", 0);
    }

    @Says("TOKENS, each as long as can be: WORDS (as many letters a .. z as stand there)")
    static void promise08_wordsAreAsLongAsCanBe() {
        fault("takesbase;", 0);
        fault("takes basemore;", 6);
        fault("takes base andmore;", 11);
        fault("takes notbase;", 6);
        fits("takes 1and 1or 2;waits 1;minds 1;");
        fits("takes1;waits2;minds3;");
    }

    @Says("of a WORD that is neither KEY nor NAME")
    static void promise08_wordsThatAreNone() {
        for (String word : new String[] {"bas", "base" + "s", "ase", "mor", "slo", "slows", "wai", "waite", "sai",
            "lette", "letters", "lettex", "aletter", "x", "abcdefghijklmnopqrstuvwxyz"}) {
            fault("takes " + word + ";", 6);
        }
        for (String key : new String[] {"take", "takess", "akes", "wait", "want"}) {
            fault(key + " 1;", 0);
        }
        fault("takes 1 an 1;", 8);
        fault("takes 1 andd 1;", 8);
        fault("takes 1 o 1;", 8);
        fault("takes no 1;", 6);
        fault("takes nott 1;", 6);
    }

    @Says("of a WORD that is neither KEY nor NAME")
    static void promise08_eachLetterOfAWord() {
        for (String name : new String[] {"base", "more", "slow", "wait", "said", "letter"}) {
            for (int i = 0; i < name.length(); i++) {
                fault("takes " + name.substring(0, i) + "x" + name.substring(i + 1) + ";", 6);
            }
        }
        for (int key = 0; key < 3; key++) {
            String ahead = "takes 1;waits 1;".substring(0, 8 * key);
            String word = "takes waits minds".substring(6 * key, 6 * key + 5);
            for (int i = 0; i < 5; i++) {
                fault(ahead + word.substring(0, i) + "x" + word.substring(i + 1) + " 1;", 8 * key);
            }
        }
        for (String key : new String[] {"xr", "ox", "xnd", "axd", "anx"}) {
            fault("takes 1 " + key + " 1;", 8);
        }
        for (String key : new String[] {"xot", "nxt", "nox"}) {
            fault("takes " + key + " 1;", 6);
        }
    }

    @Says("of a WORD that is neither KEY nor NAME")
    static void promise08_keysAreNoNames() {
        for (String key : new String[] {"takes", "waits", "minds", "or", "and"}) {
            fault("takes " + key + ";", 6);
            fault("takes 1 + " + key + ";", 10);
        }
        for (String name : new String[] {"base", "more", "slow", "wait", "said", "letter"}) {
            fits("takes " + name + ";waits " + name + ";minds " + name + ";");
            fault("takes 1 " + name + ";", 8);
        }
    }

    @Says({"NUMBERS (as many digits as stand there; more than 4 are too long)", "a NUMBER that is too long"})
    static void promise08_fourDigitsAndFive() {
        fits("takes 9999;waits 0000;minds 0009;");
        minds("9999 - 9001", 998);
        minds("0012", 12);
        minds("9 = 0009", 1);
        fault("takes 10000;", 6);
        fault("takes 00000;", 6);
        fault("takes 1;waits 99999;", 14);
        fault("takes 123456789012345678901234567890;", 6);
        fault("takes 1 + 12345", 10);
    }

    @Says("NUMBERS (as many digits as stand there; more than 4 are too long)")
    static void promise08_numbersAreAsLongAsCanBe() {
        fault("takes 1 2;", 8);
        fault("takes 1234 5;", 11);
        fault("takes 1base;", 7);
        fault("takes base1;", 10);
        fault("takes /1;", 6);
        fault("takes :1;", 6);
    }

    @Says({"SIGNS ( ) ; + - * < =", "also of a byte that begins none"})
    static void promise08_bytesThatBeginNoToken() {
        for (int b = 0; b < 256; b++) {
            boolean begins = b >= 'a' && b <= 'z' || b >= '0' && b <= '9' || "();+-*<= \n".indexOf(b) >= 0;
            if (!begins) {
                fault("takes 1;waits 1;minds 1;" + (char) b, 24);
                fault("takes 1 " + (char) b + " 2;", 8);
            }
        }
    }

    @Says("blanks (32, 10) may stand between")
    static void promise08_blanksAre32And10() {
        fits(" \n takes\n1 \n ;\n\nwaits 1;minds  1\n; \n");
        for (char c : new char[] {0, 9, 11, 13, 31, 33, 127, 160}) {
            fault("takes" + c + "1;", 5);
        }
    }

    @Says("FAULT: the place of the first byte of the first TOKEN that can't stand there")
    static void promise08_theFirstOfTwoFaults() {
        fault("takes 1 ) ?", 8);
        fault("takes ? )", 6);
        fault("takes 1 2 foo", 8);
        fault("takes 12345 ?", 6);
        fault("takes foo 12345", 6);
        fault("? takes 1", 0);
    }

    // ---- promise 8: what may stand where

    @Says("E: AND { or AND }. AND: NOT { and NOT }.")
    static void promise08_orAndAnd() {
        fault("takes or 1;", 6);
        fault("takes and 1;", 6);
        fault("takes 1 or;", 10);
        fault("takes 1 and;", 11);
        fault("takes 1 or or 1;", 11);
        fault("takes 1 and or 1;", 12);
        minds("1 or 1 and 0", 1);
        minds("1 and 0 or 1", 1);
        minds("0 or 0 or 0 or 2", 1);
        minds("1 and 2 and 3 and 0", 0);
    }

    @Says("NOT: not NOT, or SUM, perhaps < or = and a SUM.")
    static void promise08_notAndOneComparison() {
        fits("takes not not 1 < 2;waits 1 = 2;minds not 1;");
        fault("takes 1 < 2 < 3;", 12);
        fault("takes 1 = 2 = 3;", 12);
        fault("takes 1 < 2 = 3;", 12);
        fault("takes 1 < not 2;", 10);
        fault("takes 1 + not 2;", 10);
        fault("takes 1 * not 2;", 10);
        fault("takes - not 2;", 8);
        fault("takes 1 not 2;", 8);
        fault("takes not;", 9);
        fault("takes < 2;", 6);
        fault("takes 1 <;", 9);
        fault("takes 1 < = 2;", 10);
        minds("not 1 = 2", 1);
        minds("(not 1) = 2", 0);
    }

    @Says({"SUM: TERM { + or - TERM }. TERM: ONE { * ONE }.", "ONE: a NUMBER, a NAME, - ONE, ( E )."})
    static void promise08_sumsTermsAndOnes() {
        fault("takes + 1;", 6);
        fault("takes 1 + ;", 10);
        fault("takes * 1;", 6);
        fault("takes 1 * ;", 10);
        fault("takes 1 * * 1;", 10);
        fault("takes 1 - + 1;", 10);
        fault("takes ();", 7);
        fault("takes (1;", 8);
        fault("takes 1);", 7);
        fault("takes (1));", 9);
        fault("takes -;", 7);
        fault("takes (1) 2;", 10);
        minds("20 - 3 - 2", 15);
        minds("2 + 3 * 4 - - 1", 15);
        minds("2 * - 3 + 10", 4);
        minds("(1 or 0) * 7", 7);
    }

    // ---- promise 8: five of these are open

    @Says("a ( , a not, a - ahead of a ONE while 5 of these are open")
    static void promise08_fiveParenthesesAndSix() {
        fits("takes (((((1)))));waits 1;minds 1;");
        fault("takes ((((((1))))));", 11);
        fault("takes 1;waits ((((((", 19);
    }

    @Says("a ( , a not, a - ahead of a ONE while 5 of these are open")
    static void promise08_fiveNotsAndSix() {
        fits("takes not not not not not 1;waits 1;minds 1;");
        fault("takes not not not not not not 1;", 26);
    }

    @Says("a ( , a not, a - ahead of a ONE while 5 of these are open")
    static void promise08_fiveMinusesAndSix() {
        fits("takes -----1;waits 1;minds 1;");
        fault("takes ------1;", 11);
        fits("takes 1 - -----1;waits 1;minds 1;");
        fault("takes 1 - ------1;", 15);
    }

    @Says("a ( , a not, a - ahead of a ONE while 5 of these are open")
    static void promise08_fiveOfSeveralAndSix() {
        fits("takes not(-(not 1));waits -(not -(1));minds((not not(1)));");
        fits("takes -(-(-1));waits not(not(not 1));minds 1;");
        fault("takes not(-(not(1", 15);
        fault("takes not(-(not not 1", 16);
        fault("takes not(-(not -1", 16);
        fault("takes -(-(-(1", 11);
        fault("takes not(not(not(1", 17);
    }

    @Says("(a ( till its ) , not and - till what they belong to ends)")
    static void promise08_aParenthesisIsOpenTillItsEnd() {
        fits("takes (1)+(2)+(3)+(4)+(5)+(6)+(((((7)))));waits 1;minds 1;");
        fits("takes ((((1)+(2))*(3)+((4))));waits (((((1)))));minds (((((1)))));");
        fault("takes (((((1)+((2", 15);
        fault("takes ((((1)+(((2", 15);
        fits("takes ((((1)+(2))));waits 1;minds 1;");
    }

    @Says("(a ( till its ) , not and - till what they belong to ends)")
    static void promise08_aNotIsOpenTillItsEnd() {
        fits("takes not 1 and (((((1)))));waits not 1 or (((((1)))));minds 1;");
        fits("takes not 1 < ((((2))));waits not 1 + ((((2))));minds not 1 * ((((2))));");
        fault("takes not 1 < (((((2", 18);
        fault("takes not 1 + (((((2", 18);
        fault("takes not 1 * -----2", 18);
        fits("takes not not 1 and not not not not not 1;waits 1;minds 1;");
        fault("takes not 1 < ((((not 2", 18);
    }

    @Says("(a ( till its ) , not and - till what they belong to ends)")
    static void promise08_aMinusIsOpenTillItsOneEnds() {
        fits("takes -1*(((((2)))));waits -1+(((((2)))));minds -1<(((((2)))));");
        fits("takes -----1*-----2;waits -(1)+-----2;minds -((((2))));");
        fault("takes -(((((2", 11);
        fits("takes (((((1-2)))));waits (((((1-2-3)))));minds 1;");
        fault("takes (((((1- -2", 14);
    }

    // ---- promise 8: what an E is

    @Says("An E is an int (32 bits, wrapping)")
    static void promise08_sumsWrap() {
        // 2048 * 2048 * 512 is 2147483648, one more than the greatest
        minds("2048*2048*512 < 0", 1);
        minds("0 < 2048*2048*512 - 1", 1);
        minds("2048*2048*512 - 1 + 1 < 0", 1);
        minds("2048*2048*512 - 1 = 0 - 2048*2048*512 - 1", 1);
        minds("2048*2048*512 + 2048*2048*512 = 0", 1);
        minds("0 < 2048*2048*512 - 1 - 1", 1);
    }

    @Says("An E is an int (32 bits, wrapping)")
    static void promise08_productsWrap() {
        minds("2048*2048*1024 = 0", 1);
        minds("9999*9999*9999 < 0", 1);
        minds("9999*9999*9999 + 9999*9999*10 + 9999*2755 + 3035", 321);
        minds("(2048*2048*512)*(2048*2048*512) = 0", 1);
        minds("(2048*2048*512 - 1)*(2048*2048*512 - 1)", 1);
    }

    @Says("An E is an int (32 bits, wrapping)")
    static void promise08_theLeastOfAllIsItsOwnMinus() {
        minds("-(2048*2048*512) < 0", 1);
        minds("-(2048*2048*512) = 2048*2048*512", 1);
        minds("-(2048*2048*512 - 1) < 0", 1);
        minds("-(0 - 2048*2048*512 + 1) < 0", 0);
    }

    @Says("An E is an int (32 bits, wrapping)")
    static void promise08_theLeastIsLessThanTheGreatest() {
        minds("2048*2048*512 < 2048*2048*512 - 1", 1);
        minds("2048*2048*512 - 1 < 2048*2048*512", 0);
        minds("0 - 1 < 2048*2048*512 - 1", 1);
    }

    @Says("of or, and, not, <, = 1 or 0 (what is not 0 is true)")
    static void promise08_whatIsNotZeroIsTrue() {
        minds("not 0", 1);
        minds("not 1", 0);
        minds("not 2", 0);
        minds("not - 1", 0);
        minds("not 2048*2048*512", 0);
        minds("not 2048*2048*1024", 1);
        int[] of = {-2, -1, 0, 1, 2};
        for (int a : of) {
            minds("5 + (not " + a + ")", a == 0 ? 6 : 5);
            for (int b : of) {
                minds("5 + (" + a + " or " + b + ")", a != 0 || b != 0 ? 6 : 5);
                minds("5 + (" + a + " and " + b + ")", a != 0 && b != 0 ? 6 : 5);
                minds("5 + (" + a + " < " + b + ")", a < b ? 6 : 5);
                minds("5 + (" + a + " = " + b + ")", a == b ? 6 : 5);
            }
        }
        minds("2 and - 1", 1);
        minds("2 and 0", 0);
        minds("0 or - 5", 1);
        minds("0 or 0", 0);
        minds("(3 < 4) + (4 < 4) * 2 + (4 = 4) * 4 + (5 = 4) * 8", 5);
    }

    @Says("NAMES: base more slow wait said letter.")
    static void promise08_names() {
        minds("base", 42);
        minds("more", 7);
        minds("slow", 0);
        minds("wait", 8);
        minds("said", 9);
        minds("letter", 3);
    }
}

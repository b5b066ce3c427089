/** Promise 8 and Terms 1: what a text says, and where its fault is. */
public final class TextTest {
    private static final Due due = new Due("TextTest");

    public static void main(String[] args) {
        sums();
        truths();
        names();
        bounds();
        tokens();
        faults();
        depth();
        due.end();
    }

    /** What minds E is for one with base 42, more 7, letter 3, waiting 8, being told 9. */
    private static void minds(String e, int want) {
        NumbersCalled x = new NumbersCalled();
        x.counter(8, 5);
        x.pull(0, 3427, 0);
        due.is("text of " + e, Due.text(x, "takes 1;waits 1;minds " + e + ";"), 1);
        x.force(1);
        due.is("minds " + e, x.asks(0, 0, 8, 9, 2), want);
    }

    private static void fault(String text, int place) {
        NumbersCalled x = new NumbersCalled();
        due.is("text of " + text, Due.text(x, text), -100 - place);
        due.is("count(5) behind " + text, x.count(5), 1);
        due.is("count(7) behind " + text, x.count(7), 0);
    }

    private static void sums() {
        minds("2 + 3 * 4", 14);
        minds("(2 + 3) * 4", 20);
        minds("2 * 3 + 4", 10);
        minds("20 - 3 - 2", 15);
        minds("20 - (3 - 2)", 19);
        minds("20 - 3 + 2", 19);
        minds("2 * 3 * 4", 24);
        minds("- 5 + 8", 3);
        minds("- - 5", 5);
        minds("8 - - 2", 10);
        minds("- 2 * - 3", 6);
        minds("-(2 - 9)", 7);
        minds("0012", 12);
        minds("9999 - 9998", 1);
        // 9999 * 9999 * 9999 is -1027349969 in 32 bits
        minds("9999*9999*9999 < 0", 1);
        minds("9999*9999*9999 + 9999*9999*10 + 9999*2755 + 3035", 321);
        minds("0 - 9999*9999*9999 - 9999*9999*10 - 9999*2755 - 2000", 714);
        // 2147483647 is 4194304 * 512 less 1; one more is the least
        minds("2048*2048*512 < 0", 1);
        minds("2048*2048*512 - 1 < 0", 0);
        minds("- 2048*2048*512 < 0", 1);
    }

    private static void truths() {
        minds("1 < 2", 1);
        minds("2 < 2", 0);
        minds("3 < 2", 0);
        minds("- 3 < 2", 1);
        minds("2 = 2", 1);
        minds("2 = 3", 0);
        minds("1 + 1 = 2", 1);
        minds("5 < 2 + 4", 1);
        minds("(1 < 2) + (2 < 3) * 4", 5);
        minds("not 0", 1);
        minds("not 5", 0);
        minds("not not 5", 1);
        minds("not 1 < 0", 1);
        minds("not 0 = 1", 1);
        minds("not 0 and 0", 0);
        minds("not 1 or 1", 1);
        minds("2 and 4", 1);
        minds("2 and 0", 0);
        minds("0 and 2", 0);
        minds("0 or 7", 1);
        minds("7 or 0", 1);
        minds("0 or 0", 0);
        minds("- 1 or 0", 1);
        minds("1 or 0 and 0", 1);
        minds("(1 or 0) and 0", 0);
        minds("0 and 0 or 1", 1);
        minds("0 or 0 or 3", 1);
        minds("1 and 1 and 0", 0);
        minds("(not 0) * 5", 5);
        minds("(2 or 0) + (3 and 4)", 2);
    }

    private static void names() {
        minds("base", 42);
        minds("more", 7);
        minds("wait", 8);
        minds("said", 9);
        minds("letter", 3);
        minds("slow", 0);
        NumbersCalled x = new NumbersCalled();
        x.counter(1, 6);
        x.pull(2, 1203, 0);
        Due.law(x, "takes slow + said;waits (slow + said + wait) * 0 + 5;minds slow + said;");
        due.is("slow of takes", x.asks(0, 0, 3, 4, 0), 6);
        due.is("said of minds alone", x.asks(0, 0, 3, 4, 2), 4);
        due.is("waits 5", x.asks(0, 0, 5, 4, 1), 1);
        due.is("waits 5, 6", x.asks(0, 0, 6, 4, 1), 0);
        Due.law(x, "takes wait;waits wait * 0 + slow + said + 2;minds letter;");
        due.is("wait of takes", x.asks(0, 0, 33, 4, 0), 33);
        due.is("neither slow nor said of waits", x.asks(0, 0, 2, 400, 1), 1);
        due.is("neither slow nor said of waits, 3", x.asks(0, 0, 3, 400, 1), 0);
        due.is("letter: the one that is pulled", x.asks(0, 0, 0, 0, 2), 1);
        Due.law(x, "takes base + more;waits wait - 1;minds 1;");
        due.is("base, more of takes", x.asks(0, 0, 0, 0, 0), 23);
        due.is("waits wait - 1, at 0: 0 at least", x.asks(0, 0, 0, 0, 1), 1);
        due.is("waits wait - 1, at 1", x.asks(0, 0, 1, 0, 1), 0);
    }

    private static void bounds() {
        minds("0 - 1", 0);
        minds("999", 999);
        minds("1000", 999);
        NumbersCalled x = new NumbersCalled();
        x.counter(1, 6);
        x.pull(0, 200, 0);
        Due.law(x, "takes 0;waits 0 - 5;minds 0;");
        due.is("takes 0", x.asks(0, 0, 0, 0, 0), 1);
        due.is("waits - 5, at 0", x.asks(0, 0, 0, 0, 1), 1);
        due.is("waits - 5, at 1", x.asks(0, 0, 1, 0, 1), 0);
        Due.law(x, "takes 60;waits 998;minds 0;");
        due.is("takes 60", x.asks(0, 0, 0, 0, 0), 60);
        due.is("waits 998, at 998", x.asks(0, 0, 998, 0, 1), 1);
        due.is("waits 998, at 999", x.asks(0, 0, 999, 0, 1), 0);
        Due.law(x, "takes 61;waits 9999;minds 0;");
        due.is("takes 61", x.asks(0, 0, 0, 0, 0), 60);
        due.is("waits 9999, at 999", x.asks(0, 0, 999, 0, 1), 1);
        Due.law(x, "takes 0 - 8;waits 1;minds 0;");
        due.is("takes - 8", x.asks(0, 0, 0, 0, 0), 1);
    }

    private static void tokens() {
        NumbersCalled x = new NumbersCalled();
        due.is("as close as can be", Due.text(x, "takes(1)+base;waits-1;minds(said);"), 1);
        due.is("a word ends at a digit", Due.text(x, "takes1;waits2;minds3;"), 2);
        due.is("blanks anywhere", Due.text(x, "  takes\n1\n\n; waits 2;minds 3 ; \n "), 3);
        due.is("no blanks", Due.text(x, "takes not 1<2;waits 1=2or 3;minds 1*2;"), 4);
        NumbersCalled y = new NumbersCalled();
        String longest = "takes 1;waits 1;minds 1";
        StringBuilder b = new StringBuilder(longest);
        while (b.length() < 159) {
            b.append(b.length() % 2 == 1 ? '+' : '1');
        }
        b.append(';');
        due.is("160 bytes", Due.text(y, b.toString()), 1);
        y.counter(1, 0);
        y.pull(0, 10, 0);
        y.force(1);
        due.is("160 bytes, minds", y.asks(0, 0, 0, 0, 2), 69);
    }

    private static void faults() {
        fault("", 0);
        fault("   ", 3);
        fault("takes", 5);
        fault("takes 1", 7);
        fault("takes 1 \n", 9);
        fault("takes 1 ;", 9);
        fault("takes 1 ; waits 2 ; minds 3", 27);
        fault("takes 1 ; waits 2 ; minds 3 ; ; ", 30);
        fault("takes 1;waits 2;minds 3;takes", 24);
        fault("waits 1;", 0);
        fault("takes 1;minds 1;", 8);
        fault("takes 1;waits 1;waits 1;", 16);
        fault("take 1;", 0);
        fault("lakes 1;", 0);
        fault("takes case;", 6);
        fault("takes vase;", 6);
        fault("takess 1;", 0);
        fault("letters", 0);
        fault("takes letters ;", 6);
        fault("takes lette ;", 6);
        fault("takes a ;", 6);
        fault("takes orr ;", 6);
        fault("takes 1 an 1;", 8);
        fault("takes basebase;", 6);
        fault("takes waits ;", 6);
        fault("takes or ;", 6);
        fault("takes 1 base;", 8);
        fault("takes base1;", 10);
        fault("takes 1base;", 7);
        fault("takes 12345 ;", 6);
        fault("takes 00001 ;", 6);
        fault("takes 1 12345 ;", 8);
        fault("takes 12345", 6);
        fault("takes 1 2;", 8);
        fault("takes ;", 6);
        fault("takes ) ;", 6);
        fault("takes 1 ) ;", 8);
        fault("takes ( 1 ;", 10);
        fault("takes ( ) ;", 8);
        fault("takes ( 1", 9);
        fault("takes 1 and", 11);
        fault("takes 1 and ;", 12);
        fault("takes 1 and or 2;", 12);
        fault("takes 1 or ;", 11);
        fault("takes not ;", 10);
        fault("takes 1 + ;", 10);
        fault("takes 1 + + 1;", 10);
        fault("takes + 1;", 6);
        fault("takes * 1;", 6);
        fault("takes 1 * ;", 10);
        fault("takes 1 * * 2;", 10);
        fault("takes - ;", 8);
        fault("takes - + 1;", 8);
        fault("takes < 1;", 6);
        fault("takes 1 < ;", 10);
        fault("takes 1 < 2 < 3;", 12);
        fault("takes 1 = 2 = 3;", 12);
        fault("takes 1 < 2 = 3;", 12);
        fault("takes 1 < = 3;", 10);
        fault("takes 1 + not 2;", 10);
        fault("takes - not 2;", 8);
        fault("takes 1 < not 2;", 10);
        fault("takes 1 not 2;", 8);
        fault("takes A ;", 6);
        fault("takes 1 > 2;", 8);
        fault("takes 1 / 2;", 8);
        fault("takes\t1;", 5);
        fault("takes\r1;", 5);
        fault("takes 1 ; " + (char) 0, 10);
        fault("takes 1" + (char) 255, 7);
        fault("takes 1 ? waits ?", 8);
        fault("takes `", 6);
        fault("takes {", 6);
        fault("takes /", 6);
        fault("takes :", 6);
    }

    private static void fits(String e) {
        NumbersCalled x = new NumbersCalled();
        due.is("text of " + e, Due.text(x, "takes " + e + ";waits 1;minds 1;"), 1);
    }

    private static void depth() {
        fits("(((((1)))))");
        fault("takes ((((((1", 11);
        fits("not not not not not 1");
        fault("takes not not not not not not 1;", 26);
        fits("- - - - - 1");
        fault("takes - - - - - - 1;", 16);
        fits("not ( - ( not 1 ) )");
        fault("takes not ( - ( not - 1", 20);
        fault("takes not ( - ( not ( 1", 20);
        fault("takes not ( - ( not not 1", 20);
        // what is closed counts no more
        fits("(1)+(1)+(1)+(1)+(1)+(1)+(1)");
        fits("-1 + -1 + -1 + -1 + -1 + -1 + -1");
        fits("not 1 and not 1 and not 1 and not 1 and not 1 and not 1");
        fits("not 1 or not 1 and (((((1)))))");
        fits("-1 * (((((1)))))");
        fits("-base * - - - - - 1");
        // a not is open till all that it belongs to ends
        fault("takes not 1 < ( ( ( ( ( 1", 22);
        fault("takes not 1 + 1 * ( ( ( ( ( 1", 26);
        fits("not 1 < ( ( ( ( 1 ) ) ) )");
        fault("takes - ( ( ( ( ( 1", 16);
        // a - between two is none of them
        fits("(((((1 - 2 - 3)))))");
        fault("takes (((((1 - - 3)))))", 15);
        fits("((((not 1 - 2))))");
        fault("takes (((((not 1)))))", 11);
        fault("takes (((((1 and not 1)))))", 17);
        // a token that can't stand there is the fault, however deep
        fault("takes (((((1 (", 13);
        // the deepest pile
        minds("0 or 1 and 1 < 1 + 1 * (0 or 1 and 1 < 1 + 1 * (0 or 1 and 1 < 1 + 1 * (0 or 1 and 1 < 1 + 1 *(1 or 0))))", 1);
        minds("0or 1and 1<1+1*(0or 1and 1<1+1*(0or 1and 1<1+1*(0or 1and 1<1+1*(0or 1and 1<1+1*(0or 1and 1<1+1*1)))))", 1);
        minds("6-(5-(4-(3-(2-(1-base)))))", 45);
    }
}

/** Promises 31 and 32: numbers given over. */
public final class PartsTest {
    private static final Due due = new Due("PartsTest");

    public static void main(String[] args) {
        over();
        give();
        due.end();
    }

    private static void over() {
        NumbersCalled x = new NumbersCalled();
        due.is("over(0, 50, 0)", x.over(0, 50, 0), 0);
        due.is("over(1, 50, 0)", x.over(1, 50, 0), 500000000);
        due.is("over(2, 50, 0)", x.over(2, 50, 0), 750000000);
        due.is("over(2, 50, 1)", x.over(2, 50, 1), 250000000);
        due.is("over(2, 50, 2)", x.over(2, 50, 2), 0);
        due.is("over(3, 33, 0)", x.over(3, 33, 0), 699237000);
        due.is("over(4, 1, 3)", x.over(4, 1, 3), 10);
        due.is("over(5, 1, 4): cut", x.over(5, 1, 4), 0);
        // these would be greater, were the two quotients cut together
        due.is("over(6, 7, 0)", x.over(6, 7, 0), 353009806);
        due.is("over(40, 50, 20)", x.over(40, 50, 20), 437314483);
        due.is("over(40, 37, 15)", x.over(40, 37, 15), 404254804);
        due.is("over(40, 93, 36)", x.over(40, 93, 36), 693686741);
        due.is("over(40, 99, 39)", x.over(40, 99, 39), 668971743);
        due.is("over(40, 100, 39)", x.over(40, 100, 39), 1000000000);
        due.is("over(40, 100, 40)", x.over(40, 100, 40), 0);
        due.is("over(40, 0, 0)", x.over(40, 0, 0), 0);
        long no = -4611686018427387904L;
        due.is("over(-1, 0, 0)", x.over(-1, 0, 0), no);
        due.is("over(41, 0, 0)", x.over(41, 0, 0), no);
        due.is("over(0, -1, 0)", x.over(0, -1, 0), no);
        due.is("over(0, 101, 0)", x.over(0, 101, 0), no);
        due.is("over(0, 0, -1)", x.over(0, 0, -1), no);
        due.is("over(0, 0, 41)", x.over(0, 0, 41), no);
    }

    private static void give() {
        NumbersCalled x = new NumbersCalled();
        due.is("give(50, 1, 250)", x.give(50, 1, 250), 2);
        due.is("give(50, 1, 249)", x.give(50, 1, 249), 1);
        due.is("give(50, 0, 500)", x.give(50, 0, 500), 1);
        due.is("give(50, 0, 499)", x.give(50, 0, 499), 0);
        due.is("give(100, 10, 0)", x.give(100, 10, 0), 10);
        due.is("give(100, 10, 999)", x.give(100, 10, 999), 10);
        due.is("give(100, 10, 1000)", x.give(100, 10, 1000), 40);
        due.is("give(0, 0, 0)", x.give(0, 0, 0), 40);
        due.is("give(100, 40, 0)", x.give(100, 40, 0), 40);
        due.is("give(100, 0, 0)", x.give(100, 0, 0), 0);
        due.is("give(90, 17, 676)", x.give(90, 17, 676), 19);
        due.is("give(90, 17, 677)", x.give(90, 17, 677), 20);
        due.is("give(-1, 0, 0)", x.give(-1, 0, 0), -2);
        due.is("give(101, 0, 0)", x.give(101, 0, 0), -2);
        due.is("give(0, -1, 0)", x.give(0, -1, 0), -2);
        due.is("give(0, 41, 0)", x.give(0, 41, 0), -2);
        due.is("give(0, 0, -1)", x.give(0, 0, -1), -2);
        due.is("give(0, 0, 1001)", x.give(0, 0, 1001), -2);
    }
}

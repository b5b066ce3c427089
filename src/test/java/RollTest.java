/** Promises 33 to 36: rolls. */
public final class RollTest {
    private static final Due due = new Due("RollTest");

    public static void main(String[] args) {
        judgeAndFilm();
        sorts();
        laws();
        eachLivesItsDay();
        which();
        refusals();
        due.end();
    }

    /** Ends at 10, 20; the last isn't served. */
    private static NumbersCalled three() {
        NumbersCalled x = new NumbersCalled();
        x.counter(1, 0);
        x.pull(0, 100, 0);
        x.pull(0, 100, 0);
        x.pull(0, 1100, 0);
        return x;
    }

    private static void judgeAndFilm() {
        NumbersCalled x = three();
        x.sheet(1, 2, 3);
        due.is("judge of zeros", x.judge(1), 0);
        x.cell(1, 0, 10);
        due.is("judge of 10, 0, 0", x.judge(1), 1);
        x.cell(1, 1, 20);
        due.is("judge of 10, 20, 0", x.judge(1), 2);
        x.cell(1, 2, -1);
        due.is("judge of 10, 20, -1", x.judge(1), -1);
        x.cell(1, 1, -1);
        due.is("judge of 10, -1, -1", x.judge(1), 1);
        due.is("film(2)", x.film(2), 3);
        due.is("judge of the film", x.judge(2), -1);
        due.is("the film is of ints", x.copy(1, 0, 2, 0, 3), 3);
        due.is("judge of what was copied", x.judge(2), 1);
        x.sheet(3, 0, 40);
        due.is("film over bytes", x.film(3), 3);
        due.is("judge of it", x.judge(3), -1);
        due.is("it has three places", x.cell(3, 3, 0), -12);
        due.is("it is of ints: 70000", x.cell(3, 0, 70000 + 10), 1);
        due.is("judge of it", x.judge(3), 0);
        due.is("film(-1)", x.film(-1), -2);
        due.is("film(4)", x.film(4), -2);
        NumbersCalled y = new NumbersCalled();
        due.is("film of nobody", y.film(0), 0);
        due.is("a row of none", y.cell(0, 0, 0), -12);
        due.is("judge of nobody", y.judge(0), -1);
        // what a film has stays when the hall is another one
        x.film(0);
        x.move(0, 1);
        due.is("judge of an old film", x.judge(0), 0);
    }

    private static void sorts() {
        NumbersCalled x = three();
        for (int sort = 0; sort < 3; sort++) {
            x.sheet(0, sort, 3);
            x.cell(0, 0, 10);
            x.cell(0, 1, 20);
            x.cell(0, 2, -1);
            due.is("judge by sort " + sort, x.judge(0), -1);
        }
        // 255 is -1 as a byte, 65535 as a short
        x.sheet(0, 0, 3);
        x.cell(0, 0, 256 + 10);
        x.cell(0, 1, 20 - 256);
        x.cell(0, 2, 255);
        due.is("judge, lowest 8 bits", x.judge(0), -1);
        x.sheet(0, 1, 3);
        x.cell(0, 0, 65536 + 10);
        x.cell(0, 1, 20 - 65536);
        x.cell(0, 2, 65535);
        due.is("judge, lowest 16 bits", x.judge(0), -1);
        x.cell(0, 0, 256 + 10);
        due.is("judge, 266 is a short", x.judge(0), 0);
        // an end of 130 is no byte
        x.forget();
        x.forget();
        x.move(0, 119);
        x.change(0, 1, 1);
        x.sheet(0, 0, 1);
        x.cell(0, 0, 130);
        due.is("judge, 130 as a byte", x.judge(0), 0);
        x.sheet(0, 1, 1);
        x.cell(0, 0, 130);
        due.is("judge, 130 as a short", x.judge(0), -1);
    }

    private static void laws() {
        NumbersCalled x = three();
        x.film(0);
        due.is("laws: text 0", x.laws(0), 1);
        Due.text(x, "takes 10;waits 9;minds 1;");
        Due.text(x, "takes 10;waits 10;minds 1;");
        Due.text(x, "takes 11;waits 99;minds 1;");
        Due.text(x, "takes base;waits 99;minds 2;");
        due.is("laws: texts 0, 2, 4", x.laws(0), 1 + 4 + 16);
        x.force(3);
        due.is("laws, whatever the law is", x.laws(0), 1 + 4 + 16);
        due.is("count(6), unchanged", x.count(6), 3);
        x.cell(0, 0, 9);
        due.is("laws: none", x.laws(0), 0);
        x.cell(0, 0, 11);
        x.cell(0, 1, 22);
        due.is("laws: text 3", x.laws(0), 8);
    }

    /** Each of these is the first call behind a change. */
    private static void eachLivesItsDay() {
        NumbersCalled x = three();
        x.film(0);
        x.move(0, 1);
        due.is("laws, moved", x.laws(0), 0);
        x.move(0, 0);
        due.is("laws, moved back", x.laws(0), 1);
        x.move(0, 1);
        due.is("which, moved", x.which(0), 0);
        x.move(0, 0);
        due.is("which, moved back", x.which(0), 15);
        x.move(0, 1);
        due.is("judge, moved", x.judge(0), 0);
        x.move(0, 0);
        due.is("judge, moved back", x.judge(0), -1);
        x.move(0, 1);
        x.film(1);
        due.is("film, moved", x.judge(1), -1);
    }

    private static void which() {
        NumbersCalled x = new NumbersCalled();
        x.counter(1, 0);
        x.pull(0, 309, 0);
        x.pull(4, 209, 0);
        x.pull(3, 109, 0);
        x.pull(0, 59, 0);
        for (int who = 0; who < 4; who++) {
            x.set(0, who);
            x.film(0);
            x.set(0, 3 - who);
            due.is("which: " + who, x.which(0), 1 << who);
            due.is("count(0), unchanged", x.count(0), 3 - who);
        }
        x.cell(0, 3, 0);
        due.is("which: none", x.which(0), 0);
        while (x.forget() > 1) {
            x.count(4);
        }
        x.film(0);
        due.is("which: all", x.which(0), 15);
    }

    private static void refusals() {
        NumbersCalled x = three();
        x.sheet(1, 2, 2);
        x.sheet(2, 2, 4);
        for (int s : new int[] {-1, 4}) {
            due.is("judge(" + s + ")", x.judge(s), -2);
            due.is("laws(" + s + ")", x.laws(s), -2);
            due.is("which(" + s + ")", x.which(s), -2);
        }
        due.is("judge, missing", x.judge(0), -11);
        due.is("laws, missing", x.laws(0), -11);
        due.is("which, missing", x.which(0), -11);
        for (int s = 1; s < 3; s++) {
            due.is("judge, size", x.judge(s), -2);
            due.is("laws, size", x.laws(s), -2);
            due.is("which, size", x.which(s), -2);
        }
        NumbersCalled y = new NumbersCalled();
        due.is("judge, missing, nobody there", y.judge(0), -11);
        due.is("laws, missing, nobody there", y.laws(0), -11);
        due.is("which, missing, nobody there", y.which(0), -11);
    }
}

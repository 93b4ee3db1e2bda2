/** Promises 27 to 34: deeds, the image, changes undone and done again. */
public final class DeedTest {
    private static final Due DUE = new Due("DeedTest");
    private static final int VOID = -2000000000;

    public static void main(String[] args) {
        find();
        pay();
        give();
        led();
        image();
        undo();
        keptAtMost();
        undoAndDeeds();
        DUE.end();
    }

    private static FellInField night() {
        FellInField x = new FellInField();
        x.field(0, 2010);
        x.mend(0, 4, 0);
        x.fall(0, 100);
        x.fall(1, 200);
        x.fall(399, 300);
        x.fall(2, 900);
        x.cry(1, 100);
        x.cry(1, 200);
        x.cry(2, 200);
        x.cry(3, 300);
        return x;
    }

    private static void find() {
        FellInField x = night();
        DUE.is("no such fall", x.find(4), -1);
        DUE.is("no such fall", x.find(-1), -1);
        DUE.is("alone", x.find(0), 12);
        DUE.is("found", x.find(0), -5);
        DUE.is("0 owes 1", x.led(101), 12);
        DUE.is("of 14", x.of(0, 14), 1);
        DUE.is("of 14", x.of(1, 14), 0);
        DUE.is("halves", x.find(1), 12);
        DUE.is("0 owes 1", x.led(101), 18);
        DUE.is("0 owes 2", x.led(102), 6);
        DUE.is("no finder", x.find(2), 0);
        DUE.is("no cry", x.find(3), 0);
        DUE.is("found all the same", x.find(3), -5);
        DUE.is("found ones", x.led(0), 4);
        x.mend(0, 10, 5);
        x.mend(0, 4, 4);
        DUE.is("what is done stays", x.led(101), 18);
        FellInField five = new FellInField();
        five.field(0, 101);
        five.mend(0, 4, 4);
        five.fall(0, 0);
        for (int who = 0; who < 5; who++) {
            five.cry(who, 0);
        }
        Due.tell(five, "1");
        DUE.is("fifths, cut, its own none", five.find(0), 8);
        DUE.is("itself", five.led(144), 0);
    }

    private static void pay() {
        FellInField x = night();
        DUE.is("owes in thought alone", x.pay(1, 1), -5);
        x.find(0);
        DUE.is("more than it owes", x.pay(1, 13), -5);
        DUE.is("the other way", x.pay(10, 1), -5);
        DUE.is("part", x.pay(1, 5), 7);
        DUE.is("rest", x.pay(1, 7), 0);
        DUE.is("nothing left", x.pay(1, 1), -5);
        DUE.is("payments", x.led(1), 2);
        DUE.is("paid", x.led(2), 12);
        for (int[] w : new int[][] {{0, 1}, {11, 1}, {6, 1}, {60, 1}, {-1, 1}, {-10, 1}, {1, 0}, {1, -1}, {1, 1000},
            {1, Integer.MIN_VALUE}}) {
            DUE.is("pay(" + w[0] + ", " + w[1] + ")", x.pay(w[0], w[1]), -1);
        }
        DUE.is("999 may be", x.pay(1, 999), -5);
        DUE.is("payments", x.led(1), 2);
    }

    private static void give() {
        FellInField x = night();
        DUE.is("was 0's", x.give(0, 3), 0);
        DUE.is("is 3's", x.of(0, 4), 3);
        DUE.is("finder", x.whose(0, 1), 3);
        DUE.is("to nobody", x.give(0, -1), 3);
        DUE.is("from nobody", x.give(0, 5), -1);
        DUE.is("to itself", x.give(0, 5), 5);
        DUE.is("gifts", x.led(3), 4);
        DUE.is("no change", x.count(4), 1);
        DUE.is("no such field", x.give(1, 0), VOID);
        DUE.is("no such field", x.give(-1, 0), VOID);
        DUE.is("no such one", x.give(0, 6), VOID);
        DUE.is("no such one", x.give(0, -2), VOID);
        DUE.is("gifts", x.led(3), 4);
    }

    private static void led() {
        FellInField x = night();
        for (int what : new int[] {-1, 4, 99, 106, 116, 156, 160, 200, Integer.MAX_VALUE, Integer.MIN_VALUE}) {
            DUE.is("led(" + what + ")", x.led(what), -1);
        }
        for (int a = 0; a < 6; a++) {
            for (int b = 0; b < 6; b++) {
                DUE.is("led at first", x.led(100 + 10 * a + b), 0);
            }
        }
    }

    private static void image() {
        FellInField bare = new FellInField();
        DUE.is("without fields", bare.image(), 0);
        DUE.is("without fields", bare.back(), 0);
        FellInField x = night();
        DUE.is("none", x.back(), -5);
        x.find(0);
        x.pay(1, 2);
        x.give(0, 5);
        DUE.is("kept", x.image(), 1);
        x.find(1);
        x.find(3);
        x.pay(1, 3);
        x.give(0, 4);
        x.mend(0, 4, 3);
        x.field(0, 2020);
        x.give(1, 2);
        x.fall(5, 5);
        x.find(4);
        x.mend(0, 5, 77);
        DUE.is("laid back", x.back(), 1);
        int[] led = {1, 1, 2, 1};
        for (int what = 0; what < 4; what++) {
            DUE.is("led(" + what + ")", x.led(what), led[what]);
        }
        DUE.is("owed in deed", x.led(101), 10);
        DUE.is("nothing by 5", x.led(151), 0);
        DUE.is("owner", x.of(0, 4), 5);
        DUE.is("field since", x.of(1, 4), 2);
        DUE.is("price stays", x.of(0, 5), 77);
        int[] found = {1, 0, 0, 0, 0};
        for (int fall = 0; fall < 5; fall++) {
            DUE.is("found " + fall, x.of(fall, 14), found[fall]);
        }
        DUE.is("found again", x.find(1), 12);
        DUE.is("again", x.back(), 1);
        DUE.is("another image", x.give(1, -1), 2);
        DUE.is("another image", x.image(), 1);
        x.give(1, 3);
        x.back();
        DUE.is("of the later image", x.of(1, 4), -1);
        DUE.is("gifts of it", x.led(3), 2);
    }

    private static void undo() {
        FellInField x = night();
        DUE.is("none to redo", x.redo(), -5);
        x.mend(0, 5, 20);
        x.mend(0, 8, 111);
        x.mend(3, 13, 9);
        DUE.is("four", x.count(4), 4);
        DUE.is("the same is none", x.mend(3, 13, 9), 9);
        DUE.is("wrong is none", x.mend(3, 13, 10), VOID);
        DUE.is("four", x.count(4), 4);
        DUE.is("undo", x.undo(), 3);
        DUE.is("LOUD", x.of(3, 13), 5);
        DUE.is("undo", x.undo(), 2);
        DUE.is("MINUTE", x.of(0, 8), 100);
        DUE.is("undo", x.undo(), 1);
        DUE.is("PRICE", x.of(0, 5), 10);
        DUE.is("the same is none", x.mend(0, 5, 10), 10);
        DUE.is("redo", x.redo(), 2);
        DUE.is("PRICE", x.of(0, 5), 20);
        DUE.is("redo", x.redo(), 1);
        DUE.is("MINUTE", x.of(0, 8), 111);
        DUE.is("undo", x.undo(), 2);
        DUE.is("another behind", x.mend(0, 8, 5), 100);
        DUE.is("no redo", x.redo(), -5);
        DUE.is("three", x.count(4), 3);
        DUE.is("undo", x.undo(), 2);
        DUE.is("undo", x.undo(), 1);
        DUE.is("undo", x.undo(), 0);
        DUE.is("OWNER", x.of(0, 4), -1);
        DUE.is("none", x.undo(), -5);
        for (int left = 2; left >= 0; left--) {
            DUE.is("redo", x.redo(), left);
        }
        DUE.is("none", x.redo(), -5);
        DUE.is("MINUTE", x.of(0, 8), 5);
    }

    private static void keptAtMost() {
        FellInField x = new FellInField();
        x.field(0, 101);
        for (int price = 11; price <= 55; price++) {
            x.mend(0, 5, price);
            DUE.is("kept", x.count(4), Math.min(price - 10, 40));
        }
        for (int left = 39; left >= 0; left--) {
            DUE.is("undo", x.undo(), left);
            DUE.is("PRICE", x.of(0, 5), 15 + left);
        }
        DUE.is("none", x.undo(), -5);
        for (int left = 39; left >= 0; left--) {
            DUE.is("redo", x.redo(), left);
            DUE.is("PRICE", x.of(0, 5), 55 - left);
        }
        DUE.is("none", x.redo(), -5);
        manyThings();
    }

    /** More changes than are kept, of several things: each is undone where it was done. */
    private static void manyThings() {
        FellInField x = new FellInField();
        for (int i = 0; i < 3; i++) {
            x.field(0, 101);
            x.cry(0, 0);
        }
        int[] numbers = {0, 1, 2};
        int[] whats = {5, 11, 0, 13};
        int[] was = new int[50];
        for (int i = 0; i < 50; i++) {
            was[i] = x.mend(numbers[i % 3], whats[i % 4], 1 + i % 9);
            DUE.holds("a change", was[i] != 1 + i % 9);
        }
        for (int i = 49; i >= 10; i--) {
            x.undo();
            DUE.is("undone", x.of(numbers[i % 3], whats[i % 4]), was[i]);
        }
        DUE.is("none", x.undo(), -5);
        for (int i = 10; i < 50; i++) {
            x.redo();
            DUE.is("done again", x.of(numbers[i % 3], whats[i % 4]), 1 + i % 9);
        }
    }

    private static void undoAndDeeds() {
        FellInField x = new FellInField();
        x.field(0, 101);
        x.mend(0, 4, 1);
        x.image();
        x.give(0, 2);
        DUE.is("undo the change behind a gift", x.undo(), 0);
        DUE.is("what it was", x.of(0, 4), -1);
        DUE.is("a gift is no change", x.give(0, 3), -1);
        DUE.is("so redo still is", x.redo(), 0);
        DUE.is("what it became", x.of(0, 4), 1);
        x.undo();
        x.back();
        DUE.is("owner of the image", x.of(0, 4), 1);
        DUE.is("changes stay", x.redo(), 0);
        x.undo();
        Due.tell(x, "1");
        x.field(5, 101);
        x.fall(5, 5);
        x.cry(1, 1);
        DUE.is("what comes is no change", x.redo(), 0);
    }
}

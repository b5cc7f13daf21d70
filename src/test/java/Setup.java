/** States that several tests begin from. */
final class Setup {
    private Setup() {
    }

    /** Some of everything, with three lines told that sum to nothing; month 0 and 1 are closed. */
    static void some(ShopLedger x) {
        x.line(0, 1, 1, 700);
        x.line(3, 2, 2, -700);
        x.put();
        x.correct(4, 5, 6, 7, 80);
        x.close();
        x.close();
        x.line(0, 0, 2, 5);
        x.line(1, 1, 3, 6);
        x.line(2, 2, 4, -11);
        x.weight(2, 5);
        x.weight(6, 2);
        x.stock(1, 10, 3);
        x.stock(1, 20, 4);
        x.take(1, 4);
        x.rate(2, 100, 12_345);
        x.rate(2, 200, 23_456);
        x.piece(1, 3);
        x.piece(1, 4);
    }

    static void lines(ShopLedger x, int pairs) {
        for (int i = 0; i < pairs; i++) {
            x.line(i % 8, 7 - i % 8, 11 - i % 12, 1 + i);
            x.line(7 - i % 8, i % 8, i % 12, -1 - i);
        }
    }

    /** Corrections of one cent, two entries each. */
    static void corrections(ShopLedger x, int count) {
        for (int i = 0; i < count; i++) {
            x.correct(0, 1, 0, 11, 1);
        }
    }

    static void close(ShopLedger x, int months) {
        for (int i = 0; i < months; i++) {
            x.close();
        }
    }
}

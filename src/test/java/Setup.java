/** States that several tests begin from. */
final class Setup {
    private Setup() {
    }

    /** Some of everything, all months open; the three lines told sum to nothing. */
    static void open(ShopLedger x) {
        x.line(0, 1, 1, 700);
        x.line(3, 2, 2, -700);
        x.put();
        x.correct(4, 5, 6, 7, 80);
        x.line(0, 0, 2, 5);
        x.line(1, 1, 3, 6);
        x.line(2, 2, 4, -11);
        x.weight(2, 5);
        x.weight(6, 2);
        x.stock(1, 10, 3);
        x.stock(1, 20, 4);
        x.take(1, 4);
        x.rate(2, 100, 12_345);
        x.rate(2, 200, 23_456);
        x.piece(1, 3);
        x.piece(1, 4);
    }

    /** The same with months 0 and 1 closed; batch 0 and the correction, 1, can be reversed. */
    static void some(ShopLedger x) {
        open(x);
        close(x, 2);
    }

    /** All that has a limit is full: 200 entries, 16 lines, 12 closed months, layers, rates, pieces. */
    static void full(ShopLedger x) {
        corrections(x, 100);
        lines(x, 8);
        close(x, 12);
        layers(x, 1);
        rates(x, 1);
        pieces(x);
    }

    static void lines(ShopLedger x, int pairs) {
        for (int i = 0; i < pairs; i++) {
            x.line(i % 8, 7 - i % 8, 11 - i % 12, 1 + i);
            x.line(7 - i % 8, i % 8, i % 12, -1 - i);
        }
    }

    /** Corrections of one cent, two entries each. */
    static void corrections(ShopLedger x, int count) {
        for (int i = 0; i < count; i++) {
            x.correct(0, 1, 0, 11, 1);
        }
    }

    /** A batch of so many lines, two or more, that sum to nothing. */
    static void tell(ShopLedger x, int lines) {
        for (int i = 1; i < lines; i++) {
            x.line(i % 8, 0, 11, 1);
        }
        x.line(0, 0, 11, 1 - lines);
    }

    /** So many entries, two or more, in as few calls as can be. */
    static void entries(ShopLedger x, int count) {
        if (count % 2 == 1) {
            tell(x, 3);
            x.put();
        }
        corrections(x, count / 2 - count % 2);
    }

    static void close(ShopLedger x, int months) {
        for (int i = 0; i < months; i++) {
            x.close();
        }
    }

    /** Twelve layers, each of other pieces and cents. */
    static void layers(ShopLedger x, int stock) {
        for (int i = 1; i <= 12; i++) {
            x.stock(stock, i, 13 - i);
        }
    }

    /** Ten rates, each other than the ones before it, on days 0, 10, .. 90. */
    static void rates(ShopLedger x, int money) {
        for (int i = 0; i < 10; i++) {
            x.rate(money, 10 * i, 10_000 + i);
        }
    }

    /** Ten pieces of orders 0 to 4, two each. */
    static void pieces(ShopLedger x) {
        for (int i = 0; i < 10; i++) {
            x.piece(i / 2, i + 1);
        }
    }

    /** Gives an order a balance, and order 7 the same turned round. */
    static void balance(ShopLedger x, int order, int cents) {
        x.line(0, order, 0, cents);
        x.line(0, 7, 0, -cents);
        x.put();
    }

    /** 200 entries of the largest sums: account, order and month 0 get them, the last ones lose them. */
    static void largest(ShopLedger x) {
        for (int batch = 0; batch < 13; batch++) {
            for (int i = 0; i < (batch < 12 ? 8 : 4); i++) {
                x.line(0, 0, 0, 1_000_000_000);
                x.line(7, 7, 11, -1_000_000_000);
            }
            x.put();
        }
    }
}

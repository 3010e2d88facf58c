/** Rooms that several tests are looked at in, and short ways to fill THE TAPE and SHEETS. */
final class Rooms {
    private Rooms() {
    }

    /** ITEMS are read one by one, as together they may be longer than THE TAPE. */
    static LaughTax room(String text) {
        LaughTax x = new LaughTax();
        for (String item : text.split(";")) {
            int items = read(x, item);
            if (items != 1) {
                throw new IllegalStateException("'" + item + "' of a room answered " + items);
            }
        }
        return x;
    }

    static int read(LaughTax x, String text) {
        put(x, text);
        return x.text();
    }

    /** Four bytes a call, as an object has 512 calls. */
    static void put(LaughTax x, String text) {
        for (int from = 0; from < text.length(); from += 4) {
            int n = Math.min(4, text.length() - from);
            int bytes = 0;
            for (int i = 0; i < n; i++) {
                bytes = bytes << 8 | text.charAt(from + i) & 255;
            }
            x.feed(bytes, n);
        }
    }

    static void sheetOf(LaughTax x, int s, int bits, int... numbers) {
        x.sheet(s, bits, numbers.length);
        for (int i = 0; i < numbers.length; i++) {
            x.write(s, i, numbers[i]);
        }
    }

    static LaughTax empty() {
        return new LaughTax();
    }

    /** Something of everything, and no two alike: an image that isn't how it is now, findings, half a TEXT. */
    static LaughTax some() {
        LaughTax x = new LaughTax();
        x.person(0, 0);
        x.person(6, 2);
        x.person(3, 15);
        x.person(5, 2);
        x.change(0, 2, 9);
        x.change(0, 3, 8);
        x.change(1, 4, 0);
        x.change(2, 4, 77);
        x.joke(9, 3);
        x.joke(63, 1);
        x.law(0, 2);
        x.law(1, 5);
        x.hold(3, 2);
        x.seed(77);
        x.evening(0, 2);
        x.image();
        x.person(4, 7);
        x.joke(1, 9);
        x.law(0, 1);
        x.evening(2, 3);
        x.hold(0, 1);
        x.hold(9, 4);
        x.seed(-5);
        return furnished(x);
    }

    /** Three SHEETS, half a TEXT, two findings. */
    private static LaughTax furnished(LaughTax x) {
        sheetOf(x, 0, 8, 1, 2, 3, 4, 5);
        sheetOf(x, 1, 16, 7, 6);
        sheetOf(x, 2, 8, 15, 0, 3);
        put(x, "rate 1");
        x.tell(99);
        x.load(3);
        return x;
    }

    /** Something of everything but PEOPLE. */
    static LaughTax withoutPeople() {
        LaughTax x = room("joke 9 3;joke 63 1;rate 4");
        x.tell(1);
        x.image();
        x.tell(0);
        x.seed(-5);
        x.law(1, 7);
        return furnished(x);
    }

    /** Something of everything but JOKES; nobody LAUGHS without FUN. */
    static LaughTax withoutJokes() {
        LaughTax x = room("hearer on 3;fool on 5;hearer on 7 mood 7;reach 0");
        x.hold(4, 1);
        x.image();
        x.seed(-5);
        x.change(2, 4, 9);
        return furnished(x);
    }

    /** As many of PEOPLE, JOKES and bytes of THE TAPE as there may be; the SHEETS are as long as can be. */
    static LaughTax full() {
        LaughTax x = new LaughTax();
        for (int i = 0; i < 8; i++) {
            x.person(i % 7, 2 * i);
            x.change(i, 2, 8 * i);
            x.joke(63 - i, i + 1);
        }
        for (int spot = 0; spot < 10; spot++) {
            x.hold(spot, spot % 8);
        }
        for (int s = 0; s < 4; s++) {
            x.sheet(s, s == 3 ? 32 : 8, 40);
            x.write(s, 39, s);
        }
        x.image();
        x.evening(7, 2);
        for (int i = 0; i < 30; i++) {
            x.feed(0x72617465, 4);
        }
        return x;
    }

    /** Gigglers on 0, 2, 4, 6: only the first likes the JOKE, the others catch it one by one. */
    static LaughTax chain() {
        return room("giggler taste 2 mood 0;giggler on 2 mood 0;giggler on 4 mood 0;giggler on 6 mood 0;joke 2 9");
    }

    /** One that may pay, beside a fool. */
    static LaughTax payer() {
        return room("hearer on 1 mood 3;fool on 2;joke 7 6;joke 8 9;rate 10");
    }

    /** One unit is paid each time. */
    static LaughTax slow(int purse) {
        LaughTax x = room("inspector taste 63 mood 9;hearer taste 0 mood 0;joke 63 9;rate 10");
        x.change(0, 4, purse);
        return x;
    }

    /** Eight aunts on one SEAT, who like all and owe 910 each. */
    static LaughTax aunts() {
        LaughTax x = new LaughTax();
        for (int p = 0; p < 8; p++) {
            x.person(3, 7);
            x.change(p, 2, 63);
        }
        x.joke(63, 9);
        x.law(0, 20);
        return x;
    }

    /** THE TREASURY is full, and eight aunts are left with some PURSE. */
    static LaughTax fullTreasury() {
        LaughTax x = aunts();
        for (int i = 0; i < 13; i++) {
            for (int p = 0; p < 8; p++) {
                x.change(p, 4, 9999);
            }
            x.evening(0, 60);
        }
        return x;
    }

    /** TOLD as often as is asked for. Beyond 512 calls nothing is promised; the class keeps its word all the same. */
    static LaughTax told(int times) {
        LaughTax x = room("hearer;joke 1 1");
        x.image();
        for (int left = times; left > 0; left -= Math.min(60, left)) {
            x.evening(0, Math.min(60, left));
        }
        return furnished(x);
    }
}

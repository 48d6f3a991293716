/** The bounds of resources and stores, of place() and of sum(); each test bears the sentence of the document. */
public final class PlaceBoundsTest {
    private static final int NONE = EventHall.NONE, NO_PLACE = -2;
    private static final int LEAST = Integer.MIN_VALUE, GREATEST = Integer.MAX_VALUE;

    private PlaceBoundsTest() {
    }

    public static void main(String[] args) {
        seizeOfTheLastUnit();
        seizeWithoutPriority();
        seizeBehindTheSameOrALesser();
        seizeOfTheUtmostPriorities();
        freeToTheFirst();
        freeToNobody();
        getOfWhatIsThere();
        putOfWhatThereIsRoomFor();
        getOfLessThan1OrMoreThanTheRoom();
        putOfLessThan1OrMoreThanTheRoom();
        gettersBeforePutters();
        servedAgainAndAgain();
        allAreServed();
        theFirstAloneIsServed();
        servedInItsOwnStatement();
        servedWhenOneLeaves();
        placeOfNoneSuch();
        placeOfNoSuchNumber();
        theKthThatWaits();
        thoseThatWereServed();
        theMostThatWaited();
        theMostThatWaitedInAll();
        sumOfNoneSuch();
        sumsUpToNow();
        sumsOfTheUtmost();
        timesWaited();
        waitedNoTime();
        Due.close();
    }

    /** place(r, 0) to place(r, 5). */
    private static void isPlace(EventHall hall, int r, int... want) {
        for (int what = 0; what < want.length; what++) {
            Due.is("place(" + r + ", " + what + ")", hall.place(r, what), want[what]);
        }
    }

    private static void isLine(EventHall hall, int r, int... want) {
        Due.is("those that wait at " + r, hall.place(r, 1), want.length);
        for (int k = 0; k < want.length; k++) {
            Due.is("place(" + r + ", " + (10 + k) + ")", hall.place(r, 10 + k), want[k]);
        }
        Due.is("none behind the last", hall.place(r, 10 + want.length), NO_PLACE);
    }

    private static void isSum(EventHall hall, int r, long... want) {
        for (int what = 0; what < want.length; what++) {
            Due.is("sum(" + r + ", " + what + ")", hall.sum(r, what), want[what]);
        }
    }

    private static void startAll(EventHall hall, int d, int... values) {
        for (int value : values) {
            hall.start(d, value, 0, 0, 0);
        }
    }

    /** "seize: .. if a unit is free, it has one and goes on; else it waits" */
    private static void seizeOfTheLastUnit() {
        for (int units : new int[] {1, 2, 99}) {
            EventHall hall = Due.hall("resource r " + units + "; process p(n) { while n { seize r; n = n - 1; } say 1; hold 1; }");
            hall.start(0, units - 1, 0, 0, 0);
            startAll(hall, 0, 1, 1);
            hall.turn(1000);
            hall.turn(9);
            Due.is("the last unit", hall.process(1, 4), 1);
            Due.is("none is free", hall.place(0, 0), 0);
            Due.is("it went on", hall.process(1, 1), 1);
            hall.turn(9);
            Due.isProcess(hall, 2, 2, NONE, 0, 0, 0, 0);
            Due.is("two went on", hall.state(8), 2);
        }
        EventHall alone = Due.hall("resource r 99; process p(n) { while n { seize r; n = n - 1; } hold 1; }");
        startAll(alone, 0, 100);
        alone.run(1000);
        Due.isProcess(alone, 0, 2, NONE, 0, 99, 0, 0);
    }

    /** "seize: priority n (0 without)" */
    private static void seizeWithoutPriority() {
        EventHall hall = Due.hall("resource r 1; process p(n) { seize r n; hold 1; } process q() { seize r; hold 1; }");
        startAll(hall, 0, 0, 1, 0);
        startAll(hall, 1, 0);
        startAll(hall, 0, 0, -1);
        startAll(hall, 1, 0);
        hall.run(8);
        isLine(hall, 0, 5, 2, 3, 4, 6, 1);
    }

    /** "else it waits, behind all with the same or a lesser number, before others" */
    private static void seizeBehindTheSameOrALesser() {
        EventHall hall = Due.hall("resource r 1; process p(n) { seize r n; say n; hold 1; }");
        startAll(hall, 0, 7, 5, 4, 6, 5, 4, 6);
        hall.run(9);
        isLine(hall, 0, 2, 5, 1, 4, 3, 6);
        hall.run(100);
        Due.isTrace(hall, 0, 7, 1, 4, 2, 4, 3, 5, 4, 5, 5, 6, 6, 6);
    }

    /** "behind all with the same or a lesser number, before others": the utmost numbers. */
    private static void seizeOfTheUtmostPriorities() {
        EventHall hall = Due.hall("resource r 1; process p(n) { seize r n; hold 1; }");
        startAll(hall, 0, 0, GREATEST, LEAST, 0, GREATEST - 1, LEAST + 1, GREATEST, LEAST);
        hall.run(9);
        isLine(hall, 0, 2, 7, 5, 3, 4, 1, 6);
    }

    /** "When units are free and someone waits, the first one has one and is READY (at the TIME)." */
    private static void freeToTheFirst() {
        EventHall hall = Due.hall("resource r 2; process p() { seize r; seize r; hold 4; free r; say 1; free r; say 2; } process q() { seize r; say me; hold 9; }");
        startAll(hall, 0, 0);
        startAll(hall, 1, 0, 0, 0);
        hall.run(6);
        isLine(hall, 0, 1, 2, 3);
        hall.run(1);
        Due.isProcess(hall, 1, 0, 4, NONE, 1, 0, 4);
        Due.is("one unit left", hall.process(0, 4), 1);
        isLine(hall, 0, 2, 3);
        isPlace(hall, 0, 0, 2, 2, 3, 1, 3);
        hall.run(2);
        Due.isProcess(hall, 2, 0, 4, NONE, 1, 0, 4);
        isLine(hall, 0, 3);
        hall.run(3);
        Due.isTrace(hall, 4, 1, 4, 2, 4, 1);
    }

    /** "free: one unit that it has goes back.": nobody waits. */
    private static void freeToNobody() {
        EventHall hall = Due.hall("resource r 99; process p(n) { while n { seize r; n = n - 1; } free r; hold 1; }");
        startAll(hall, 0, 99);
        hall.turn(1000);
        isPlace(hall, 0, 1, 0, 99, 99, 0, 0);
        Due.is("units that it has", hall.process(0, 4), 98);
        hall.turn(9);
        isPlace(hall, 0, 99, 0, 99, 99, 0, 0);
    }

    /** "the first that gets is served if so many are there" */
    private static void getOfWhatIsThere() {
        for (int there : new int[] {0, 1, 5, 9998, 9999}) {
            for (int n = Math.max(1, there - 1); n <= Math.min(9999, there + 1); n++) {
                EventHall hall = Due.hall("store s " + there + " 9999; process p(n) { get s n; say n; }");
                startAll(hall, 0, n);
                hall.run(9);
                Due.is("get of " + n + " with " + there + " there", hall.process(0, 1), n <= there ? 5 : 3);
                Due.is("there then", hall.place(0, 0), n <= there ? there - n : there);
                Due.is("served", hall.place(0, 3), n <= there ? 1 : 0);
            }
        }
    }

    /** "else the first that puts, if there is so much room" */
    private static void putOfWhatThereIsRoomFor() {
        for (int there : new int[] {0, 1, 5, 9998, 9999}) {
            for (int n = Math.max(1, 9999 - there - 1); n <= Math.min(9999, 9999 - there + 1); n++) {
                EventHall hall = Due.hall("store s " + there + " 9999; process p(n) { put s n; say n; }");
                startAll(hall, 0, n);
                hall.run(9);
                boolean fits = there + n <= 9999;
                Due.is("put of " + n + " with " + there + " there", hall.process(0, 1), fits ? 5 : 3);
                Due.is("there then", hall.place(0, 0), fits ? there + n : there);
                Due.is("served", hall.place(0, 3), fits ? 1 : 0);
            }
        }
    }

    private static void trade(String statement, int room, int n, int wrong) {
        EventHall hall = Due.hall("store s " + room / 2 + " " + room + "; process p(n) { " + statement + " s n; say 1; }");
        startAll(hall, 0, n);
        hall.run(9);
        Due.is(statement + " of " + n + ", room " + room, hall.process(0, 5), wrong);
        Due.is("those that wait", hall.place(0, 1), wrong == 0 && hall.state(8) == 0 ? 1 : 0);
        if (wrong != 0) {
            isPlace(hall, 0, room / 2, 0, room, 0, 0, 0);
        }
    }

    /** "4 put or get of less than 1, or of more than the store's room": get */
    private static void getOfLessThan1OrMoreThanTheRoom() {
        for (int room : new int[] {1, 2, 5, 9999}) {
            trade("get", room, 1, 0);
            trade("get", room, room, 0);
            for (int n : new int[] {0, -1, LEAST, room + 1, GREATEST}) {
                trade("get", room, n, 4);
            }
        }
    }

    /** "4 put or get of less than 1, or of more than the store's room": put */
    private static void putOfLessThan1OrMoreThanTheRoom() {
        for (int room : new int[] {1, 2, 5, 9999}) {
            trade("put", room, 1, 0);
            trade("put", room, room, 0);
            for (int n : new int[] {0, -1, LEAST, room + 1, GREATEST}) {
                trade("put", room, n, 4);
            }
        }
    }

    private static final String TRADE = " process g(n) { get s n; say n; } process u(n) { put s n; say -n; }";

    /** "the first that gets is served .. else the first that puts": who gets goes before who puts. */
    private static void gettersBeforePutters() {
        EventHall hall = Due.hall("store s 5 6;" + TRADE + " process x() { hold 1; get s 4; say 9; }");
        startAll(hall, 0, 6);
        startAll(hall, 1, 5, 2);
        startAll(hall, 2, 0);
        hall.run(4);
        isLine(hall, 0, 0, 1, 2);
        hall.run(1);
        isLine(hall, 0, 0, 3, 1, 2);
        Due.isProcess(hall, 3, 3, NONE, 0, 0, 0, 1);
        EventHall both = Due.hall("store s 3 6;" + TRADE + " process x(n) { hold 1; stop n; say 9; }");
        startAll(both, 0, 4, 3);
        startAll(both, 1, 4, 2);
        startAll(both, 2, 0);
        both.run(5);
        isLine(both, 0, 0, 1, 2, 3);
        both.run(100);
        Due.isTrace(both, 1, 9, 1, 3, 1, -4, 1, -2);
        isPlace(both, 0, 6, 0, 6, 3, 3, 4);
        EventHall each = Due.hall("store s 5 6;" + TRADE + " process x(n) { hold 1; stop n; say 9; }");
        startAll(each, 0, 6, 2, 2);
        startAll(each, 1, 3);
        startAll(each, 2, 0);
        each.run(100);
        Due.isTrace(each, 1, 9, 1, 2, 1, 2, 1, -3);
        isPlace(each, 0, 4, 0, 6, 3, 3, 4);
    }

    /** "again and again": one put lets all wait no more. */
    private static void servedAgainAndAgain() {
        EventHall hall = Due.hall("store s 0 300;" + TRADE + " process x() { hold 2; put s 149; say 7; put s 1; say 8; }");
        for (int i = 0; i < 150; i++) {
            hall.start(0, 1, 0, 0, 0);
        }
        startAll(hall, 2, 0);
        hall.run(151);
        Due.is("all wait", hall.place(0, 1), 150);
        hall.run(1);
        Due.is("one waits still", hall.place(0, 1), 1);
        Due.is("it is the last one", hall.place(0, 10), 149);
        isPlace(hall, 0, 0, 1, 300, 150, 149, 150);
        hall.run(2);
        isPlace(hall, 0, 0, 0, 300, 152, 150, 150);
        isSum(hall, 0, 0, 300, 300);
        EventHall turns = Due.hall("store s 1 1; process g() { hold 1; get s 1; say me; } process u() { put s 1; say -me; }");
        startAll(turns, 1, 0, 0, 0);
        startAll(turns, 0, 0, 0, 0, 0);
        turns.run(100);
        Due.isTrace(turns, 1, 3, 1, 4, 1, 5, 1, 6, 1, 0, 1, -1, 1, -2);
    }

    /** "again and again": all 300 processes by one statement, getters and putters. */
    private static void allAreServed() {
        EventHall getters = Due.hall("store s 0 9999;" + TRADE);
        EventHall putters = Due.hall("store s 9999 9999;" + TRADE);
        for (int i = 0; i < 299; i++) {
            getters.start(0, 1, 0, 0, 0);
            putters.start(1, 1, 0, 0, 0);
        }
        startAll(getters, 1, 299);
        startAll(putters, 0, 299);
        getters.run(299);
        putters.run(299);
        Due.is("those that wait to get", getters.place(0, 1), 299);
        Due.is("those that wait to put", putters.place(0, 1), 299);
        Due.is("one put", getters.run(1), 1);
        Due.is("one get", putters.run(1), 1);
        isPlace(getters, 0, 0, 0, 9999, 300, 299, 299);
        isPlace(putters, 0, 9999, 0, 9999, 300, 299, 299);
        Due.is("all that got are READY", getters.state(4), 299);
        Due.is("all that put are READY", putters.state(4), 299);
        EventHall units = Due.hall("resource r 99; process p(n) { while n { seize r; n = n - 1; } hold 1; } process q() { seize r; hold 1; }");
        startAll(units, 0, 99);
        for (int i = 0; i < 299; i++) {
            units.start(1, 0, 0, 0, 0);
        }
        units.run(1 + 3 * 99 + 1 + 299);
        Due.is("those that wait for r", units.place(0, 1), 299);
        units.turn(1);
        Due.is("99 of them have a unit", units.place(0, 1), 200);
        isPlace(units, 0, 0, 200, 99, 198, 99, 299);
    }

    /** "the first that gets is served if so many are there": those behind it are not, though they could be. */
    private static void theFirstAloneIsServed() {
        EventHall hall = Due.hall("store s 3 9;" + TRADE);
        startAll(hall, 0, 4, 3, 1);
        hall.run(9);
        isLine(hall, 0, 0, 1, 2);
        isPlace(hall, 0, 3, 3, 9, 0, 0, 3);
        EventHall puts = Due.hall("store s 6 9;" + TRADE);
        startAll(puts, 1, 4, 3, 1);
        puts.run(9);
        isLine(puts, 0, 0, 1, 2);
        isPlace(puts, 0, 6, 3, 9, 0, 0, 3);
    }

    /** "served ones are READY, but who is served in its own statement goes on" */
    private static void servedInItsOwnStatement() {
        EventHall hall = Due.hall("store s 0 2;" + TRADE);
        startAll(hall, 0, 2);
        startAll(hall, 1, 2);
        hall.run(2);
        Due.is("who put goes on", hall.state(10), 1);
        Due.isProcess(hall, 0, 0, 0, NONE, 0, 0, 0);
        isPlace(hall, 0, 0, 0, 2, 2, 1, 1);
        hall.run(9);
        Due.isTrace(hall, 0, -2, 0, 2);
        startAll(hall, 1, 2, 1);
        startAll(hall, 0, 2);
        hall.run(4);
        Due.is("who got goes on", hall.state(10), 4);
        Due.isProcess(hall, 3, 0, 0, NONE, 0, 0, 0);
        isPlace(hall, 0, 1, 0, 2, 5, 2, 1);
    }

    /** "whenever something changes there": who stood first in a line was stopped. */
    private static void servedWhenOneLeaves() {
        EventHall getters = Due.hall("store s 3 9;" + TRADE + " process x(n) { hold 1; stop n; say 7; }");
        startAll(getters, 0, 4, 3, 1);
        startAll(getters, 2, 0);
        getters.run(100);
        Due.isTrace(getters, 1, 7, 1, 3);
        isLine(getters, 0, 2);
        EventHall putters = Due.hall("store s 6 9;" + TRADE + " process x(n) { hold 1; stop n; say 7; }");
        startAll(putters, 1, 4, 3, 1);
        startAll(putters, 2, 0);
        putters.run(100);
        Due.isTrace(putters, 1, 7, 1, -3);
        isLine(putters, 0, 2);
    }

    /** "BAD (here - 2): none such." Of place(): r */
    private static void placeOfNoneSuch() {
        for (int resources = 0; resources <= 8; resources += 4) {
            for (int stores = 0; stores <= 6; stores += 3) {
                EventHall hall = Due.hall(Texts.numbered("resource ", "r", 1, resources, " 1;") + Texts.numbered("store ", "s", 1, stores, " 0 2;"));
                int count = resources + stores;
                for (int r : new int[] {-1, count, count + 1, 14, LEAST, GREATEST}) {
                    for (int what = 0; what <= 5; what++) {
                        Due.is("place(" + r + ", " + what + ") of " + count, hall.place(r, what), NO_PLACE);
                    }
                }
                for (int r = 0; r < count; r++) {
                    Due.is("units or room of " + r, hall.place(r, 2), r < resources ? 1 : 2);
                }
            }
        }
    }

    /** "BAD (here - 2): none such." Of place(): what */
    private static void placeOfNoSuchNumber() {
        EventHall hall = Due.hall("resource r 1; store s 0 1; process p() { seize r; seize r; } process g() { get s 1; }");
        startAll(hall, 0, 0);
        startAll(hall, 1, 0);
        hall.run(9);
        for (int r = 0; r < 2; r++) {
            for (int what : new int[] {-1, 6, 7, 8, 9, 11, 309, 310, LEAST, GREATEST}) {
                Due.is("place(" + r + ", " + what + ")", hall.place(r, what), NO_PLACE);
            }
            Due.is("place(" + r + ", 10)", hall.place(r, 10), r);
        }
    }

    /** "6 the k-th that waits is 10 + k (of a store getters first): which process." */
    private static void theKthThatWaits() {
        EventHall hall = Due.hall("store s 1 2; resource r 1;" + TRADE + " process z() { seize r; } process f() { seize r; hold 1; }");
        startAll(hall, 3, 0);
        for (int i = 0; i < 99; i++) {
            hall.start(1, 2, 0, 0, 0);
            hall.start(0, 2, 0, 0, 0);
            hall.start(2, 0, 0, 0, 0);
        }
        hall.run(2 + 297);
        for (int k = 0; k < 99; k++) {
            Due.is("who waits for r", hall.place(0, 10 + k), 3 + 3 * k);
        }
        Due.is("none behind the last", hall.place(0, 109), NO_PLACE);
        Due.is("the first that gets", hall.place(1, 10), 2);
        Due.is("the last that gets", hall.place(1, 108), 296);
        Due.is("the first that puts", hall.place(1, 109), 1);
        Due.is("the last that puts", hall.place(1, 207), 295);
        Due.is("none behind the last", hall.place(1, 208), NO_PLACE);
    }

    /** "3 how many were served, 4 of these how many had waited" */
    private static void thoseThatWereServed() {
        EventHall hall = Due.hall("resource r 1; store s 1 1;"
                + " process p() { seize r; hold 1; free r; seize r; } process g() { get s 1; } process u() { put s 1; }");
        startAll(hall, 0, 0);
        hall.turn(9);
        isPlace(hall, 0, 0, 0, 1, 1, 0, 0);
        startAll(hall, 0, 0);
        hall.turn(9);
        isPlace(hall, 0, 0, 1, 1, 1, 0, 1);
        hall.turn(9);
        isPlace(hall, 0, 0, 1, 1, 2, 1, 1);
        startAll(hall, 1, 0);
        hall.turn(9);
        hall.turn(9);
        isPlace(hall, 1, 0, 0, 1, 1, 0, 0);
        startAll(hall, 1, 0);
        hall.turn(9);
        isPlace(hall, 1, 0, 1, 1, 1, 0, 1);
        startAll(hall, 2, 0);
        hall.turn(9);
        isPlace(hall, 1, 0, 0, 1, 3, 1, 1);
    }

    /** "5 the most that waited at once (behind a statement)": who is served in its own statement did not wait. */
    private static void theMostThatWaited() {
        EventHall hall = Due.hall("resource r 1; store s 0 1; process p() { put s 1; get s 1; seize r; free r; } process g() { get s 1; } process u() { put s 1; }");
        startAll(hall, 0, 0);
        hall.run(9);
        isPlace(hall, 0, 1, 0, 1, 1, 0, 0);
        isPlace(hall, 1, 0, 0, 1, 2, 0, 0);
        startAll(hall, 1, 0, 0);
        hall.run(9);
        isPlace(hall, 1, 0, 2, 1, 2, 0, 2);
        startAll(hall, 2, 0, 0, 0, 0);
        hall.run(9);
        isPlace(hall, 1, 1, 1, 1, 7, 2, 2);
        startAll(hall, 1, 0);
        hall.run(9);
        isPlace(hall, 1, 1, 0, 1, 9, 3, 2);
    }

    /** "5 the most that waited at once": all but one. */
    private static void theMostThatWaitedInAll() {
        EventHall hall = Due.hall("resource r 1; process p() { seize r; hold 1; }");
        for (int i = 0; i < 300; i++) {
            hall.start(0, 0, 0, 0, 0);
        }
        hall.run(2);
        isPlace(hall, 0, 0, 0, 1, 1, 0, 0);
        hall.run(299);
        isPlace(hall, 0, 0, 299, 1, 1, 0, 299);
        hall.run(20_000);
        isPlace(hall, 0, 1, 0, 1, 300, 299, 299);
        Due.is("TIME", hall.state(0), 300);
        isSum(hall, 0, 300, 299 * 300 / 2, 299 * 300 / 2);
    }

    /** "BAD: none such." Of sum(): r, what */
    private static void sumOfNoneSuch() {
        EventHall hall = Due.hall("resource r 1; store s 1 2; process p() { hold 3; }");
        startAll(hall, 0, 0);
        hall.run(9);
        for (int r : new int[] {-1, 2, 3, 14, LEAST, GREATEST}) {
            for (int what = 0; what <= 2; what++) {
                Due.is("sum(" + r + ", " + what + ")", hall.sum(r, what), EventHall.BAD);
            }
        }
        for (int what : new int[] {-1, 3, 4, LEAST, GREATEST}) {
            Due.is("sum(0, " + what + ")", hall.sum(0, what), EventHall.BAD);
            Due.is("sum(1, " + what + ")", hall.sum(1, what), EventHall.BAD);
        }
        isSum(hall, 0, 0, 0, 0);
        isSum(hall, 1, 3, 0, 0);
    }

    /** "Sums over TIME up to now": nothing before the TIME goes on, and all of it then. */
    private static void sumsUpToNow() {
        EventHall hall = Due.hall("resource r 2; store s 4 9; process p() { seize r; seize r; hold 5; free r; get s 3; hold 2; } process q() { seize r; hold 1; }");
        startAll(hall, 0, 0);
        startAll(hall, 1, 0);
        isSum(hall, 0, 0, 0, 0);
        hall.run(4);
        isSum(hall, 0, 0, 0, 0);
        isSum(hall, 1, 0, 0, 0);
        hall.run(1);
        Due.is("TIME", hall.state(0), 5);
        isSum(hall, 0, 10, 5, 5);
        isSum(hall, 1, 20, 0, 0);
        hall.run(2);
        isSum(hall, 1, 20, 0, 0);
        hall.run(1);
        hall.turn(9);
        Due.is("TIME", hall.state(0), 6);
        isSum(hall, 0, 12, 5, 5);
        isSum(hall, 1, 21, 0, 0);
        hall.run(9);
        isSum(hall, 0, 13, 5, 5);
        isSum(hall, 1, 22, 0, 0);
    }

    /** "long sum": more than 32 bits, with all units, all room and all processes up to the last TIME. */
    private static void sumsOfTheUtmost() {
        EventHall hall = Due.hall("resource r 99; store s 9999 9999; process p() { let k = 99; while k { seize r; k = k - 1; } hold 999999999; hold 1; get s 9999; }"
                + " process q() { seize r; } process u() { put s 9999; }");
        startAll(hall, 0, 0);
        for (int i = 0; i < 149; i++) {
            hall.start(1, 0, 0, 0, 0);
            hall.start(2, 0, 0, 0, 0);
        }
        startAll(hall, 1, 0);
        hall.run(20_000);
        Due.is("TIME", hall.state(0), 1_000_000_000);
        isSum(hall, 0, 99_000_000_000L, 150_000_000_000L, 150_000_000_000L);
        isSum(hall, 1, 9_999_000_000_000L, 149_000_000_000L, 1_000_000_000L);
    }

    /** "2: of the times waited by those that were served": from when each began to wait. */
    private static void timesWaited() {
        EventHall hall = Due.hall("resource r 1; store s 0 5; process p() { seize r; hold 10; } process q(n) { hold n; seize r; }"
                + " process g(n) { hold n; get s 1; } process u() { hold 10; put s 2; }");
        startAll(hall, 0, 0);
        startAll(hall, 1, 3, 9, 10);
        startAll(hall, 2, 4, 9, 9);
        startAll(hall, 3, 0);
        hall.run(1000);
        Due.is("TIME", hall.state(0), 10);
        isSum(hall, 0, 10, 8, 8);
        isPlace(hall, 0, 1, 0, 1, 4, 3, 2);
        isSum(hall, 1, 0, 8, 7);
        isPlace(hall, 1, 0, 1, 5, 3, 2, 3);
    }

    /** "2: of the times waited by those that were served": who waited no time is served as one that had waited. */
    private static void waitedNoTime() {
        EventHall hall = Due.hall("resource r 1; process p() { seize r; hold 0; free r; } process q() { seize r; } process x() { hold 1; stop 3; }"
                + " process o() { seize r; hold 3; }");
        startAll(hall, 0, 0);
        startAll(hall, 1, 0);
        hall.run(100);
        isPlace(hall, 0, 1, 0, 1, 2, 1, 1);
        isSum(hall, 0, 0, 0, 0);
        startAll(hall, 3, 0);
        startAll(hall, 1, 0);
        startAll(hall, 2, 0);
        hall.run(100);
        Due.is("TIME", hall.state(0), 3);
        isPlace(hall, 0, 1, 0, 1, 3, 1, 1);
        isSum(hall, 0, 3, 1, 0);
    }
}

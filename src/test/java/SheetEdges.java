/** Boundary cases of promises 36 to 40: sheets. */
final class SheetEdges {
    private SheetEdges() {
    }

    /** Sheets 0 (8 bits) and 1 (8 bits), 2 (16 bits), each with 1, 2, .. 5; sheet 3 is MISSING. */
    private static TwentyPhrases filled() {
        TwentyPhrases x = new TwentyPhrases();
        for (int s = 0; s <= 2; s++) {
            x.sheet(s, s == 2 ? 16 : 8, 5);
            for (int i = 0; i < 5; i++) {
                x.write(s, i, i + 1);
            }
        }
        return x;
    }

    /** Sheet 0 with these numbers. */
    private static TwentyPhrases sheetOf(TwentyPhrases x, int bits, long... numbers) {
        x.sheet(0, bits, numbers.length);
        for (int i = 0; i < numbers.length; i++) {
            x.write(0, i, numbers[i]);
        }
        return x;
    }

    /** What a number is, when it was written to a sheet of so many bits. */
    private static void cut(int bits, long written, long then) {
        TwentyPhrases x = new TwentyPhrases();
        x.sheet(0, bits, 3);
        Edges.due(x.write(0, 1, written), 0);
        Edges.dueNumbers(x, 0, 0, then, 0);
    }

    // ---- sheet

    static void promise36NoSuchSheet() {
        for (int s : new int[] {Edges.MIN, -1, 4, Edges.MAX}) {
            Edges.refused(Edges.BEYOND, x -> x.sheet(s, 8, 1));
        }
    }

    static void promise36OtherBits() {
        for (int bits : new int[] {Edges.MIN, -8, -1, 1, 7, 9, 15, 17, 32, 63, 65, 128, Edges.MAX}) {
            Edges.refused(Edges.BEYOND, x -> x.sheet(0, bits, 1));
        }
    }

    static void promise36SizeBelowNothing() {
        for (int bits : new int[] {0, 8, 16, 64}) {
            Edges.refused(Edges.SIZE, x -> x.sheet(0, bits, -1));
            Edges.refused(Edges.SIZE, x -> x.sheet(0, bits, Edges.MIN));
        }
    }

    static void promise36SizeAboveForty() {
        for (int bits : new int[] {0, 8, 16, 64}) {
            Edges.refused(Edges.BEYOND, x -> x.sheet(0, bits, 41));
            Edges.refused(Edges.BEYOND, x -> x.sheet(0, bits, Edges.MAX));
        }
    }

    static void promise36BeyondAheadOfSize() {
        Edges.refused(Edges.BEYOND, x -> x.sheet(4, 8, -1));
        Edges.refused(Edges.BEYOND, x -> x.sheet(0, 32, -1));
    }

    static void promise36FortyNumbers() {
        for (int bits : new int[] {8, 16, 64}) {
            TwentyPhrases x = new TwentyPhrases();
            Edges.due(x.sheet(3, bits, 40), 40);
            Edges.dueNumbers(x, 3, new long[40]);
        }
    }

    /** A sheet without numbers is there, not MISSING. */
    static void promise36NoNumbers() {
        TwentyPhrases x = new TwentyPhrases();
        Edges.due(x.sheet(0, 8, 0), 0);
        Edges.due(x.write(0, 0, 1), Edges.BEYOND);
        Edges.due(x.lays(0), 0);
        Edges.due(x.read(0), 0);
    }

    static void promise36MissingAgain() {
        TwentyPhrases x = filled();
        Edges.due(x.sheet(0, 0, 0), 0);
        Edges.due(x.write(0, 0, 1), Edges.MISSING);
        Edges.due(x.sheet(1, 0, 40), 0);
        Edges.due(x.write(1, 0, 1), Edges.MISSING);
        Edges.due(x.sheet(3, 0, 7), 0);
        Edges.due(x.write(3, 0, 1), Edges.MISSING);
    }

    static void promise36AllNothingAnew() {
        TwentyPhrases x = filled();
        Edges.due(x.sheet(0, 8, 5), 5);
        Edges.dueNumbers(x, 0, 0, 0, 0, 0, 0);
        // Neither by way of a shorter one, nor of none, does anything come back.
        x.sheet(1, 8, 1);
        x.sheet(1, 8, 5);
        Edges.dueNumbers(x, 1, 0, 0, 0, 0, 0);
        x.sheet(2, 0, 0);
        x.sheet(2, 16, 5);
        Edges.dueNumbers(x, 2, 0, 0, 0, 0, 0);
    }

    static void promise36OtherSheetsStay() {
        TwentyPhrases x = filled();
        x.sheet(1, 64, 40);
        Edges.dueNumbers(x, 0, 1, 2, 3, 4, 5);
        Edges.dueNumbers(x, 2, 1, 2, 3, 4, 5);
    }

    // ---- write

    static void promise37NoSuchSheet() {
        for (int s : new int[] {Edges.MIN, -1, 4, Edges.MAX}) {
            Edges.refused(Edges.BEYOND, x -> x.write(s, 0, 1));
        }
    }

    static void promise37Missing() {
        Edges.refused(Edges.MISSING, x -> x.write(3, 0, 1));
        for (int s = 0; s <= 3; s++) {
            int each = s;
            Edges.refused(Edges.MISSING, TwentyPhrases::new, x -> x.write(each, 0, 1));
        }
    }

    static void promise37NoSuchNumber() {
        for (int i : new int[] {Edges.MIN, -1, 3, 40, Edges.MAX}) {
            Edges.refused(Edges.BEYOND, x -> x.write(0, i, 1));
        }
        Edges.refused(Edges.BEYOND, () -> sheetOf(new TwentyPhrases(), 8, new long[40]), x -> x.write(0, 40, 1));
        Edges.refused(Edges.BEYOND, () -> sheetOf(new TwentyPhrases(), 8), x -> x.write(0, 0, 1));
    }

    static void promise37MissingAheadOfNumber() {
        Edges.refused(Edges.MISSING, x -> x.write(3, -1, 1));
        Edges.refused(Edges.MISSING, x -> x.write(3, 40, 1));
    }

    static void promise37FirstNumberAndLast() {
        TwentyPhrases x = new TwentyPhrases();
        x.sheet(3, 8, 40);
        Edges.due(x.write(3, 0, 11), 0);
        Edges.due(x.write(3, 39, 22), 0);
        Edges.due(x.write(3, 0, 0), 11);
        Edges.due(x.write(3, 39, 0), 22);
    }

    /** The last number of one sheet isn't the first of the next. */
    static void promise37SheetsLieApart() {
        TwentyPhrases x = new TwentyPhrases();
        for (int s = 0; s <= 3; s++) {
            x.sheet(s, 64, 40);
        }
        for (int s = 0; s <= 3; s++) {
            Edges.due(x.write(s, 0, 100 + s), 0);
            Edges.due(x.write(s, 39, 200 + s), 0);
        }
        for (int s = 0; s <= 3; s++) {
            Edges.due(x.write(s, 0, 0), 100 + s);
            Edges.due(x.write(s, 39, 0), 200 + s);
        }
    }

    static void promise37EightBitsWrapAround() {
        cut(8, 127, 127);
        cut(8, 128, -128);
        cut(8, 255, -1);
        cut(8, 256, 0);
        cut(8, 257, 1);
        cut(8, -1, -1);
        cut(8, -128, -128);
        cut(8, -129, 127);
        cut(8, 1L << 32, 0);
        cut(8, Long.MAX_VALUE, -1);
        cut(8, Long.MIN_VALUE, 0);
    }

    static void promise37SixteenBitsWrapAround() {
        cut(16, 255, 255);
        cut(16, 32767, 32767);
        cut(16, 32768, -32768);
        cut(16, 65535, -1);
        cut(16, 65536, 0);
        cut(16, 65537, 1);
        cut(16, -32768, -32768);
        cut(16, -32769, 32767);
        cut(16, Long.MAX_VALUE, -1);
        cut(16, Long.MIN_VALUE, 0);
    }

    static void promise37SixtyFourBitsHoldAll() {
        for (long v : new long[] {1, -1, 1L << 31, 1L << 32, 1L << 62, Long.MAX_VALUE, Long.MIN_VALUE}) {
            cut(64, v, v);
        }
    }

    /** A number that looks like a finding is an answer as any other. */
    static void promise37NumberLikeAFinding() {
        for (long finding = Edges.BEYOND; finding >= Edges.SIZE; finding--) {
            TwentyPhrases x = sheetOf(new TwentyPhrases(), 64, finding);
            Edges.due(x.write(0, 0, 0), finding);
            Edges.due(x.status(-1), 0);
        }
    }

    // ---- copy

    static void promise38NoSuchSheet() {
        for (int s : new int[] {Edges.MIN, -1, 4, Edges.MAX}) {
            Edges.refused(Edges.BEYOND, x -> x.copy(s, 0, 0, 0, 1));
            Edges.refused(Edges.BEYOND, x -> x.copy(0, 0, s, 0, 1));
        }
    }

    static void promise38Missing() {
        Edges.refused(Edges.MISSING, x -> x.copy(3, 0, 0, 0, 1));
        Edges.refused(Edges.MISSING, x -> x.copy(0, 0, 3, 0, 1));
        Edges.refused(Edges.MISSING, x -> x.copy(3, 0, 3, 0, 0));
    }

    static void promise38NotOfAsManyBits() {
        for (int[] pair : new int[][] {{0, 1}, {1, 0}, {0, 2}, {2, 0}, {1, 2}, {2, 1}}) {
            Edges.refused(Edges.KIND, x -> x.copy(pair[0], 0, pair[1], 0, 1));
            Edges.refused(Edges.KIND, x -> x.copy(pair[0], 0, pair[1], 0, 0));
        }
    }

    static void promise38BelowNothing() {
        for (int below : new int[] {-1, Edges.MIN}) {
            Edges.refused(Edges.BEYOND, SheetEdges::filled, x -> x.copy(0, below, 1, 0, 1));
            Edges.refused(Edges.BEYOND, SheetEdges::filled, x -> x.copy(0, 0, 1, below, 1));
            Edges.refused(Edges.BEYOND, SheetEdges::filled, x -> x.copy(0, 0, 1, 0, below));
        }
    }

    static void promise38NotSoMany() {
        Edges.refused(Edges.BEYOND, SheetEdges::filled, x -> x.copy(0, 0, 1, 0, 6));
        Edges.refused(Edges.BEYOND, SheetEdges::filled, x -> x.copy(0, 1, 1, 0, 5));
        Edges.refused(Edges.BEYOND, SheetEdges::filled, x -> x.copy(0, 0, 1, 1, 5));
        Edges.refused(Edges.BEYOND, SheetEdges::filled, x -> x.copy(0, 5, 1, 0, 1));
        Edges.refused(Edges.BEYOND, SheetEdges::filled, x -> x.copy(0, 0, 1, 5, 1));
        Edges.refused(Edges.BEYOND, SheetEdges::filled, x -> x.copy(0, 0, 0, 1, 5));
    }

    /** From behind its end not even no number can come. */
    static void promise38NoNumbersFromBehindTheEnd() {
        Edges.refused(Edges.BEYOND, SheetEdges::filled, x -> x.copy(0, 6, 1, 0, 0));
        Edges.refused(Edges.BEYOND, SheetEdges::filled, x -> x.copy(0, 0, 1, 6, 0));
    }

    /** Where a sum of two numbers would wrap around to one below 0. */
    static void promise38SumsThatWouldWrapAround() {
        Edges.refused(Edges.BEYOND, SheetEdges::filled, x -> x.copy(0, Edges.MAX, 1, 0, 1));
        Edges.refused(Edges.BEYOND, SheetEdges::filled, x -> x.copy(0, 0, 1, Edges.MAX, 1));
        Edges.refused(Edges.BEYOND, SheetEdges::filled, x -> x.copy(0, 1, 1, 1, Edges.MAX));
        Edges.refused(Edges.BEYOND, SheetEdges::filled, x -> x.copy(0, Edges.MAX, 1, Edges.MAX, Edges.MAX));
    }

    static void promise38FindingsInTheirOrder() {
        Edges.refused(Edges.BEYOND, x -> x.copy(3, 0, 4, 0, 1));
        Edges.refused(Edges.BEYOND, x -> x.copy(-1, 0, 3, 0, 1));
        Edges.refused(Edges.MISSING, x -> x.copy(3, -1, 0, 0, 1));
        Edges.refused(Edges.KIND, x -> x.copy(0, -1, 1, 0, 99));
    }

    static void promise38NoNumbers() {
        Edges.unchanging(SheetEdges::filled, x -> x.copy(0, 0, 1, 0, 0), 0);
        Edges.unchanging(SheetEdges::filled, x -> x.copy(0, 5, 1, 5, 0), 0);
        Edges.unchanging(() -> sheetOf(new TwentyPhrases(), 8), x -> x.copy(0, 0, 0, 0, 0), 0);
    }

    static void promise38JustToTheEnd() {
        TwentyPhrases x = filled();
        Edges.due(x.copy(0, 3, 1, 0, 2), 2);
        Edges.dueNumbers(x, 1, 4, 5, 3, 4, 5);
        Edges.due(x.copy(0, 0, 1, 3, 2), 2);
        Edges.dueNumbers(x, 1, 4, 5, 3, 1, 2);
        Edges.dueNumbers(x, 0, 1, 2, 3, 4, 5);
    }

    static void promise38WholeSheets() {
        TwentyPhrases x = new TwentyPhrases();
        x.sheet(0, 64, 40);
        x.sheet(3, 64, 40);
        long[] numbers = new long[40];
        for (int i = 0; i < 40; i++) {
            numbers[i] = Long.MIN_VALUE + i;
            x.write(0, i, numbers[i]);
        }
        Edges.due(x.copy(0, 0, 3, 0, 40), 40);
        Edges.dueNumbers(x, 3, numbers);
        Edges.dueNumbers(x, 0, numbers);
    }

    /** As they all were: to a later place of the same sheet. */
    static void promise38OverlappingForward() {
        TwentyPhrases x = filled();
        Edges.due(x.copy(0, 0, 0, 1, 4), 4);
        Edges.dueNumbers(x, 0, 1, 1, 2, 3, 4);
    }

    /** As they all were: to an earlier place of the same sheet. */
    static void promise38OverlappingBackward() {
        TwentyPhrases x = filled();
        Edges.due(x.copy(0, 1, 0, 0, 4), 4);
        Edges.dueNumbers(x, 0, 2, 3, 4, 5, 5);
    }

    static void promise38OntoItself() {
        Edges.unchanging(SheetEdges::filled, x -> x.copy(0, 0, 0, 0, 5), 5);
    }

    // ---- lays

    static void promise39NoSuchSheet() {
        for (int s : new int[] {Edges.MIN, -1, 4, Edges.MAX}) {
            Edges.refused(Edges.BEYOND, x -> x.lays(s));
        }
    }

    static void promise39Missing() {
        Edges.refused(Edges.MISSING, x -> x.lays(3));
    }

    static void promise39LeastAndMost() {
        TwentyPhrases x = sheetOf(Edges.ofKinds(0, 0), 8, 100, 1);
        Edges.due(x.lays(0), 2);
        Edges.due(x.of(0, Edges.HELD), 100);
        Edges.due(x.of(1, Edges.HELD), 1);
        x.write(0, 0, 0);
        Edges.due(x.lays(0), 2);
        Edges.due(x.of(0, Edges.HELD), 0);
    }

    static void promise39NotNothingToHundred() {
        for (long v : new long[] {-1, 101, Long.MIN_VALUE, Long.MAX_VALUE, 1L << 32, (1L << 32) + 50, -1L << 32}) {
            Edges.unchanging(() -> sheetOf(Edges.usual(), 64, v), x -> x.lays(0), 0);
        }
    }

    /** One that is left out keeps none behind it from coming. */
    static void promise39BehindOneThatIsLeftOut() {
        TwentyPhrases x = sheetOf(Edges.ofKinds(0, 0, 0), 16, 101, -1, 50);
        x.set(0, Edges.HELD, 7);
        x.set(1, Edges.HELD, 8);
        Edges.due(x.lays(0), 1);
        Edges.due(x.of(0, Edges.HELD), 7);
        Edges.due(x.of(1, Edges.HELD), 8);
        Edges.due(x.of(2, Edges.HELD), 50);
    }

    static void promise39MoreNumbersThanPhrases() {
        TwentyPhrases x = sheetOf(Edges.ofKinds(0, 0), 8, 1, 2, 3);
        Edges.due(x.lays(0), 2);
        Edges.due(x.count(4), 3);
        // None stands for a PHRASE that comes later.
        x.phrase(0, 0, 1, 1);
        Edges.due(x.of(2, Edges.HELD), 0);
        Edges.due(sheetOf(new TwentyPhrases(), 8, new long[40]).lays(0), 0);
        Edges.due(sheetOf(Edges.full(), 8, new long[40]).lays(0), 12);
    }

    static void promise39FewerNumbersThanPhrases() {
        TwentyPhrases x = sheetOf(Edges.ofKinds(0, 0, 0), 8, 1);
        x.set(1, Edges.HELD, 50);
        Edges.due(x.lays(0), 1);
        Edges.due(x.count(4), 51);
    }

    static void promise39NoNumbers() {
        Edges.unchanging(() -> sheetOf(Edges.usual(), 8), x -> x.lays(0), 0);
    }

    /** What is laid is what a sheet holds: 256 and 200 in 8 bits are 0 and below 0. */
    static void promise39NumbersThatWereCut() {
        TwentyPhrases x = sheetOf(Edges.ofKinds(0, 0), 8, 256, 200);
        x.set(0, Edges.HELD, 9);
        x.set(1, Edges.HELD, 9);
        Edges.due(x.lays(0), 1);
        Edges.due(x.of(0, Edges.HELD), 0);
        Edges.due(x.of(1, Edges.HELD), 9);
    }

    // ---- read

    static void promise40NoSuchSheet() {
        for (int s : new int[] {Edges.MIN, -1, 4, Edges.MAX}) {
            Edges.refused(Edges.BEYOND, x -> x.read(s));
        }
    }

    static void promise40Missing() {
        Edges.refused(Edges.MISSING, x -> x.read(3));
    }

    static void promise40DayFiftyNine() {
        TwentyPhrases x = sheetOf(Edges.ofKinds(0), 8, new long[40]);
        Edges.goTo(x, 59);
        Edges.due(x.read(0), 0);
        Edges.due(x.now(0), 59);
    }

    /** However few numbers it has. */
    static void promise40DayAboveFiftyNine() {
        Edges.refused(Edges.STATE, () -> Edges.usualOn(60), x -> x.read(0));
        Edges.refused(Edges.STATE, () -> sheetOf(Edges.usualOn(60), 8), x -> x.read(0));
        Edges.refused(Edges.STATE, () -> Edges.usualOn(99), x -> x.read(0));
    }

    static void promise40FindingsInTheirOrder() {
        Edges.refused(Edges.BEYOND, () -> Edges.usualOn(60), x -> x.read(4));
        Edges.refused(Edges.MISSING, () -> Edges.usualOn(60), x -> x.read(3));
    }

    static void promise40NoNumbers() {
        Edges.unchanging(() -> sheetOf(Edges.usual(), 8), x -> x.read(0), 0);
    }

    /** SCORE ON no DAYS is what it is now. */
    static void promise40OneNumber() {
        TwentyPhrases x = Edges.usual();
        int score = x.now(2);
        Edges.unchanging(() -> sheetOf(Edges.usual(), 64, score), y -> y.read(0), 0);
        Edges.unchanging(() -> sheetOf(Edges.usual(), 64, score + 1), y -> y.read(0), 1);
        Edges.unchanging(() -> sheetOf(Edges.usual(), 64, score - 1), y -> y.read(0), 1);
    }

    static void promise40FirstThatIsWrong() {
        TwentyPhrases x = new TwentyPhrases();
        x.want(0, 50, 0);
        x.want(0, 60, 1);
        Edges.due(sheetOf(x, 8, 0, 5, 11, 11).read(0), 0);
        Edges.due(sheetOf(x, 8, 1, 5, 12, 11).read(0), 1);
        Edges.due(sheetOf(x, 8, 0, 6, 12, 11).read(0), 2);
        Edges.due(sheetOf(x, 8, 0, 5, 12, 11).read(0), 3);
        Edges.due(sheetOf(x, 8, 0, 5, 11, 12).read(0), 4);
        Edges.due(x.now(0), 0);
    }

    static void promise40TheLastOfForty() {
        TwentyPhrases x = sheetOf(new TwentyPhrases(), 16, new long[40]);
        x.want(0, 50, 39);
        Edges.due(x.read(0), 0);
        x.change(0, Edges.DAY, 38);
        Edges.due(x.read(0), 40);
        x.write(0, 39, 5);
        Edges.due(x.read(0), 0);
    }

    /** A SCORE that a sheet's bits can't hold is never told rightly. */
    static void promise40ScoreThatIsCut() {
        TwentyPhrases x = Edges.ofKinds(0);
        x.set(0, Edges.HELD, 100);
        x.want(0, 99, 0);
        x.want(0, 29, 0);
        x.days(1);
        Edges.due(x.now(2), 128);
        Edges.due(sheetOf(x, 8, 128).read(0), 1);
        Edges.due(sheetOf(x, 16, 128).read(0), 0);
        Edges.due(sheetOf(x, 64, (1L << 32) + 128).read(0), 1);
        Edges.due(sheetOf(x, 64, 128).read(0), 0);
    }
}

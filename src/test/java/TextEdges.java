/** Boundary cases of promises 33 to 35: the text. */
final class TextEdges {
    private static final String TWELVE_ROPES = "rope 1;".repeat(11) + "rope 1";

    private TextEdges() {
    }

    /** Three PHRASES, none of them in THE ORDER, and no WANT. */
    private static TwentyPhrases three() {
        return Edges.ofKinds(0, 1, 2);
    }

    private static TwentyPhrases fed(int bytes) {
        TwentyPhrases x = Edges.usual();
        x.wipe();
        for (int i = 0; i < bytes; i++) {
            x.feed('a', 1);
        }
        return x;
    }

    /** A text with a FAULT leaves all as it was but the tape, and isn't a finding. */
    private static void fault(Edges.Made made, String text, int place) {
        TwentyPhrases x = made.make();
        x.wipe();
        Edges.feed(x, text);
        int[] before = Edges.statusOf(x);
        Edges.due(x.book(), -1 - place);
        Edges.due(x.count(3), 0);
        Edges.dueStatus(x, before);
        TwentyPhrases y = made.make();
        y.wipe();
        Edges.dueAlike(x, y);
    }

    private static void fault(String text, int place) {
        fault(Edges::usual, text, place);
    }

    private static void items(String text, int howMany) {
        TwentyPhrases x = three();
        Edges.due(Edges.book(x, text), howMany);
        Edges.due(x.count(3), 0);
        Edges.due(x.status(-1), 0);
    }

    // ---- feed

    static void promise33TooFewBytes() {
        for (int n : new int[] {0, -1, Edges.MIN}) {
            Edges.refused(Edges.BEYOND, x -> x.feed('a', n));
        }
    }

    static void promise33TooManyBytes() {
        for (int n : new int[] {5, 8, Edges.MAX}) {
            Edges.refused(Edges.BEYOND, x -> x.feed('a', n));
        }
    }

    static void promise33OneToFourBytes() {
        // What a tape holds is seen by the text: line 7, line 89 and line 65 in 1 to 4 bytes each.
        TwentyPhrases x = new TwentyPhrases();
        Edges.due(x.feed(0x6c696e65, 4), 4);
        Edges.due(x.feed(0x41414137, 1), 5);
        Edges.due(x.book(), 1);
        Edges.due(x.now(1), 7);
        x.feed(0x6c696e65, 4);
        Edges.due(x.feed(0x41413839, 2), 6);
        Edges.due(x.book(), 1);
        Edges.due(x.now(1), 89);
        x.feed(0x6c696e65, 4);
        Edges.due(x.feed(0x41203635, 3), 7);
        Edges.due(x.book(), 1);
        Edges.due(x.now(1), 65);
    }

    /** A number below 0 has bytes above 127; they begin no TOKEN. */
    static void promise33BytesOfNegativeNumbers() {
        TwentyPhrases x = new TwentyPhrases();
        x.feed(0x6c696e65, 4);
        x.feed(0x39, 1);
        Edges.due(x.feed(-1, 4), 9);
        Edges.due(x.book(), -1 - 5);
        x.feed(0x6c696e65, 4);
        Edges.due(x.feed(0x80000000 | 0x39, 1), 5);
        Edges.due(x.book(), 1);
        Edges.due(x.now(1), 9);
    }

    static void promise33JustFull() {
        Edges.due(fed(119).feed('a', 1), 120);
        Edges.due(fed(116).feed('a', 4), 120);
        Edges.due(fed(117).feed('a', 3), 120);
        Edges.due(fed(118).feed('a', 2), 120);
    }

    static void promise33OneMoreThanFull() {
        Edges.refused(Edges.FULL, () -> fed(120), x -> x.feed('a', 1));
        Edges.refused(Edges.FULL, () -> fed(119), x -> x.feed('a', 2));
        Edges.refused(Edges.FULL, () -> fed(118), x -> x.feed('a', 3));
        Edges.refused(Edges.FULL, () -> fed(117), x -> x.feed('a', 4));
    }

    static void promise33BeyondAheadOfFull() {
        Edges.refused(Edges.BEYOND, () -> fed(120), x -> x.feed('a', 0));
        Edges.refused(Edges.BEYOND, () -> fed(120), x -> x.feed('a', 5));
    }

    // ---- wipe

    static void promise34EmptyTape() {
        Edges.unchanging(TwentyPhrases::new, TwentyPhrases::wipe, 0);
    }

    static void promise34FullTape() {
        TwentyPhrases x = fed(120);
        Edges.due(x.wipe(), 120);
        Edges.due(x.count(3), 0);
        Edges.due(x.wipe(), 0);
        Edges.due(x.feed('a', 4), 4);
    }

    static void promise34NothingOfItIsLeft() {
        TwentyPhrases x = new TwentyPhrases();
        Edges.feed(x, "line 5;");
        Edges.due(x.wipe(), 7);
        Edges.feed(x, "line 7");
        Edges.due(x.book(), 1);
        Edges.due(x.now(1), 7);
    }

    // ---- book: the tape

    static void promise35EmptyTape() {
        fault("", 0);
        fault(TwentyPhrases::new, "", 0);
    }

    static void promise35BlanksAlone() {
        fault(" ", 1);
        fault("   ", 3);
        fault(" ".repeat(120), 120);
    }

    static void promise35FullTape() {
        String text = "line 5;".repeat(16) + "line 100";
        TwentyPhrases x = new TwentyPhrases();
        Edges.due(text.length(), 120);
        Edges.due(Edges.book(x, text), 17);
        Edges.due(x.now(1), 100);
        Edges.due(x.count(3), 0);
    }

    static void promise35FullTapeEndsTooEarly() {
        String text = " ".repeat(116) + "line";
        fault(text, 120);
    }

    static void promise35MostItems() {
        // An item has 5 bytes at least, and a sign behind it: 20 of them.
        items("line1;".repeat(19) + "line1", 20);
    }

    static void promise35TapeIsEmptyThen() {
        TwentyPhrases x = new TwentyPhrases();
        Edges.due(Edges.book(x, "line 5"), 1);
        Edges.due(x.book(), -1);
        Edges.due(Edges.book(x, "line 0"), -1 - 5);
        Edges.due(x.book(), -1);
        Edges.due(x.status(-1), 0);
    }

    // ---- book: tokens

    static void promise35BlanksAroundTokens() {
        items("  line  5  ;  line  6  ", 2);
        items("line5;line6", 2);
        items("phrase1minutes2sound3;want1worth2day3hurry count", 2);
    }

    /** Two words that stand together are one, and no such one may be there. */
    static void promise35WordsAsLongAsCanBe() {
        fault("want1worth2day3hurrycount", 15);
        fault("lineline 5", 0);
        fault("lin 5", 0);
        fault("lines 5", 0);
        fault("phrases 1", 0);
        fault("linea 5", 0);
        fault("linez 5", 0);
        fault("zline 5", 0);
    }

    /** A word that is another one by its first letter, or by its last. */
    static void promise35OtherWords() {
        for (String word : new String[] {"xine 5", "linx 5", "xhrase 1", "phrasx 1", "xhing 1", "thinx 1", "xope 1",
            "ropx 1", "xumber 1", "numbex 1", "xending 1", "mendinx 1", "xrgent 1", "urgenx 1", "xrder 0", "ordex 0",
            "xant 1 worth 2 day 3", "wanx 1 worth 2 day 3"}) {
            fault(word, 0);
        }
        fault("phrase 1 xinutes 5", 9);
        fault("phrase 1 minutex 5", 9);
        fault("phrase 1 xound 5", 9);
        fault("phrase 1 sounx 5", 9);
        fault("want 1 xorth 2 day 3", 7);
        fault("want 1 wortx 2 day 3", 7);
        fault("want 1 worth 2 xay 3", 15);
        fault("want 1 worth 2 dax 3", 15);
        fault("want 1 worth 2 day 3 xurry", 21);
        fault("want 1 worth 2 day 3 hurrx", 21);
        fault("want 1 worth 2 day 3 xount", 21);
        fault("want 1 worth 2 day 3 counx", 21);
    }

    /** A blank ends a token: a word or a number in two parts are two. */
    static void promise35TokensInTwoParts() {
        fault("li ne 5", 0);
        fault("phr ase 1", 0);
        fault("line 5 0", 7);
        fault("phrase 1 2", 9);
    }

    static void promise35NumbersAsLongAsCanBe() {
        fault("phrase 10", 7);
        fault("phrase 11minutes 5", 7);
        items("order 01 2", 1);
        fault("order 12", 6);
    }

    static void promise35NumberOfNineHundredNinetyNine() {
        fault("line 999", 5);
        fault("line 1000", 5);
        fault("line 1001", 5);
        fault("phrase 1000", 7);
    }

    /** So great that it would wrap around to 5, or to 4 in 64 bits. */
    static void promise35NumberThatWouldWrapAround() {
        fault("line 4294967301", 5);
        fault("line 18446744073709551620", 5);
        fault("line 1" + "0".repeat(100), 5);
    }

    static void promise35ZerosAhead() {
        TwentyPhrases x = new TwentyPhrases();
        Edges.due(Edges.book(x, "line 007"), 1);
        Edges.due(x.now(1), 7);
        Edges.due(Edges.book(x, "line " + "0".repeat(112) + "100"), 1);
        Edges.due(x.now(1), 100);
        Edges.due(Edges.book(x, "line 0000"), -1 - 5);
    }

    /** Each byte behind "line 5": what it is to the text. */
    static void promise35EachByteBehindAnItem() {
        for (int b = 0; b < 256; b++) {
            TwentyPhrases x = new TwentyPhrases();
            int due = -1 - 6;
            if (b >= '0' && b <= '9' || b == ' ') {
                due = 1;
            } else if (b == ';') {
                due = -1 - 7;
            }
            Edges.feed(x, "line 5");
            x.feed(b, 1);
            Edges.due(x.book(), due);
        }
    }

    static void promise35EachByteAlone() {
        for (int b = 0; b < 256; b++) {
            TwentyPhrases x = new TwentyPhrases();
            x.feed(b, 1);
            Edges.due(x.book(), b == ' ' ? -2 : -1);
        }
    }

    /** The first byte of a TOKEN, not the one behind which it can't go on. */
    static void promise35PlaceOfTheFirstByte() {
        fault("   linx 5", 3);
        fault("line   101", 7);
        fault("line 5  ;  sound", 11);
    }

    static void promise35SignsAtTheEnds() {
        fault(";", 0);
        fault(";line 5", 0);
        fault("line 5;", 7);
        fault("line 5; ", 8);
        fault("line 5;;line 6", 7);
        fault("line 5 line 6", 7);
    }

    // ---- book: phrases

    static void promise35PhraseWithoutMore() {
        TwentyPhrases x = new TwentyPhrases();
        Edges.due(Edges.book(x, "phrase 0;thing 1;rope 2;number 3;mending 4;urgent 9"), 6);
        int[] topics = {0, 1, 2, 3, 4, 9};
        for (int kind = 0; kind <= 5; kind++) {
            Edges.duePhrase(x, kind, kind, topics[kind], 5, 7, 0, 0);
        }
    }

    static void promise35TopicBounds() {
        items("phrase 0; phrase 9; want 0 worth 1 day 1; want 9 worth 1 day 1", 4);
        fault("phrase 10", 7);
        fault("want 10", 5);
    }

    static void promise35MinutesBounds() {
        TwentyPhrases x = new TwentyPhrases();
        Edges.due(Edges.book(x, "phrase 1 minutes 1; phrase 1 minutes 60"), 2);
        Edges.duePhrase(x, 0, 0, 1, 1, 7);
        Edges.duePhrase(x, 1, 0, 1, 60, 7);
        fault("phrase 1 minutes 0", 17);
        fault("phrase 1 minutes 61", 17);
    }

    static void promise35SoundBounds() {
        TwentyPhrases x = new TwentyPhrases();
        Edges.due(Edges.book(x, "phrase 1 sound 0; phrase 1 sound 10"), 2);
        Edges.duePhrase(x, 0, 0, 1, 5, 0);
        Edges.duePhrase(x, 1, 0, 1, 5, 10);
        fault("phrase 1 sound 11", 15);
    }

    static void promise35PhraseEndsTooEarly() {
        fault("phrase", 6);
        fault("phrase 1 minutes", 16);
        fault("phrase 1 minutes 5 sound", 24);
        fault("phrase 1 sound ", 15);
    }

    static void promise35PhrasePartsInTheirOrder() {
        fault("phrase 1 sound 5 minutes 5", 17);
        fault("phrase minutes 5", 7);
        fault("phrase 1 minutes sound 5", 17);
        fault("phrase 1 minutes 5 minutes 5", 19);
        fault("phrase 1 sound 5 sound 5", 17);
        fault("phrase 1 hurry", 9);
        fault("phrase ;", 7);
    }

    static void promise35TwelfthPhrase() {
        TwentyPhrases x = new TwentyPhrases();
        Edges.due(Edges.book(x, TWELVE_ROPES), 12);
        Edges.due(x.count(0), 12);
        TwentyPhrases y = Edges.ofKinds(0, 0, 0, 0, 0, 0, 0, 0, 0, 0, 0);
        Edges.due(Edges.book(y, "urgent 5"), 1);
        Edges.duePhrase(y, 11, 5, 5, 5, 7, 0, 0);
    }

    static void promise35ThirteenthPhrase() {
        fault(TwentyPhrases::new, TWELVE_ROPES + "; rope 1", 85);
        for (String name : new String[] {"phrase", "thing", "rope", "number", "mending", "urgent"}) {
            fault(Edges::full, name + " 1", 0);
            fault(Edges::full, "line 5; " + name, 8);
        }
    }

    /** The usual book has six: there is room for six more. */
    static void promise35ThirteenthWithThoseThere() {
        TwentyPhrases x = Edges.usual();
        Edges.due(Edges.book(x, "rope 1;rope 1;rope 1;rope 1;rope 1;rope 1"), 6);
        Edges.due(x.count(0), 12);
        fault("rope 1;rope 1;rope 1;rope 1;rope 1;rope 1;rope 1", 42);
    }

    // ---- book: wants

    static void promise35WorthAndDayBounds() {
        TwentyPhrases x = new TwentyPhrases();
        Edges.due(Edges.book(x, "want 0 worth 0 day 0; want 9 worth 99 day 99"), 2);
        Edges.dueWant(x, 0, 0, 0, 0, 0, 0);
        Edges.dueWant(x, 1, 9, 99, 99, 0, 0);
        fault("want 1 worth 100 day 5", 13);
        fault("want 1 worth 5 day 100", 19);
    }

    static void promise35HurryAndCount() {
        TwentyPhrases x = new TwentyPhrases();
        Edges.due(Edges.book(x, "want 1 worth 2 day 3; want 1 worth 2 day 3 hurry; want 1 worth 2 day 3 count"), 3);
        Edges.due(Edges.book(x, "want 1 worth 2 day 3 hurry count"), 1);
        Edges.dueWant(x, 0, 1, 2, 3, 0, 0);
        Edges.dueWant(x, 1, 1, 2, 3, 1, 0);
        Edges.dueWant(x, 2, 1, 2, 3, 0, 1);
        Edges.dueWant(x, 3, 1, 2, 3, 1, 1);
        fault("want 1 worth 2 day 3 count hurry", 27);
        fault("want 1 worth 2 day 3 hurry hurry", 27);
        fault("want 1 worth 2 day 3 count count", 27);
    }

    static void promise35WantEndsTooEarly() {
        fault("want", 4);
        fault("want 1", 6);
        fault("want 1 worth", 12);
        fault("want 1 worth 2", 14);
        fault("want 1 worth 2 day", 18);
    }

    static void promise35WantPartsInTheirOrder() {
        fault("want worth 2", 5);
        fault("want 1 day 3", 7);
        fault("want 1 worth day 3", 13);
        fault("want 1 worth 2 hurry", 15);
        fault("want 1 worth 2 day hurry", 19);
        fault("want 1 worth 2; line 5", 14);
        fault("want 1 minutes 5", 7);
    }

    static void promise35TwelfthWant() {
        TwentyPhrases x = new TwentyPhrases();
        for (int i = 0; i < 11; i++) {
            x.want(0, 0, 0);
        }
        Edges.due(Edges.book(x, "want 1 worth 2 day 3"), 1);
        Edges.dueWant(x, 11, 1, 2, 3, 0, 0);
    }

    static void promise35ThirteenthWant() {
        fault(Edges::full, "want 1 worth 2 day 3", 0);
        fault(Edges::full, "line 5; want", 8);
        fault(() -> {
            TwentyPhrases x = new TwentyPhrases();
            for (int i = 0; i < 11; i++) {
                x.want(0, 0, 0);
            }
            return x;
        }, "want 1 worth 2 day 3;want 1 worth 2 day 3", 21);
    }

    // ---- book: line and order

    static void promise35LineBounds() {
        TwentyPhrases x = new TwentyPhrases();
        Edges.due(Edges.book(x, "line 1"), 1);
        Edges.due(x.now(1), 1);
        Edges.due(Edges.book(x, "line 100"), 1);
        Edges.due(x.now(1), 100);
        fault("line 0", 5);
        fault("line 101", 5);
        fault("line", 4);
        fault("line ;", 5);
        fault("line line", 5);
    }

    static void promise35OrderOfNone() {
        fault("order", 5);
        fault("order;line 5", 5);
        fault("order line 5", 6);
        fault("order x", 6);
    }

    static void promise35OrderOfOne() {
        TwentyPhrases x = Edges.usual();
        Edges.due(Edges.book(x, "order 0"), 1);
        Edges.dueOrder(x, 0);
    }

    /** It is these, not these behind those that were there. */
    static void promise35OrderInsteadOfTheOldOne() {
        TwentyPhrases x = Edges.usual();
        Edges.due(Edges.book(x, "order 0 5; order 3 1"), 2);
        Edges.dueOrder(x, 3, 1);
    }

    static void promise35OrderOfTwelve() {
        TwentyPhrases x = Edges.full();
        Edges.due(Edges.book(x, "order 11 10 9 8 7 6 5 4 3 2 1 0"), 1);
        Edges.dueOrder(x, 11, 10, 9, 8, 7, 6, 5, 4, 3, 2, 1, 0);
        fault(Edges::full, "order 11 10 9 8 7 6 5 4 3 2 1 0 0", 32);
        fault(Edges::full, "order 11 10 9 8 7 6 5 4 3 2 1 0 12", 32);
    }

    static void promise35OrderOfPhrasesNotThere() {
        fault("order 6", 6);
        fault("order 0 6", 8);
        fault("order 0 1000", 8);
        fault(TwentyPhrases::new, "order 0", 6);
        fault(Edges::full, "order 12", 6);
    }

    /** There by then: told earlier in the same text, not later. */
    static void promise35OrderOfPhrasesThereByThen() {
        TwentyPhrases x = new TwentyPhrases();
        Edges.due(Edges.book(x, "rope 1; thing 2; order 1 0"), 3);
        Edges.dueOrder(x, 1, 0);
        fault(TwentyPhrases::new, "rope 1; order 1 0; thing 2", 14);
        fault(TwentyPhrases::new, "order 0; rope 1", 6);
    }

    static void promise35OrderWithOneTwice() {
        fault("order 0 0", 8);
        fault("order 0 1 0", 10);
        fault("order 1 2 3 002", 12);
    }

    /** The same PHRASE may stand in two orders, one behind the other. */
    static void promise35SameOrderTwice() {
        TwentyPhrases x = three();
        Edges.due(Edges.book(x, "order 0 1; order 0 1"), 2);
        Edges.dueOrder(x, 0, 1);
    }

    // ---- book: a fault behind good items

    static void promise35FaultBehindGoodItems() {
        fault("rope 1; want 1 worth 2 day 3 hurry; line 9; order 6 0; line 0", 60);
        fault("rope 1; order 6 0; order 0 0", 27);
        fault(TwentyPhrases::new, "rope 1; want 1 worth 2 day 3; line 5; order 0; x", 47);
    }

    /** Items come to what there is: the others stay as they were. */
    static void promise35ItemsComeToWhatThereIs() {
        TwentyPhrases x = Edges.usual();
        int[] was = new int[6];
        for (int what = 0; what <= 5; what++) {
            was[what] = x.of(0, what);
        }
        int score = x.now(2);
        Edges.due(Edges.book(x, "urgent 9; want 9 worth 9 day 9"), 2);
        Edges.duePhrase(x, 0, was);
        Edges.duePhrase(x, 6, 5, 9, 5, 7, 0, 0);
        Edges.dueWant(x, 0, 0, 50, 0, 0, 0);
        Edges.dueWant(x, 3, 9, 9, 9, 0, 0);
        Edges.dueOrder(x, 5, 1, 2);
        Edges.due(x.now(0), 1);
        Edges.due(x.now(1), 55);
        Edges.due(x.now(2), score);
    }

    /** The place of one that undo() took away holds nothing of it. */
    static void promise35NewOnesHoldNothing() {
        TwentyPhrases x = new TwentyPhrases();
        x.image();
        x.phrase(0, 0, 1, 10);
        x.want(0, 50, 0);
        x.change(0, Edges.HURRY, 1);
        x.change(0, Edges.COUNT, 1);
        x.set(0, Edges.HELD, 90);
        x.days(1);
        x.undo();
        Edges.due(Edges.book(x, "rope 1; want 2 worth 3 day 4"), 2);
        Edges.duePhrase(x, 0, 2, 1, 5, 7, 0, 0);
        Edges.dueWant(x, 0, 2, 3, 4, 0, 0);
    }
}

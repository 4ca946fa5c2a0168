/** Boundary cases of promises 1 and 41 to 45: a new object, images, counts. */
final class ImageEdges {
    private ImageEdges() {
    }

    private static TwentyPhrases torn() {
        TwentyPhrases x = Edges.usual();
        x.tear();
        return x;
    }

    // ---- a new object

    static void promise01NoPhrases() {
        Edges.due(new TwentyPhrases().count(0), 0);
        Edges.due(new TwentyPhrases().of(0, 0), Edges.BEYOND);
        Edges.due(new TwentyPhrases().known(), 0);
        Edges.due(new TwentyPhrases().phrase(0, 0, 1, 0), 0);
    }

    static void promise01NoWants() {
        Edges.due(new TwentyPhrases().count(1), 0);
        Edges.due(new TwentyPhrases().wantOf(0, 0), Edges.BEYOND);
        Edges.due(new TwentyPhrases().want(0, 0, 0), 0);
    }

    static void promise01EmptyOrder() {
        Edges.dueOrder(new TwentyPhrases());
    }

    static void promise01EmptyTape() {
        Edges.due(new TwentyPhrases().count(3), 0);
        Edges.due(new TwentyPhrases().wipe(), 0);
        Edges.due(new TwentyPhrases().book(), -1);
    }

    static void promise01NoImage() {
        Edges.due(new TwentyPhrases().undo(), Edges.NONE);
        Edges.due(new TwentyPhrases().tear(), 0);
    }

    static void promise01FirstLineDayAndScore() {
        TwentyPhrases x = new TwentyPhrases();
        Edges.due(x.now(0), 0);
        Edges.due(x.now(1), 60);
        Edges.due(x.now(2), 0);
    }

    static void promise01SheetsAreMissing() {
        for (int s = 0; s <= 3; s++) {
            Edges.due(new TwentyPhrases().write(s, 0, 0), Edges.MISSING);
        }
    }

    static void promise01NothingTold() {
        Edges.dueStatus(new TwentyPhrases(), 0, 0, 0, 0, 0, 0, 0, 0);
    }

    /** What one object holds is none of another's. */
    static void promise01ObjectsAreApart() {
        TwentyPhrases x = new TwentyPhrases();
        TwentyPhrases y = Edges.usual();
        y.of(99, 0);
        y.days(30);
        Edges.dueAlike(x, new TwentyPhrases());
    }

    // ---- image

    static void promise41OfANewObject() {
        TwentyPhrases x = new TwentyPhrases();
        Edges.due(x.image(), 1);
        x.phrase(0, 0, 1, 0);
        x.want(0, 0, 0);
        x.queue(0);
        x.line(1);
        x.days(5);
        Edges.due(x.undo(), 0);
        x.tear();
        Edges.dueAlike(x, new TwentyPhrases());
    }

    static void promise41AgainAndAgain() {
        TwentyPhrases x = new TwentyPhrases();
        for (int i = 1; i <= 12; i++) {
            x.phrase(0, 0, 1, 0);
            Edges.due(x.image(), 1);
        }
        Edges.due(x.undo(), 12);
        Edges.due(x.tear(), 1);
        Edges.due(x.tear(), 0);
    }

    static void promise41OfAFullBook() {
        TwentyPhrases x = Edges.full();
        Edges.due(x.image(), 1);
        for (int i = 0; i < 12; i++) {
            x.set(i, Edges.HELD, 100);
            x.set(i, Edges.TOPIC, 9);
            x.set(i, Edges.MINUTES, 60);
            x.set(i, Edges.SOUND, 10);
            x.turn(i, 5);
            x.change(i, Edges.WORTH, 99);
            x.change(i, Edges.DAY, 3);
            x.change(i, Edges.HURRY, 1);
            x.change(i, Edges.COUNT, 1);
            x.skip(i);
        }
        x.days(4);
        x.line(100);
        Edges.due(x.undo(), 12);
        TwentyPhrases y = Edges.full();
        y.image();
        Edges.dueAlike(x, y);
    }

    static void promise41ChangesNothingElse() {
        TwentyPhrases x = torn();
        Edges.due(x.image(), 1);
        x.tear();
        Edges.dueAlike(x, torn());
    }

    /** THE TAPE and SHEETS are not kept. */
    static void promise41TapeAndSheetsNot() {
        TwentyPhrases x = Edges.usual();
        x.image();
        x.wipe();
        x.feed('a', 1);
        x.write(0, 1, 9);
        x.sheet(1, 0, 0);
        x.sheet(3, 8, 1);
        Edges.due(x.undo(), 6);
        Edges.due(x.count(3), 1);
        Edges.dueNumbers(x, 0, 0, 9, 0);
        Edges.due(x.write(1, 0, 0), Edges.MISSING);
        Edges.dueNumbers(x, 3, 0);
    }

    /** What comes later doesn't come into what is kept. */
    static void promise41KeptStaysAsItWas() {
        TwentyPhrases x = Edges.ofKinds(0, 1);
        x.queue(1);
        x.image();
        x.set(0, Edges.HELD, 50);
        x.queue(0);
        x.undo();
        Edges.due(x.of(0, Edges.HELD), 0);
        Edges.dueOrder(x, 1);
        x.set(0, Edges.HELD, 70);
        x.queue(0);
        x.undo();
        Edges.due(x.of(0, Edges.HELD), 0);
        Edges.dueOrder(x, 1);
    }

    // ---- undo

    static void promise42NothingIsKept() {
        Edges.refused(Edges.NONE, TwentyPhrases::new, TwentyPhrases::undo);
        Edges.refused(Edges.NONE, ImageEdges::torn, TwentyPhrases::undo);
    }

    static void promise42WhatIsKeptStays() {
        TwentyPhrases x = Edges.usual();
        for (int i = 0; i < 3; i++) {
            Edges.due(x.undo(), 6);
            Edges.due(x.count(1), 0);
            x.want(0, 0, 0);
            x.phrase(0, 0, 1, 0);
        }
    }

    static void promise42KeptLatest() {
        TwentyPhrases x = Edges.usual();
        x.image();
        x.phrase(0, 0, 1, 0);
        Edges.due(x.undo(), 6);
        Edges.due(x.count(1), 3);
        Edges.due(x.now(0), 1);
        Edges.due(x.now(1), 55);
    }

    static void promise42NoPhrases() {
        TwentyPhrases x = new TwentyPhrases();
        x.image();
        Edges.due(x.undo(), 0);
        Edges.due(x.status(-1), 0);
    }

    /** From a book with more than was kept, and from one with less. */
    static void promise42FromMoreAndFromLess() {
        TwentyPhrases x = Edges.ofKinds(0, 1, 2);
        x.image();
        x.phrase(3, 3, 3, 3);
        Edges.due(x.undo(), 3);
        Edges.due(x.of(3, 0), Edges.BEYOND);
        Edges.due(x.phrase(4, 4, 4, 4), 3);
        Edges.duePhrase(x, 3, 4, 4, 4, 4, 0, 0);
    }

    /** An object whose DAYS are all gone can go on from the one that was kept. */
    static void promise42FromTheLastDay() {
        TwentyPhrases x = Edges.usual();
        x.image();
        Edges.goTo(x, 99);
        Edges.due(x.days(1), Edges.STATE);
        Edges.due(x.undo(), 6);
        Edges.due(x.now(0), 1);
        x.days(1);
        Edges.due(x.now(0), 2);
    }

    static void promise42StatusIsNotTakenBack() {
        TwentyPhrases x = Edges.usual();
        x.image();
        x.of(-1, 0);
        x.as(0, 1);
        x.undo();
        Edges.dueStatus(x, 2, 1, 0, 1, 0, 0, 0, 0);
    }

    // ---- tear

    static void promise43NothingWasKept() {
        Edges.unchanging(TwentyPhrases::new, TwentyPhrases::tear, 0);
        Edges.unchanging(ImageEdges::torn, TwentyPhrases::tear, 0);
    }

    static void promise43SomethingWasKept() {
        TwentyPhrases x = Edges.usual();
        Edges.due(x.tear(), 1);
        Edges.due(x.tear(), 0);
        Edges.due(x.undo(), Edges.NONE);
        Edges.due(x.count(1), 3);
    }

    static void promise43AnImageOfNothing() {
        TwentyPhrases x = new TwentyPhrases();
        x.image();
        Edges.due(x.tear(), 1);
    }

    static void promise43AnImageBehindIt() {
        TwentyPhrases x = torn();
        x.image();
        x.phrase(0, 0, 1, 0);
        Edges.due(x.undo(), 6);
        Edges.due(x.count(1), 3);
    }

    // ---- count

    static void promise44WhatBeyond() {
        for (int what : new int[] {Edges.MIN, -1, 6, Edges.MAX}) {
            Edges.refused(Edges.BEYOND, x -> x.count(what));
        }
    }

    static void promise44AllNothing() {
        for (int what = 0; what <= 5; what++) {
            int each = what;
            Edges.unchanging(TwentyPhrases::new, x -> x.count(each), 0);
        }
    }

    static void promise44MostThatCanBe() {
        TwentyPhrases x = Edges.full();
        for (int phrase = 0; phrase < 12; phrase++) {
            x.set(phrase, Edges.HELD, 100);
        }
        for (int i = 0; i < 120; i++) {
            x.feed('a', 1);
        }
        int[] counts = {12, 12, 12, 120, 1200, 0};
        for (int what = 0; what <= 5; what++) {
            Edges.due(x.count(what), counts[what]);
        }
    }

    /** USED of all: each WANT of each DAY counts. */
    static void promise44UsedOfAll() {
        TwentyPhrases x = Edges.ofKinds(0, 2);
        x.set(0, Edges.HELD, 100);
        x.set(1, Edges.HELD, 100);
        for (int i = 0; i < 6; i++) {
            x.want(0, 50, 0);
            x.want(1, 50, 1);
        }
        x.days(2);
        Edges.due(x.of(0, Edges.USED), 6);
        Edges.due(x.of(1, Edges.USED), 6);
        Edges.due(x.count(5), 12);
    }

    // ---- status

    static void promise45WhichBeyond() {
        for (int which : new int[] {Edges.MIN, -2, 7, Edges.MAX}) {
            Edges.refused(Edges.BEYOND, x -> x.status(which));
        }
    }

    /** One that is asked for wrongly counts from then on. */
    static void promise45CountedFromThenOn() {
        TwentyPhrases x = new TwentyPhrases();
        Edges.due(x.status(7), Edges.BEYOND);
        Edges.dueStatus(x, 1, 1, 0, 0, 0, 0, 0, 0);
        Edges.due(x.status(-2), Edges.BEYOND);
        Edges.dueStatus(x, 2, 2, 0, 0, 0, 0, 0, 0);
    }

    static void promise45FirstFindingAndLast() {
        TwentyPhrases x = new TwentyPhrases();
        x.ith(0);
        x.sheet(0, 8, -1);
        Edges.dueStatus(x, 2, 1, 0, 0, 0, 0, 0, 1);
    }

    static void promise45EachFinding() {
        TwentyPhrases x = Edges.full();
        x.ith(12);
        x.phrase(0, 0, 1, 0);
        x.as(0, 1);
        x.undo();
        Edges.goTo(x, 40);
        x.forgot(0);
        x.read(0);
        x.plan(63, 0, 1, 0);
        Edges.dueStatus(x, 7, 1, 1, 1, 1, 1, 1, 1);
    }

    /** Neither a FAULT nor a number like a finding is one. */
    static void promise45WhatIsNoFinding() {
        TwentyPhrases x = new TwentyPhrases();
        x.book();
        x.sheet(0, 64, 1);
        x.write(0, 0, Edges.BEYOND);
        x.write(0, 0, 0);
        x.tear();
        Edges.dueStatus(x, 0, 0, 0, 0, 0, 0, 0, 0);
    }

    static void promise45AsManyAsCanBe() {
        TwentyPhrases x = new TwentyPhrases();
        for (int i = 0; i < 503; i++) {
            x.ith(0);
        }
        Edges.dueStatus(x, 503, 503, 0, 0, 0, 0, 0, 0);
    }
}

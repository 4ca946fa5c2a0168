/** Boundary cases of promises 19 to 25: learning. */
final class LearningEdges {
    private LearningEdges() {
    }

    /** PHRASES with as many minutes, all in THE ORDER by numbers. */
    private static TwentyPhrases queued(int... minutes) {
        TwentyPhrases x = new TwentyPhrases();
        for (int phrase = 0; phrase < minutes.length; phrase++) {
            x.phrase(Edges.PHRASE, 0, minutes[phrase], 10);
            x.queue(phrase);
        }
        return x;
    }

    private static void dueHeld(TwentyPhrases x, int... held) {
        for (int phrase = 0; phrase < held.length; phrase++) {
            Edges.due(x.of(phrase, Edges.HELD), held[phrase]);
        }
    }

    // ---- queue

    static void promise19NoSuchPhrase() {
        for (int phrase : new int[] {Edges.MIN, -1, 6, Edges.MAX}) {
            Edges.refused(Edges.BEYOND, x -> x.queue(phrase));
        }
        Edges.refused(Edges.BEYOND, Edges::full, x -> x.queue(12));
        Edges.refused(Edges.BEYOND, TwentyPhrases::new, x -> x.queue(0));
    }

    static void promise19FirstIntoAnEmptyOrder() {
        TwentyPhrases x = Edges.ofKinds(0, 0, 0);
        Edges.due(x.queue(2), 1);
        Edges.dueOrder(x, 2);
    }

    static void promise19TheOnlyOneAgain() {
        TwentyPhrases x = queued(5);
        Edges.due(x.queue(0), 1);
        Edges.dueOrder(x, 0);
    }

    static void promise19TheFirstAgain() {
        TwentyPhrases x = queued(5, 5, 5);
        Edges.due(x.queue(0), 3);
        Edges.dueOrder(x, 1, 2, 0);
    }

    static void promise19OneInTheMiddleAgain() {
        TwentyPhrases x = queued(5, 5, 5);
        Edges.due(x.queue(1), 3);
        Edges.dueOrder(x, 0, 2, 1);
    }

    static void promise19TheLastAgain() {
        TwentyPhrases x = queued(5, 5, 5);
        Edges.due(x.queue(2), 3);
        Edges.dueOrder(x, 0, 1, 2);
    }

    static void promise19AllTwelve() {
        TwentyPhrases x = Edges.full();
        Edges.dueOrder(x, 0, 1, 2, 3, 4, 5, 6, 7, 8, 9, 10, 11);
        Edges.due(x.queue(0), 12);
        Edges.due(x.queue(11), 12);
        Edges.dueOrder(x, 1, 2, 3, 4, 5, 6, 7, 8, 9, 10, 0, 11);
    }

    // ---- skip

    static void promise20NoSuchPhrase() {
        for (int phrase : new int[] {Edges.MIN, -1, 6, Edges.MAX}) {
            Edges.refused(Edges.BEYOND, x -> x.skip(phrase));
        }
        Edges.refused(Edges.BEYOND, TwentyPhrases::new, x -> x.skip(0));
    }

    static void promise20NotInTheOrder() {
        Edges.refused(Edges.NONE, x -> x.skip(0));
    }

    static void promise20EmptyOrder() {
        Edges.refused(Edges.NONE, () -> Edges.ofKinds(0), x -> x.skip(0));
    }

    static void promise20FirstMiddleLastAndOnly() {
        TwentyPhrases x = queued(5, 5, 5, 5);
        Edges.due(x.skip(0), 0);
        Edges.dueOrder(x, 1, 2, 3);
        Edges.due(x.skip(2), 1);
        Edges.dueOrder(x, 1, 3);
        Edges.due(x.skip(3), 1);
        Edges.dueOrder(x, 1);
        Edges.due(x.skip(1), 0);
        Edges.dueOrder(x);
    }

    static void promise20FromAFullOrder() {
        TwentyPhrases x = Edges.full();
        Edges.due(x.skip(11), 11);
        Edges.due(x.skip(0), 0);
        Edges.dueOrder(x, 1, 2, 3, 4, 5, 6, 7, 8, 9, 10);
        Edges.due(x.count(0), 12);
    }

    // ---- ith

    static void promise21EmptyOrder() {
        Edges.refused(Edges.BEYOND, () -> Edges.ofKinds(0), x -> x.ith(0));
        Edges.refused(Edges.BEYOND, () -> Edges.ofKinds(0), x -> x.ith(-1));
    }

    static void promise21TooSmall() {
        Edges.refused(Edges.BEYOND, x -> x.ith(-1));
        Edges.refused(Edges.BEYOND, x -> x.ith(Edges.MIN));
    }

    static void promise21TooLarge() {
        Edges.refused(Edges.BEYOND, x -> x.ith(3));
        Edges.refused(Edges.BEYOND, x -> x.ith(Edges.MAX));
        Edges.refused(Edges.BEYOND, Edges::full, x -> x.ith(12));
    }

    static void promise21FirstAndLast() {
        Edges.unchanging(Edges::usual, x -> x.ith(0), 5);
        Edges.unchanging(Edges::usual, x -> x.ith(2), 2);
        Edges.unchanging(Edges::full, x -> x.ith(11), 11);
    }

    /** One that went is no more in it, though its number once stood there. */
    static void promise21BehindOneThatWent() {
        TwentyPhrases x = queued(5, 5);
        x.skip(1);
        Edges.due(x.ith(1), Edges.BEYOND);
    }

    // ---- learn

    static void promise22MinutesTooFew() {
        for (int m : new int[] {0, -1, Edges.MIN}) {
            Edges.refused(Edges.BEYOND, x -> x.learn(0, m));
        }
    }

    static void promise22MinutesTooMany() {
        for (int m : new int[] {601, 1000, Edges.MAX}) {
            Edges.refused(Edges.BEYOND, x -> x.learn(0, m));
        }
    }

    static void promise22NoSuchPhrase() {
        for (int phrase : new int[] {Edges.MIN, -1, 6, Edges.MAX}) {
            Edges.refused(Edges.BEYOND, x -> x.learn(phrase, 1));
        }
        Edges.refused(Edges.BEYOND, TwentyPhrases::new, x -> x.learn(0, 1));
    }

    static void promise22OneMinuteOfSixty() {
        TwentyPhrases x = queued(60);
        Edges.due(x.learn(0, 1), 1);
        Edges.due(x.learn(0, 1), 2);
        Edges.due(x.learn(0, 2), 5);
    }

    static void promise22SixHundredMinutes() {
        Edges.due(queued(60).learn(0, 600), 100);
        Edges.due(queued(1).learn(0, 600), 100);
    }

    static void promise22JustItsMinutes() {
        Edges.due(queued(60).learn(0, 60), 100);
        Edges.due(queued(60).learn(0, 59), 98);
        Edges.due(queued(1).learn(0, 1), 100);
        Edges.due(queued(7).learn(0, 6), 85);
    }

    static void promise22HundredAtMost() {
        TwentyPhrases x = queued(10);
        x.set(0, Edges.HELD, 89);
        Edges.due(x.learn(0, 1), 99);
        Edges.due(x.learn(0, 1), 100);
        Edges.due(x.learn(0, 1), 100);
        Edges.due(x.of(0, Edges.HELD), 100);
    }

    /** One that isn't in THE ORDER can be learnt, and none comes into it. */
    static void promise22OutsideTheOrder() {
        TwentyPhrases x = Edges.ofKinds(0, 0);
        Edges.due(x.learn(1, 5), 100);
        dueHeld(x, 0, 100);
        Edges.dueOrder(x);
    }

    // ---- evening

    static void promise23MinutesTooFew() {
        Edges.refused(Edges.BEYOND, x -> x.evening(-1));
        Edges.refused(Edges.BEYOND, x -> x.evening(Edges.MIN));
    }

    static void promise23MinutesTooMany() {
        Edges.refused(Edges.BEYOND, x -> x.evening(601));
        Edges.refused(Edges.BEYOND, x -> x.evening(Edges.MAX));
    }

    static void promise23NoMinutes() {
        Edges.unchanging(() -> queued(5, 5), x -> x.evening(0), 0);
    }

    static void promise23SixHundredMinutes() {
        TwentyPhrases x = queued(60, 60, 60, 60, 60, 60, 60, 60, 60, 60, 60, 60);
        Edges.due(x.evening(600), 0);
        dueHeld(x, 100, 100, 100, 100, 100, 100, 100, 100, 100, 100, 0, 0);
        Edges.due(x.evening(600), 480);
        dueHeld(x, 100, 100, 100, 100, 100, 100, 100, 100, 100, 100, 100, 100);
        Edges.due(x.evening(600), 600);
    }

    static void promise23EmptyOrder() {
        Edges.unchanging(() -> Edges.ofKinds(0, 1), x -> x.evening(600), 600);
        Edges.unchanging(TwentyPhrases::new, x -> x.evening(600), 600);
    }

    static void promise23JustEnough() {
        TwentyPhrases x = queued(5, 7);
        Edges.due(x.evening(12), 0);
        dueHeld(x, 100, 100);
    }

    static void promise23OneMinuteTooFew() {
        TwentyPhrases x = queued(5, 7);
        Edges.due(x.evening(11), 0);
        dueHeld(x, 100, 85);
    }

    static void promise23OneMinuteTooMany() {
        TwentyPhrases x = queued(5, 7);
        Edges.due(x.evening(13), 1);
        dueHeld(x, 100, 100);
    }

    static void promise23NoneLeftForTheNext() {
        TwentyPhrases x = queued(5, 7);
        Edges.due(x.evening(5), 0);
        dueHeld(x, 100, 0);
    }

    static void promise23TheLastMinute() {
        TwentyPhrases x = queued(5, 7);
        Edges.due(x.evening(6), 0);
        dueHeld(x, 100, 14);
        TwentyPhrases y = queued(60);
        Edges.due(y.evening(1), 0);
        dueHeld(y, 1);
    }

    static void promise23KnownOnesArePassedBy() {
        TwentyPhrases x = queued(5, 7, 9);
        x.set(0, Edges.HELD, 60);
        x.set(1, Edges.HELD, 59);
        Edges.due(x.evening(600), 600 - 7 - 9);
        dueHeld(x, 60, 100, 100);
    }

    /** It is learnt for all its MINUTES, though fewer would make it KNOWN. */
    static void promise23ItsMinutesAtMost() {
        TwentyPhrases x = queued(10);
        x.set(0, Edges.HELD, 59);
        Edges.due(x.evening(20), 10);
        dueHeld(x, 100);
    }

    static void promise23ByTheOrderNotByNumbers() {
        TwentyPhrases x = queued(5, 5);
        x.queue(0);
        Edges.due(x.evening(5), 0);
        dueHeld(x, 0, 100);
    }

    static void promise23OrderStays() {
        TwentyPhrases x = queued(5, 5);
        x.evening(600);
        Edges.dueOrder(x, 0, 1);
        Edges.due(x.now(0), 0);
    }

    // ---- line

    static void promise24LeastAndMost() {
        TwentyPhrases x = new TwentyPhrases();
        Edges.due(x.line(1), 60);
        Edges.due(x.line(100), 1);
        Edges.due(x.line(100), 100);
        Edges.due(x.now(1), 100);
    }

    static void promise24TooSmall() {
        for (int v : new int[] {0, -1, Edges.MIN}) {
            Edges.refused(Edges.BEYOND, x -> x.line(v));
        }
    }

    static void promise24TooLarge() {
        for (int v : new int[] {101, Edges.MAX}) {
            Edges.refused(Edges.BEYOND, x -> x.line(v));
        }
    }

    // ---- known

    static void promise25NoPhrases() {
        Edges.unchanging(TwentyPhrases::new, TwentyPhrases::known, 0);
    }

    static void promise25HeldIsLine() {
        TwentyPhrases x = Edges.ofKinds(0, 0, 0);
        x.set(0, Edges.HELD, 61);
        x.set(1, Edges.HELD, 60);
        x.set(2, Edges.HELD, 59);
        Edges.due(x.known(), 3);
    }

    static void promise25LeastLine() {
        TwentyPhrases x = Edges.ofKinds(0, 0);
        x.line(1);
        x.set(1, Edges.HELD, 1);
        Edges.due(x.known(), 2);
    }

    static void promise25GreatestLine() {
        TwentyPhrases x = Edges.ofKinds(0, 0);
        x.line(100);
        x.set(0, Edges.HELD, 99);
        x.set(1, Edges.HELD, 100);
        Edges.due(x.known(), 2);
    }

    static void promise25AllTwelve() {
        TwentyPhrases x = Edges.full();
        Edges.due(x.known(), 0);
        for (int phrase = 0; phrase < 12; phrase++) {
            x.set(phrase, Edges.HELD, 60);
        }
        Edges.due(x.known(), 4095);
        x.set(11, Edges.HELD, 59);
        Edges.due(x.known(), 2047);
    }
}

/** Boundary cases of promises 7 to 13: wants. */
final class WantEdges {
    private WantEdges() {
    }

    /** One PHRASE of each kind, topic 0 and sound 10, with one WANT of topic 0. */
    private static TwentyPhrases wanting(int worth, int... kinds) {
        TwentyPhrases x = Edges.ofKinds(kinds);
        x.want(0, worth, 0);
        return x;
    }

    // ---- want

    static void promise07LeastOfAll() {
        TwentyPhrases x = new TwentyPhrases();
        Edges.due(x.want(0, 0, 0), 0);
        Edges.dueWant(x, 0, 0, 0, 0, 0, 0);
    }

    static void promise07MostOfAll() {
        TwentyPhrases x = new TwentyPhrases();
        Edges.due(x.want(9, 99, 99), 0);
        Edges.dueWant(x, 0, 9, 99, 99, 0, 0);
    }

    static void promise07TopicBeyond() {
        for (int topic : new int[] {Edges.MIN, -1, 10, Edges.MAX}) {
            Edges.refused(Edges.BEYOND, x -> x.want(topic, 1, 1));
        }
    }

    static void promise07WorthBeyond() {
        for (int worth : new int[] {Edges.MIN, -1, 100, Edges.MAX}) {
            Edges.refused(Edges.BEYOND, x -> x.want(1, worth, 1));
        }
    }

    static void promise07DayBeyond() {
        for (int day : new int[] {Edges.MIN, -1, 100, Edges.MAX}) {
            Edges.refused(Edges.BEYOND, x -> x.want(1, 1, day));
        }
    }

    static void promise07TwelfthHasRoom() {
        TwentyPhrases x = new TwentyPhrases();
        for (int i = 0; i < 12; i++) {
            Edges.due(x.want(i % 10, i, 2 * i), i);
        }
        Edges.due(x.count(1), 12);
        Edges.dueWant(x, 0, 0, 0, 0, 0, 0);
        Edges.dueWant(x, 11, 1, 11, 22, 0, 0);
    }

    static void promise07ThirteenthIsFull() {
        Edges.refused(Edges.FULL, Edges::full, x -> x.want(0, 0, 0));
    }

    static void promise07BeyondAheadOfFull() {
        Edges.refused(Edges.BEYOND, Edges::full, x -> x.want(10, 0, 0));
        Edges.refused(Edges.BEYOND, Edges::full, x -> x.want(0, 100, 0));
        Edges.refused(Edges.BEYOND, Edges::full, x -> x.want(0, 0, 100));
    }

    static void promise07FullOfPhrasesIsNotFullOfWants() {
        TwentyPhrases x = Edges.ofKinds(0, 0, 0, 0, 0, 0, 0, 0, 0, 0, 0, 0);
        Edges.due(x.want(0, 0, 0), 0);
        TwentyPhrases y = new TwentyPhrases();
        for (int i = 0; i < 12; i++) {
            y.want(0, 0, 0);
        }
        Edges.due(y.phrase(0, 0, 1, 0), 0);
    }

    /** A day that is gone may still be wanted. */
    static void promise07DayGoneIsNotBeyond() {
        TwentyPhrases x = Edges.usualOn(50);
        Edges.due(x.want(0, 5, 0), 3);
        Edges.due(x.now(3), 0);
    }

    /** The place of one that undo() took away holds nothing of it. */
    static void promise07NoHurryAndNoCountAtFirst() {
        TwentyPhrases x = new TwentyPhrases();
        x.image();
        x.want(1, 2, 3);
        x.change(0, Edges.HURRY, 1);
        x.change(0, Edges.COUNT, 1);
        x.undo();
        Edges.due(x.want(4, 5, 6), 0);
        Edges.dueWant(x, 0, 4, 5, 6, 0, 0);
    }

    // ---- wantOf

    static void promise08NoSuchWant() {
        for (int want : new int[] {Edges.MIN, -1, 3, Edges.MAX}) {
            Edges.refused(Edges.BEYOND, x -> x.wantOf(want, 0));
        }
        Edges.refused(Edges.BEYOND, Edges::full, x -> x.wantOf(12, 0));
    }

    static void promise08NoWantAtAll() {
        Edges.refused(Edges.BEYOND, () -> Edges.ofKinds(0), x -> x.wantOf(0, 0));
    }

    static void promise08WhatBeyond() {
        for (int what : new int[] {Edges.MIN, -1, 5, Edges.MAX}) {
            Edges.refused(Edges.BEYOND, x -> x.wantOf(0, what));
        }
    }

    static void promise08FirstWhatAndLast() {
        Edges.unchanging(Edges::usual, x -> x.wantOf(2, 0), 2);
        Edges.unchanging(Edges::usual, x -> x.wantOf(2, 4), 1);
    }

    // ---- change

    static void promise09WorthToItsBounds() {
        TwentyPhrases x = wanting(50);
        Edges.due(x.change(0, Edges.WORTH, 99), 50);
        Edges.due(x.change(0, Edges.WORTH, 0), 99);
        Edges.dueWant(x, 0, 0, 0, 0, 0, 0);
    }

    static void promise09WorthBeyond() {
        for (int v : new int[] {Edges.MIN, -1, 100, Edges.MAX}) {
            Edges.refused(Edges.BEYOND, x -> x.change(0, Edges.WORTH, v));
        }
    }

    static void promise09DayToItsBounds() {
        TwentyPhrases x = wanting(50);
        Edges.due(x.change(0, Edges.DAY, 99), 0);
        Edges.due(x.change(0, Edges.DAY, 0), 99);
        Edges.dueWant(x, 0, 0, 50, 0, 0, 0);
    }

    static void promise09DayBeyond() {
        for (int v : new int[] {Edges.MIN, -1, 100, Edges.MAX}) {
            Edges.refused(Edges.BEYOND, x -> x.change(0, Edges.DAY, v));
        }
    }

    static void promise09HurryOnAndOff() {
        TwentyPhrases x = wanting(50);
        Edges.due(x.change(0, Edges.HURRY, 1), 0);
        Edges.dueWant(x, 0, 0, 50, 0, 1, 0);
        Edges.due(x.change(0, Edges.HURRY, 1), 1);
        Edges.due(x.change(0, Edges.HURRY, 0), 1);
        Edges.due(x.change(0, Edges.HURRY, 0), 0);
    }

    static void promise09HurryBeyond() {
        for (int v : new int[] {Edges.MIN, -1, 2, Edges.MAX}) {
            Edges.refused(Edges.BEYOND, x -> x.change(0, Edges.HURRY, v));
        }
    }

    static void promise09CountOnAndOff() {
        TwentyPhrases x = wanting(50);
        Edges.due(x.change(0, Edges.COUNT, 1), 0);
        Edges.dueWant(x, 0, 0, 50, 0, 0, 1);
        Edges.due(x.change(0, Edges.COUNT, 1), 1);
        Edges.due(x.change(0, Edges.COUNT, 0), 1);
        Edges.due(x.change(0, Edges.COUNT, 0), 0);
    }

    static void promise09CountBeyond() {
        for (int v : new int[] {Edges.MIN, -1, 2, Edges.MAX}) {
            Edges.refused(Edges.BEYOND, x -> x.change(0, Edges.COUNT, v));
        }
    }

    /** The TOPIC (what 0) of a WANT can't be changed. */
    static void promise09WhatBeyond() {
        for (int what : new int[] {Edges.MIN, -1, 0, 5, Edges.MAX}) {
            Edges.refused(Edges.BEYOND, x -> x.change(0, what, 1));
        }
    }

    static void promise09NoSuchWant() {
        for (int want : new int[] {Edges.MIN, -1, 3, Edges.MAX}) {
            Edges.refused(Edges.BEYOND, x -> x.change(want, 1, 1));
        }
        Edges.refused(Edges.BEYOND, Edges::full, x -> x.change(12, 1, 1));
        Edges.refused(Edges.BEYOND, TwentyPhrases::new, x -> x.change(0, 1, 1));
    }

    // ---- gain

    static void promise10NoSuchPhrase() {
        for (int phrase : new int[] {Edges.MIN, -1, 6, Edges.MAX}) {
            Edges.refused(Edges.BEYOND, x -> x.gain(phrase, 0, 0));
        }
    }

    static void promise10NoSuchWant() {
        for (int want : new int[] {Edges.MIN, -1, 3, Edges.MAX}) {
            Edges.refused(Edges.BEYOND, x -> x.gain(0, want, 0));
        }
    }

    /** A set with one that isn't there is none, though those that are there are in it. */
    static void promise10NoSuchSet() {
        for (int set : new int[] {Edges.MIN, -1, 64, 65, 1 << 12, Edges.MAX}) {
            Edges.refused(Edges.BEYOND, x -> x.gain(0, 0, set));
        }
        Edges.refused(Edges.BEYOND, Edges::full, x -> x.gain(0, 0, 4096));
    }

    static void promise10WholeSet() {
        Edges.unchanging(Edges::usual, x -> x.gain(0, 0, 63), 25);
        Edges.unchanging(Edges::full, x -> x.gain(11, 11, 4095), 0);
    }

    static void promise10PhraseThatIsNotInTheSet() {
        TwentyPhrases x = wanting(50, Edges.PHRASE, Edges.ROPE, Edges.THING);
        Edges.due(x.gain(0, 0, 0), 50);
        Edges.due(x.gain(1, 0, 0), 12);
        Edges.due(x.gain(2, 0, 0), 25);
        Edges.due(x.gain(2, 0, 2), 50);
    }

    static void promise10TopicsAreNotTheSame() {
        int[] gains = {0, 0, 12, 0, 13, 0};
        for (int kind = 0; kind <= 5; kind++) {
            TwentyPhrases x = wanting(50, kind);
            x.set(0, Edges.TOPIC, 1);
            Edges.due(x.gain(0, 0, 1), gains[kind]);
        }
    }

    static void promise10NoWorth() {
        int[] gains = {0, 0, 0, 0, 1, 0};
        for (int kind = 0; kind <= 5; kind++) {
            Edges.due(wanting(0, kind).gain(0, 0, 1), gains[kind]);
        }
    }

    static void promise10NoSound() {
        int[] gains = {0, 0, 24, 0, 25, 0};
        for (int kind = 0; kind <= 5; kind++) {
            TwentyPhrases x = wanting(99, kind);
            x.set(0, Edges.SOUND, 0);
            Edges.due(x.gain(0, 0, 1), gains[kind]);
        }
    }

    /** 7 times 7 by 10 is 4; of 99 half is 49, a third of that 16, a third of all 33. */
    static void promise10QuotientsAreCut() {
        TwentyPhrases x = wanting(7, Edges.PHRASE);
        x.set(0, Edges.SOUND, 7);
        Edges.due(x.gain(0, 0, 0), 4);
        TwentyPhrases y = wanting(99, Edges.THING, Edges.NUMBER, Edges.ROPE);
        Edges.due(y.gain(0, 0, 3), 49);
        Edges.due(y.gain(1, 0, 3), 16);
        Edges.due(y.gain(1, 0, 7), 33);
        TwentyPhrases z = wanting(3, Edges.ROPE, Edges.MENDING);
        Edges.due(z.gain(0, 0, 0), 0);
        Edges.due(z.gain(1, 0, 0), 1);
        z.change(0, Edges.WORTH, 4);
        Edges.due(z.gain(0, 0, 0), 1);
        Edges.due(z.gain(1, 0, 0), 2);
    }

    /** Each quotient is cut by itself: 3 times (25 times 9 by 10) is 66, not 67. */
    static void promise10ThreeTimesWhatWasCut() {
        TwentyPhrases x = wanting(25, Edges.URGENT);
        x.set(0, Edges.SOUND, 9);
        x.change(0, Edges.HURRY, 1);
        Edges.due(x.gain(0, 0, 0), 66);
    }

    /** 71 by 2 is 35, by 3 is 11: not 71 by 6 of anything that wasn't cut. */
    static void promise10ThirdOfAHalfThatWasCut() {
        TwentyPhrases x = wanting(79, Edges.NUMBER);
        x.set(0, Edges.SOUND, 9);
        Edges.due(x.gain(0, 0, 1), 11);
        x.change(0, Edges.COUNT, 1);
        Edges.due(x.gain(0, 0, 1), 35);
    }

    /** A GAIN may be above WORTH; only what is MET may not. */
    static void promise10UrgentAboveWorth() {
        TwentyPhrases x = wanting(99, Edges.URGENT);
        Edges.due(x.gain(0, 0, 1), 99);
        x.change(0, Edges.HURRY, 1);
        Edges.due(x.gain(0, 0, 1), 297);
    }

    static void promise10HurryAndCountAreForTheirKindsAlone() {
        int[] gains = {99, 49, 24, 49, 25, 297};
        for (int kind = 0; kind <= 5; kind++) {
            TwentyPhrases x = wanting(99, kind);
            x.change(0, Edges.HURRY, 1);
            x.change(0, Edges.COUNT, 1);
            Edges.due(x.gain(0, 0, 0), gains[kind]);
        }
    }

    /** Only a ROPE, or a MENDING one under it, makes a THING whole. */
    static void promise10WhichKindsAreRopes() {
        int[] gains = {25, 25, 50, 25, 50, 25};
        for (int kind = 0; kind <= 5; kind++) {
            Edges.due(wanting(50, Edges.THING, kind).gain(0, 0, 3), gains[kind]);
        }
    }

    // ---- met

    static void promise11NoSuchWant() {
        for (int want : new int[] {Edges.MIN, -1, 3, Edges.MAX}) {
            Edges.refused(Edges.BEYOND, x -> x.met(want, 0));
        }
        Edges.refused(Edges.BEYOND, TwentyPhrases::new, x -> x.met(0, 0));
    }

    static void promise11NoSuchSet() {
        for (int set : new int[] {Edges.MIN, -1, 64, 1 << 12, Edges.MAX}) {
            Edges.refused(Edges.BEYOND, x -> x.met(0, set));
        }
        Edges.refused(Edges.BEYOND, Edges::full, x -> x.met(0, 4096));
    }

    static void promise11EmptySetHasFingers() {
        int[][] worthAndMet = {{0, 0}, {9, 0}, {10, 1}, {19, 1}, {20, 2}, {99, 9}};
        for (int[] each : worthAndMet) {
            Edges.due(wanting(each[0], Edges.PHRASE).met(0, 0), each[1]);
        }
    }

    static void promise11FingersDoMoreThanAGain() {
        TwentyPhrases x = wanting(99, Edges.PHRASE);
        x.set(0, Edges.SOUND, 0);
        Edges.due(x.met(0, 1), 9);
        x.set(0, Edges.SOUND, 1);
        Edges.due(x.met(0, 1), 9);
        x.set(0, Edges.SOUND, 2);
        Edges.due(x.met(0, 1), 19);
    }

    static void promise11WorthAtMost() {
        TwentyPhrases x = wanting(99, Edges.URGENT, Edges.MENDING);
        x.change(0, Edges.HURRY, 1);
        Edges.due(x.met(0, 1), 99);
        Edges.due(x.met(0, 3), 99);
    }

    /** 8 tenths and a fifth are just WORTH; 9 tenths and a fifth would be more. */
    static void promise11WorthJustReached() {
        TwentyPhrases x = wanting(50, Edges.PHRASE, Edges.MENDING);
        x.set(0, Edges.SOUND, 7);
        Edges.due(x.met(0, 3), 45);
        x.set(0, Edges.SOUND, 8);
        Edges.due(x.met(0, 3), 50);
        x.set(0, Edges.SOUND, 9);
        Edges.due(x.met(0, 3), 50);
    }

    static void promise11NoWorthIsNeverMet() {
        Edges.due(wanting(0, Edges.MENDING).met(0, 1), 0);
    }

    /** A fifth of 4 is nothing, of 5 it is 1; a quarter and 1 are 2. */
    static void promise11FifthIsCut() {
        Edges.due(wanting(4, Edges.MENDING).met(0, 1), 2);
        Edges.due(wanting(5, Edges.MENDING).met(0, 1), 3);
        Edges.due(wanting(1, Edges.MENDING).met(0, 1), 1);
    }

    static void promise11FifthOnceOnly() {
        Edges.due(wanting(50, Edges.MENDING, Edges.MENDING).met(0, 3), 23);
    }

    static void promise11FifthForMendingAlone() {
        int[] met = {50, 25, 12, 8, 23, 50};
        for (int kind = 0; kind <= 5; kind++) {
            Edges.due(wanting(50, kind).met(0, 1), met[kind]);
        }
    }

    static void promise11OnlyThoseInTheSet() {
        TwentyPhrases x = wanting(50, Edges.PHRASE, Edges.MENDING);
        Edges.due(x.met(0, 0), 5);
        Edges.due(x.met(0, 1), 50);
        Edges.due(x.met(0, 2), 23);
    }

    // ---- value

    static void promise12NoWants() {
        Edges.unchanging(() -> Edges.ofKinds(0, 1, 2, 3, 4, 5), x -> x.value(63), 0);
        Edges.unchanging(TwentyPhrases::new, x -> x.value(0), 0);
    }

    static void promise12NoPhrases() {
        TwentyPhrases x = wanting(99);
        Edges.due(x.value(0), 9);
        Edges.due(x.value(1), Edges.BEYOND);
    }

    static void promise12NoSuchSet() {
        for (int set : new int[] {Edges.MIN, -1, 64, 1 << 12, Edges.MAX}) {
            Edges.refused(Edges.BEYOND, x -> x.value(set));
        }
        Edges.refused(Edges.BEYOND, Edges::full, x -> x.value(4096));
    }

    /** Fingers are cut for each WANT by itself: twelve of 9 come to nothing. */
    static void promise12EachWantByItself() {
        TwentyPhrases x = new TwentyPhrases();
        for (int i = 0; i < 12; i++) {
            x.want(0, 9, i);
        }
        Edges.due(x.value(0), 0);
        x.change(11, Edges.WORTH, 10);
        Edges.due(x.value(0), 1);
    }

    static void promise12AllThatCanBe() {
        TwentyPhrases x = Edges.ofKinds(0, 0, 0, 0, 0, 0, 0, 0, 0, 0, 0, 0);
        for (int i = 0; i < 12; i++) {
            x.want(0, 99, 99);
        }
        Edges.due(x.value(4095), 12 * 99);
        Edges.due(x.value(2048), 12 * 99);
        Edges.due(x.value(0), 12 * 9);
    }

    /** A ROPE or a MENDING one counts for all of a set, wherever in it they stand. */
    static void promise12RopesInTheSet() {
        int[][] kinds = {{1, 2, 0}, {2, 1, 0}, {0, 2, 1}, {2, 0, 1}, {1, 0, 2}, {0, 1, 2}};
        for (int[] each : kinds) {
            TwentyPhrases x = wanting(40, each);
            for (int phrase = 0; phrase < 3; phrase++) {
                x.set(phrase, Edges.SOUND, each[phrase] == Edges.THING ? 10 : 0);
            }
            Edges.due(x.value(7), 40);
            for (int phrase = 0; phrase < 3; phrase++) {
                Edges.due(x.value(7 ^ 1 << phrase), new int[] {40, 10, 20}[each[phrase]]);
            }
            for (int phrase = 0; phrase < 3; phrase++) {
                x.turn(phrase, each[phrase] == Edges.ROPE ? Edges.MENDING : each[phrase]);
            }
            x.set(0, Edges.SOUND, 5);
            x.set(1, Edges.SOUND, 5);
            x.set(2, Edges.SOUND, 5);
            Edges.due(x.value(7), 28);
        }
    }

    /** What was a ROPE or a MENDING one, when VALUE was asked, is one no more. */
    static void promise12RopesThatWereTurned() {
        TwentyPhrases x = wanting(40, Edges.THING, Edges.MENDING);
        Edges.due(x.value(3), 40);
        x.turn(1, Edges.ROPE);
        x.set(0, Edges.SOUND, 5);
        Edges.due(x.value(3), 20);
        x.turn(1, Edges.THING);
        x.set(1, Edges.TOPIC, 1);
        Edges.due(x.value(3), 10);
        x.turn(1, Edges.MENDING);
        Edges.due(x.value(3), 28);
    }

    static void promise12TwoThatMend() {
        TwentyPhrases x = wanting(40, Edges.MENDING, Edges.MENDING, Edges.PHRASE);
        x.set(2, Edges.SOUND, 5);
        Edges.due(x.value(1 + 4), 28);
        Edges.due(x.value(2 + 4), 28);
        Edges.due(x.value(1 + 2 + 4), 28);
        Edges.due(x.value(4), 20);
    }

    // ---- by

    static void promise13NoSuchWant() {
        for (int want : new int[] {Edges.MIN, -1, 3, Edges.MAX}) {
            Edges.refused(Edges.BEYOND, x -> x.by(want, 0));
        }
        Edges.refused(Edges.BEYOND, TwentyPhrases::new, x -> x.by(0, 0));
    }

    static void promise13NoSuchSet() {
        for (int set : new int[] {Edges.MIN, -1, 64, 1 << 12, Edges.MAX}) {
            Edges.refused(Edges.BEYOND, x -> x.by(0, set));
        }
        Edges.refused(Edges.BEYOND, Edges::full, x -> x.by(0, 4096));
    }

    static void promise13EmptySet() {
        Edges.refused(Edges.NONE, x -> x.by(0, 0));
    }

    /** A tenth of 94 is 9: a GAIN of 9 isn't more, one of 10 is. */
    static void promise13MoreThanATenth() {
        TwentyPhrases x = wanting(94, Edges.NUMBER);
        x.set(0, Edges.SOUND, 6);
        Edges.due(x.gain(0, 0, 1), 9);
        Edges.due(x.by(0, 1), Edges.NONE);
        x.set(0, Edges.SOUND, 7);
        Edges.due(x.gain(0, 0, 1), 10);
        Edges.due(x.by(0, 1), 0);
    }

    /** A tenth of 9 is nothing, and so is a GAIN of nothing. */
    static void promise13TenthOfAlmostNothing() {
        TwentyPhrases x = wanting(9, Edges.PHRASE);
        x.set(0, Edges.SOUND, 1);
        Edges.due(x.by(0, 1), Edges.NONE);
        x.set(0, Edges.SOUND, 2);
        Edges.due(x.by(0, 1), 0);
    }

    static void promise13NoWorth() {
        Edges.due(wanting(0, 0, 1, 2, 3, 5).by(0, 31), Edges.NONE);
        Edges.due(wanting(0, 0, 1, 2, 3, 4).by(0, 31), 4);
    }

    static void promise13OfSeveralTheLeast() {
        TwentyPhrases x = wanting(50, Edges.PHRASE, Edges.PHRASE, Edges.PHRASE);
        Edges.due(x.by(0, 7), 0);
        Edges.due(x.by(0, 6), 1);
        Edges.due(x.by(0, 4), 2);
        x.set(0, Edges.SOUND, 9);
        Edges.due(x.by(0, 7), 1);
    }

    static void promise13TheLastOfTwelve() {
        TwentyPhrases x = wanting(50, 2, 2, 2, 2, 2, 2, 2, 2, 2, 2, 2, 0);
        Edges.due(x.by(0, 4095), 11);
        Edges.due(x.by(0, 2048), 11);
        Edges.due(x.by(0, 2047), 0);
    }

    /** What it asks is GAIN, also where WORTH caps what is MET. */
    static void promise13GainAboveWorth() {
        TwentyPhrases x = wanting(50, Edges.PHRASE, Edges.URGENT);
        x.change(0, Edges.HURRY, 1);
        Edges.due(x.by(0, 3), 1);
    }
}

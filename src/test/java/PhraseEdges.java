/** Boundary cases of promises 2 to 6: phrases. */
final class PhraseEdges {
    private PhraseEdges() {
    }

    // ---- phrase

    static void promise02LeastOfAll() {
        TwentyPhrases x = new TwentyPhrases();
        Edges.due(x.phrase(0, 0, 1, 0), 0);
        Edges.duePhrase(x, 0, 0, 0, 1, 0, 0, 0);
    }

    static void promise02MostOfAll() {
        TwentyPhrases x = new TwentyPhrases();
        Edges.due(x.phrase(5, 9, 60, 10), 0);
        Edges.duePhrase(x, 0, 5, 9, 60, 10, 0, 0);
    }

    static void promise02KindTooSmall() {
        Edges.refused(Edges.BEYOND, x -> x.phrase(-1, 0, 1, 0));
        Edges.refused(Edges.BEYOND, x -> x.phrase(Edges.MIN, 0, 1, 0));
    }

    static void promise02KindTooLarge() {
        Edges.refused(Edges.BEYOND, x -> x.phrase(6, 0, 1, 0));
        Edges.refused(Edges.BEYOND, x -> x.phrase(Edges.MAX, 0, 1, 0));
    }

    static void promise02TopicTooSmall() {
        Edges.refused(Edges.BEYOND, x -> x.phrase(0, -1, 1, 0));
        Edges.refused(Edges.BEYOND, x -> x.phrase(0, Edges.MIN, 1, 0));
    }

    static void promise02TopicTooLarge() {
        Edges.refused(Edges.BEYOND, x -> x.phrase(0, 10, 1, 0));
        Edges.refused(Edges.BEYOND, x -> x.phrase(0, Edges.MAX, 1, 0));
    }

    static void promise02MinutesTooSmall() {
        Edges.refused(Edges.BEYOND, x -> x.phrase(0, 0, 0, 0));
        Edges.refused(Edges.BEYOND, x -> x.phrase(0, 0, Edges.MIN, 0));
    }

    static void promise02MinutesTooLarge() {
        Edges.refused(Edges.BEYOND, x -> x.phrase(0, 0, 61, 0));
        Edges.refused(Edges.BEYOND, x -> x.phrase(0, 0, Edges.MAX, 0));
    }

    static void promise02SoundTooSmall() {
        Edges.refused(Edges.BEYOND, x -> x.phrase(0, 0, 1, -1));
        Edges.refused(Edges.BEYOND, x -> x.phrase(0, 0, 1, Edges.MIN));
    }

    static void promise02SoundTooLarge() {
        Edges.refused(Edges.BEYOND, x -> x.phrase(0, 0, 1, 11));
        Edges.refused(Edges.BEYOND, x -> x.phrase(0, 0, 1, Edges.MAX));
    }

    static void promise02TwelfthHasRoom() {
        TwentyPhrases x = new TwentyPhrases();
        for (int i = 0; i < 12; i++) {
            Edges.due(x.phrase(i % 6, i % 10, 1 + i, i % 11), i);
        }
        Edges.due(x.count(0), 12);
        Edges.duePhrase(x, 11, 5, 1, 12, 0, 0, 0);
        Edges.duePhrase(x, 0, 0, 0, 1, 0, 0, 0);
    }

    static void promise02ThirteenthIsFull() {
        Edges.refused(Edges.FULL, Edges::full, x -> x.phrase(0, 0, 1, 0));
    }

    static void promise02BeyondAheadOfFull() {
        Edges.refused(Edges.BEYOND, Edges::full, x -> x.phrase(6, 0, 1, 0));
        Edges.refused(Edges.BEYOND, Edges::full, x -> x.phrase(0, 10, 1, 0));
        Edges.refused(Edges.BEYOND, Edges::full, x -> x.phrase(0, 0, 0, 0));
        Edges.refused(Edges.BEYOND, Edges::full, x -> x.phrase(0, 0, 1, 11));
    }

    /** The place of one that undo() took away holds nothing of it. */
    static void promise02HeldAndUsedAreNothingAtFirst() {
        TwentyPhrases x = new TwentyPhrases();
        x.want(0, 50, 0);
        x.image();
        x.phrase(0, 0, 1, 10);
        x.set(0, Edges.HELD, 90);
        x.days(1);
        Edges.duePhrase(x, 0, 0, 0, 1, 10, 100, 1);
        x.undo();
        Edges.due(x.phrase(1, 2, 3, 4), 0);
        Edges.duePhrase(x, 0, 1, 2, 3, 4, 0, 0, 0, 15);
    }

    // ---- of

    static void promise03NoSuchPhrase() {
        Edges.refused(Edges.BEYOND, x -> x.of(-1, 0));
        Edges.refused(Edges.BEYOND, x -> x.of(6, 0));
        Edges.refused(Edges.BEYOND, x -> x.of(Edges.MIN, 0));
        Edges.refused(Edges.BEYOND, x -> x.of(Edges.MAX, 0));
        Edges.refused(Edges.BEYOND, Edges::full, x -> x.of(12, 0));
    }

    static void promise03NoPhraseAtAll() {
        Edges.refused(Edges.BEYOND, TwentyPhrases::new, x -> x.of(0, 0));
    }

    static void promise03WhatTooSmall() {
        Edges.refused(Edges.BEYOND, x -> x.of(0, -1));
        Edges.refused(Edges.BEYOND, x -> x.of(0, Edges.MIN));
    }

    static void promise03WhatTooLarge() {
        Edges.refused(Edges.BEYOND, x -> x.of(0, 8));
        Edges.refused(Edges.BEYOND, x -> x.of(0, Edges.MAX));
    }

    static void promise03ChangesNothing() {
        Edges.unchanging(Edges::usual, x -> x.of(5, 0), 5);
        Edges.unchanging(Edges::usual, x -> x.of(5, 2), 9);
    }

    static void promise03KnownFromLineOn() {
        TwentyPhrases x = Edges.ofKinds(Edges.PHRASE);
        x.set(0, Edges.HELD, 59);
        Edges.due(x.of(0, 6), 0);
        x.set(0, Edges.HELD, 60);
        Edges.due(x.of(0, 6), 1);
        x.line(61);
        Edges.due(x.of(0, 6), 0);
    }

    static void promise03KnownAtTheLeastLine() {
        TwentyPhrases x = Edges.ofKinds(Edges.PHRASE);
        x.line(1);
        Edges.due(x.of(0, 6), 0);
        x.set(0, Edges.HELD, 1);
        Edges.due(x.of(0, 6), 1);
    }

    static void promise03KnownAtTheGreatestLine() {
        TwentyPhrases x = Edges.ofKinds(Edges.PHRASE);
        x.line(100);
        x.set(0, Edges.HELD, 99);
        Edges.due(x.of(0, 6), 0);
        x.set(0, Edges.HELD, 100);
        Edges.due(x.of(0, 6), 1);
    }

    static void promise03ForgetsOfEachKind() {
        int[] forgets = {10, 15, 5, 20, 5, 10};
        for (int kind = 0; kind <= 5; kind++) {
            TwentyPhrases x = Edges.ofKinds(kind);
            Edges.due(x.of(0, 7), forgets[kind]);
            x.set(0, Edges.HELD, 100);
            Edges.due(x.of(0, 7), kind == Edges.URGENT ? 35 : forgets[kind]);
        }
    }

    static void promise03UrgentForgetsHalfBeyondFifty() {
        TwentyPhrases x = Edges.ofKinds(Edges.URGENT);
        int[][] heldAndForgets = {{0, 10}, {1, 10}, {49, 10}, {50, 10}, {51, 10}, {52, 11}, {53, 11}, {99, 34}, {100, 35}};
        for (int[] each : heldAndForgets) {
            x.set(0, Edges.HELD, each[0]);
            Edges.due(x.of(0, 7), each[1]);
        }
    }

    // ---- set

    static void promise04TopicToItsBounds() {
        TwentyPhrases x = Edges.ofKinds(Edges.PHRASE);
        Edges.due(x.set(0, Edges.TOPIC, 9), 0);
        Edges.due(x.set(0, Edges.TOPIC, 0), 9);
        Edges.due(x.of(0, Edges.TOPIC), 0);
    }

    static void promise04TopicBeyond() {
        Edges.refused(Edges.BEYOND, x -> x.set(0, Edges.TOPIC, -1));
        Edges.refused(Edges.BEYOND, x -> x.set(0, Edges.TOPIC, 10));
    }

    static void promise04MinutesToTheirBounds() {
        TwentyPhrases x = Edges.ofKinds(Edges.PHRASE);
        Edges.due(x.set(0, Edges.MINUTES, 60), 5);
        Edges.due(x.set(0, Edges.MINUTES, 1), 60);
        Edges.due(x.of(0, Edges.MINUTES), 1);
    }

    static void promise04MinutesBeyond() {
        Edges.refused(Edges.BEYOND, x -> x.set(0, Edges.MINUTES, 0));
        Edges.refused(Edges.BEYOND, x -> x.set(0, Edges.MINUTES, 61));
    }

    static void promise04SoundToItsBounds() {
        TwentyPhrases x = Edges.ofKinds(Edges.PHRASE);
        Edges.due(x.set(0, Edges.SOUND, 0), 10);
        Edges.due(x.set(0, Edges.SOUND, 10), 0);
        Edges.due(x.of(0, Edges.SOUND), 10);
    }

    static void promise04SoundBeyond() {
        Edges.refused(Edges.BEYOND, x -> x.set(0, Edges.SOUND, -1));
        Edges.refused(Edges.BEYOND, x -> x.set(0, Edges.SOUND, 11));
    }

    static void promise04HeldToItsBounds() {
        TwentyPhrases x = Edges.ofKinds(Edges.PHRASE);
        Edges.due(x.set(0, Edges.HELD, 100), 0);
        Edges.due(x.set(0, Edges.HELD, 0), 100);
        Edges.due(x.of(0, Edges.HELD), 0);
    }

    static void promise04HeldBeyond() {
        Edges.refused(Edges.BEYOND, x -> x.set(0, Edges.HELD, -1));
        Edges.refused(Edges.BEYOND, x -> x.set(0, Edges.HELD, 101));
    }

    static void promise04WildNumbers() {
        for (int what = 1; what <= 4; what++) {
            int each = what;
            Edges.refused(Edges.BEYOND, x -> x.set(0, each, Edges.MIN));
            Edges.refused(Edges.BEYOND, x -> x.set(0, each, Edges.MAX));
        }
    }

    /** KIND (what 0), USED (5) and what is reckoned (6, 7) can't be set. */
    static void promise04WhatBeyond() {
        for (int what : new int[] {Edges.MIN, -1, 0, 5, 6, 7, Edges.MAX}) {
            Edges.refused(Edges.BEYOND, x -> x.set(0, what, 1));
        }
    }

    static void promise04NoSuchPhrase() {
        for (int phrase : new int[] {Edges.MIN, -1, 6, Edges.MAX}) {
            Edges.refused(Edges.BEYOND, x -> x.set(phrase, Edges.HELD, 1));
        }
        Edges.refused(Edges.BEYOND, Edges::full, x -> x.set(12, Edges.HELD, 1));
        Edges.refused(Edges.BEYOND, TwentyPhrases::new, x -> x.set(0, Edges.HELD, 1));
    }

    static void promise04TheLastOfTwelve() {
        TwentyPhrases x = Edges.full();
        Edges.due(x.set(11, Edges.HELD, 100), 0);
        Edges.due(x.of(11, Edges.HELD), 100);
        Edges.due(x.count(4), 100);
    }

    // ---- turn

    static void promise05KindTooSmall() {
        Edges.refused(Edges.BEYOND, x -> x.turn(0, -1));
        Edges.refused(Edges.BEYOND, x -> x.turn(0, Edges.MIN));
    }

    static void promise05KindTooLarge() {
        Edges.refused(Edges.BEYOND, x -> x.turn(0, 6));
        Edges.refused(Edges.BEYOND, x -> x.turn(0, Edges.MAX));
    }

    static void promise05NoSuchPhrase() {
        for (int phrase : new int[] {Edges.MIN, -1, 6, Edges.MAX}) {
            Edges.refused(Edges.BEYOND, x -> x.turn(phrase, 0));
        }
        Edges.refused(Edges.BEYOND, TwentyPhrases::new, x -> x.turn(0, 0));
    }

    static void promise05FirstKindAndLast() {
        TwentyPhrases x = Edges.ofKinds(Edges.THING);
        Edges.due(x.turn(0, 5), 1);
        Edges.due(x.turn(0, 0), 5);
        Edges.due(x.of(0, 0), 0);
    }

    static void promise05ToItsOwnKind() {
        Edges.unchanging(Edges::usual, x -> x.turn(3, 3), 3);
    }

    static void promise05AllElseStays() {
        TwentyPhrases x = Edges.usual();
        int held = x.of(0, Edges.HELD);
        Edges.due(x.turn(0, 3), 0);
        Edges.duePhrase(x, 0, 3, 0, 4, 5, held, x.of(0, Edges.USED), 1, 20);
    }

    // ---- as

    static void promise06ItsOwnKind() {
        for (int kind = 0; kind <= 5; kind++) {
            TwentyPhrases x = Edges.ofKinds(kind);
            x.set(0, Edges.HELD, 100 - kind);
            Edges.due(x.as(0, kind), 100 - kind);
        }
    }

    static void promise06AKindAboveItsOwn() {
        int[][] under = {{1, 0}, {2, 0}, {3, 1}, {3, 0}, {4, 2}, {4, 0}, {5, 0}};
        for (int[] each : under) {
            TwentyPhrases x = Edges.ofKinds(each[0]);
            x.set(0, Edges.HELD, 1);
            Edges.due(x.as(0, each[1]), 1);
        }
    }

    static void promise06NeitherItsKindNorAbove() {
        int[][] apart = {{0, 1}, {0, 2}, {0, 3}, {0, 4}, {0, 5}, {1, 2}, {1, 3}, {1, 4}, {1, 5}, {2, 1}, {2, 3}, {2, 4},
            {2, 5}, {3, 2}, {3, 4}, {3, 5}, {4, 1}, {4, 3}, {4, 5}, {5, 1}, {5, 2}, {5, 3}, {5, 4}};
        for (int[] each : apart) {
            Edges.refused(Edges.KIND, x -> x.as(each[0], each[1]));
        }
    }

    static void promise06NoSuchPhrase() {
        for (int phrase : new int[] {Edges.MIN, -1, 6, Edges.MAX}) {
            Edges.refused(Edges.BEYOND, x -> x.as(phrase, 0));
        }
        Edges.refused(Edges.BEYOND, TwentyPhrases::new, x -> x.as(0, 0));
    }

    static void promise06NoSuchKind() {
        for (int kind : new int[] {Edges.MIN, -1, 6, Edges.MAX}) {
            Edges.refused(Edges.BEYOND, x -> x.as(0, kind));
        }
    }

    static void promise06HeldOfNothing() {
        Edges.due(Edges.ofKinds(Edges.MENDING).as(0, Edges.ROPE), 0);
    }
}

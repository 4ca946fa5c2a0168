/** Boundary cases of promises 14 to 18: plans. */
final class PlanEdges {
    private PlanEdges() {
    }

    /**
     * Twelve of 60 minutes each, none of which can be spared: ten PHRASES for as many topics, an
     * URGENT one (10) for a WANT in a hurry and a MENDING one (11). All are worth 390; without
     * PHRASE 0 they are worth 380, without any other one less than that.
     */
    private static TwentyPhrases twelveLong() {
        TwentyPhrases x = new TwentyPhrases();
        for (int topic = 0; topic <= 9; topic++) {
            x.phrase(Edges.PHRASE, topic, 60, 5);
            x.want(topic, 50, 0);
        }
        x.phrase(Edges.URGENT, 0, 60, 3);
        x.want(0, 40, 0);
        x.change(10, Edges.HURRY, 1);
        x.phrase(Edges.MENDING, 0, 60, 0);
        return x;
    }

    /** PHRASES of sound 10, each of a topic of its own with as many minutes, and a WANT of 50 for each. */
    private static TwentyPhrases apart(int... minutes) {
        TwentyPhrases x = new TwentyPhrases();
        for (int topic = 0; topic < minutes.length; topic++) {
            x.phrase(Edges.PHRASE, topic, minutes[topic], 10);
            x.want(topic, 50, 0);
        }
        return x;
    }

    /** As above, but all for one WANT of 50. */
    private static TwentyPhrases alike(int... minutes) {
        TwentyPhrases x = new TwentyPhrases();
        for (int each : minutes) {
            x.phrase(Edges.PHRASE, 0, each, 10);
        }
        x.want(0, 50, 0);
        return x;
    }

    // ---- best

    static void promise14MinutesTooFew() {
        Edges.refused(Edges.BEYOND, x -> x.best(-1, 0));
        Edges.refused(Edges.BEYOND, x -> x.best(Edges.MIN, 0));
    }

    static void promise14MinutesTooMany() {
        Edges.refused(Edges.BEYOND, x -> x.best(721, 0));
        Edges.refused(Edges.BEYOND, x -> x.best(Edges.MAX, 0));
    }

    static void promise14WhatBeyond() {
        for (int what : new int[] {Edges.MIN, -1, 3, Edges.MAX}) {
            Edges.refused(Edges.BEYOND, x -> x.best(0, what));
        }
    }

    static void promise14NoMinutes() {
        TwentyPhrases x = apart(1, 1);
        Edges.due(x.best(0, 0), 10);
        Edges.due(x.best(0, 1), 0);
        Edges.due(x.best(0, 2), 0);
    }

    static void promise14NoPhrases() {
        for (int what = 0; what <= 2; what++) {
            Edges.due(new TwentyPhrases().best(720, what), 0);
        }
        TwentyPhrases x = new TwentyPhrases();
        x.want(0, 99, 0);
        Edges.due(x.best(720, 0), 9);
        Edges.due(x.best(720, 1), 0);
    }

    static void promise14NoWants() {
        for (int what = 0; what <= 2; what++) {
            Edges.due(Edges.ofKinds(0, 1, 2, 3, 4, 5).best(720, what), 0);
        }
    }

    static void promise14AllTheMinutes() {
        TwentyPhrases x = twelveLong();
        Edges.due(x.best(720, 0), 390);
        Edges.due(x.best(720, 1), 4095);
        Edges.due(x.best(720, 2), 720);
    }

    static void promise14OneMinuteLessThanAll() {
        TwentyPhrases x = twelveLong();
        Edges.due(x.best(719, 0), 380);
        Edges.due(x.best(719, 1), 4094);
        Edges.due(x.best(719, 2), 660);
    }

    static void promise14JustEnoughMinutes() {
        TwentyPhrases x = apart(7);
        Edges.due(x.best(6, 1), 0);
        Edges.due(x.best(7, 1), 1);
        Edges.due(x.best(7, 2), 7);
        Edges.due(x.best(8, 2), 7);
    }

    static void promise14OfSeveralTheFewestMinutes() {
        TwentyPhrases x = alike(9, 8, 7);
        Edges.due(x.best(720, 1), 4);
        Edges.due(x.best(720, 2), 7);
        Edges.due(x.best(6, 1), 0);
    }

    static void promise14OfTheseTheLeast() {
        Edges.due(alike(9, 8, 8).best(720, 1), 2);
        // The sets 3 (4 and 6 minutes) and 4 (10 minutes) are worth as much.
        TwentyPhrases x = new TwentyPhrases();
        x.phrase(Edges.PHRASE, 0, 4, 10);
        x.phrase(Edges.PHRASE, 1, 6, 10);
        x.phrase(Edges.ROPE, 2, 10, 0);
        x.want(0, 10, 0);
        x.want(1, 10, 0);
        x.want(2, 84, 0);
        Edges.due(x.value(3), 28);
        Edges.due(x.value(4), 25);
        x.set(0, Edges.SOUND, 8);
        x.set(1, Edges.SOUND, 9);
        Edges.due(x.value(3), 25);
        Edges.due(x.best(10, 1), 3);
        x.set(0, Edges.MINUTES, 5);
        Edges.due(x.best(10, 1), 4);
    }

    static void promise14NothingForNothing() {
        // One that brings nothing isn't in it, however few its minutes.
        TwentyPhrases x = apart(5, 1);
        x.change(1, Edges.WORTH, 0);
        Edges.due(x.best(720, 1), 1);
    }

    /** A THING of 40 is whole by a ROPE only: 20 alone, 10 for the ROPE alone, 40 for both. */
    static void promise14ThingAndRope() {
        TwentyPhrases x = new TwentyPhrases();
        x.phrase(Edges.THING, 0, 5, 10);
        x.phrase(Edges.ROPE, 9, 3, 0);
        x.want(0, 40, 0);
        Edges.due(x.best(8, 1), 3);
        Edges.due(x.best(8, 0), 40);
        Edges.due(x.best(7, 1), 1);
        Edges.due(x.best(7, 0), 20);
        Edges.due(x.best(4, 1), 2);
        Edges.due(x.best(4, 0), 10);
        Edges.due(x.greedy(8, 1), 3);
        Edges.due(x.minutesFor(21), 8);
    }

    static void promise14ChangesNothing() {
        Edges.unchanging(Edges::usual, x -> x.best(0, 0), 5 + 6 + 7);
    }

    // ---- greedy

    static void promise15MinutesTooFew() {
        Edges.refused(Edges.BEYOND, x -> x.greedy(-1, 0));
        Edges.refused(Edges.BEYOND, x -> x.greedy(Edges.MIN, 0));
    }

    static void promise15MinutesTooMany() {
        Edges.refused(Edges.BEYOND, x -> x.greedy(721, 0));
        Edges.refused(Edges.BEYOND, x -> x.greedy(Edges.MAX, 0));
    }

    static void promise15WhatBeyond() {
        for (int what : new int[] {Edges.MIN, -1, 2, Edges.MAX}) {
            Edges.refused(Edges.BEYOND, x -> x.greedy(0, what));
        }
    }

    static void promise15NoMinutes() {
        TwentyPhrases x = apart(1, 1);
        Edges.due(x.greedy(0, 0), 10);
        Edges.due(x.greedy(0, 1), 0);
    }

    static void promise15NoPhrases() {
        Edges.due(new TwentyPhrases().greedy(720, 0), 0);
        Edges.due(new TwentyPhrases().greedy(720, 1), 0);
    }

    static void promise15AllTheMinutes() {
        TwentyPhrases x = twelveLong();
        Edges.due(x.greedy(720, 0), 390);
        Edges.due(x.greedy(720, 1), 4095);
    }

    /** The PHRASE of topic 0 comes last, as it brings least beside the URGENT one. */
    static void promise15OneMinuteLessThanAll() {
        TwentyPhrases x = twelveLong();
        Edges.due(x.greedy(719, 0), 380);
        Edges.due(x.greedy(719, 1), 4094);
    }

    static void promise15JustEnoughMinutes() {
        TwentyPhrases x = apart(7, 3);
        Edges.due(x.greedy(2, 1), 0);
        Edges.due(x.greedy(3, 1), 2);
        Edges.due(x.greedy(7, 1), 2);
        Edges.due(x.greedy(9, 1), 2);
        Edges.due(x.greedy(10, 1), 3);
    }

    /** What the best one leaves of the minutes may do for a lesser one. */
    static void promise15OnlyThoseWhoseMinutesAreLeft() {
        TwentyPhrases x = apart(7, 5, 3);
        x.change(0, Edges.WORTH, 99);
        Edges.due(x.greedy(10, 1), 1 + 4);
        Edges.due(x.greedy(9, 1), 1);
        Edges.due(x.greedy(12, 1), 1 + 4);
        Edges.due(x.greedy(15, 1), 7);
    }

    static void promise15OfSeveralTheFewestMinutes() {
        Edges.due(alike(9, 8, 7).greedy(720, 1), 4);
    }

    static void promise15OfTheseTheLeast() {
        Edges.due(alike(9, 8, 8).greedy(720, 1), 2);
        Edges.due(alike(8, 8, 8).greedy(720, 1), 1);
    }

    static void promise15NoneThatBringsNothing() {
        TwentyPhrases x = apart(5, 1);
        x.change(1, Edges.WORTH, 0);
        Edges.due(x.greedy(720, 1), 1);
        Edges.due(Edges.ofKinds(0, 1, 2, 3, 4, 5).greedy(720, 1), 0);
    }

    /** A worth of 1 brings just 1. */
    static void promise15OneThatBringsOne() {
        TwentyPhrases x = apart(5);
        x.change(0, Edges.WORTH, 1);
        Edges.due(x.greedy(5, 0), 1);
        Edges.due(x.greedy(5, 1), 1);
    }

    // ---- next

    static void promise16NoSuchSet() {
        for (int set : new int[] {Edges.MIN, -1, 64, 1 << 12, Edges.MAX}) {
            Edges.refused(Edges.BEYOND, x -> x.next(set));
        }
        Edges.refused(Edges.BEYOND, Edges::full, x -> x.next(4096));
    }

    static void promise16WholeSet() {
        Edges.refused(Edges.NONE, x -> x.next(63));
        Edges.refused(Edges.NONE, Edges::full, x -> x.next(4095));
    }

    static void promise16NoPhrases() {
        Edges.refused(Edges.NONE, TwentyPhrases::new, x -> x.next(0));
        Edges.refused(Edges.BEYOND, TwentyPhrases::new, x -> x.next(1));
    }

    static void promise16NoneBringsAny() {
        Edges.refused(Edges.NONE, () -> Edges.ofKinds(0, 1, 2, 3, 4, 5), x -> x.next(0));
        Edges.refused(Edges.NONE, () -> alike(5, 5), x -> x.next(1));
    }

    static void promise16BringsOneAtLeast() {
        TwentyPhrases x = apart(5);
        x.change(0, Edges.WORTH, 1);
        Edges.due(x.next(0), 0);
        x.change(0, Edges.WORTH, 0);
        Edges.due(x.next(0), Edges.NONE);
    }

    static void promise16OfSeveralTheLeast() {
        Edges.due(apart(9, 1, 1).next(0), 0);
        Edges.due(apart(9, 1, 1).next(1), 1);
        Edges.due(apart(9, 1, 1).next(5), 1);
    }

    static void promise16TheLastOfTwelve() {
        TwentyPhrases x = twelveLong();
        Edges.due(x.next(2047), 11);
        Edges.due(x.next(4094), 0);
        Edges.due(x.next(0), 11);
    }

    // ---- spare

    static void promise17NoSuchSet() {
        for (int set : new int[] {Edges.MIN, -1, 64, 1 << 12, Edges.MAX}) {
            Edges.refused(Edges.BEYOND, x -> x.spare(set));
        }
        Edges.refused(Edges.BEYOND, Edges::full, x -> x.spare(4096));
    }

    static void promise17EmptySet() {
        Edges.refused(Edges.NONE, x -> x.spare(0));
        Edges.refused(Edges.NONE, TwentyPhrases::new, x -> x.spare(0));
    }

    static void promise17SetOfOne() {
        TwentyPhrases x = apart(5, 5, 5);
        Edges.due(x.spare(1), 0);
        Edges.due(x.spare(2), 1);
        Edges.due(x.spare(4), 2);
    }

    static void promise17OfSeveralTheLeast() {
        Edges.due(apart(5, 5, 5).spare(7), 0);
        Edges.due(apart(5, 5, 5).spare(6), 1);
        Edges.due(alike(5, 5, 5).spare(6), 1);
    }

    static void promise17NothingLess() {
        TwentyPhrases x = apart(5, 5, 5);
        x.change(2, Edges.WORTH, 0);
        Edges.due(x.spare(7), 2);
        Edges.due(Edges.ofKinds(0, 0).spare(3), 0);
    }

    static void promise17WholeSet() {
        Edges.due(twelveLong().spare(4095), 0);
        Edges.due(twelveLong().spare(2048), 11);
    }

    // ---- minutesFor

    static void promise18ValueTooSmall() {
        Edges.refused(Edges.BEYOND, x -> x.minutesFor(-1));
        Edges.refused(Edges.BEYOND, x -> x.minutesFor(Edges.MIN));
    }

    static void promise18NoValue() {
        Edges.due(apart(5).minutesFor(0), 0);
        Edges.due(new TwentyPhrases().minutesFor(0), 0);
    }

    static void promise18NoSetHasIt() {
        Edges.refused(Edges.NONE, TwentyPhrases::new, x -> x.minutesFor(1));
        Edges.refused(Edges.NONE, () -> apart(5), x -> x.minutesFor(51));
        Edges.refused(Edges.NONE, x -> x.minutesFor(Edges.MAX));
    }

    static void promise18WhatFingersDo() {
        Edges.due(apart(5).minutesFor(5), 0);
        Edges.due(apart(5).minutesFor(6), 5);
    }

    static void promise18JustThatValue() {
        TwentyPhrases x = apart(5, 6);
        Edges.due(x.minutesFor(55), 5);
        Edges.due(x.minutesFor(56), 11);
        Edges.due(x.minutesFor(100), 11);
        Edges.due(x.minutesFor(101), Edges.NONE);
    }

    static void promise18AllTheMinutes() {
        TwentyPhrases x = twelveLong();
        Edges.due(x.minutesFor(380), 660);
        Edges.due(x.minutesFor(381), 720);
        Edges.due(x.minutesFor(390), 720);
        Edges.due(x.minutesFor(391), Edges.NONE);
    }
}

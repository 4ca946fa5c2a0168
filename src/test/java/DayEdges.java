/** Boundary cases of promises 26 to 32: days. */
final class DayEdges {
    private DayEdges() {
    }

    /** PHRASES of kinds, all of topic 0, sound 10 and 5 minutes, and held as told; a WANT of 50 on day 0. */
    private static TwentyPhrases held(int[] kinds, int... held) {
        TwentyPhrases x = Edges.ofKinds(kinds);
        for (int phrase = 0; phrase < held.length; phrase++) {
            x.set(phrase, Edges.HELD, held[phrase]);
        }
        x.want(0, 50, 0);
        return x;
    }

    private static TwentyPhrases one(int kind, int held) {
        return held(new int[] {kind}, held);
    }

    /** Five PHRASES of 10 minutes, each of a topic of its own, with a WANT of 10, 20, .. 50 for each on day 0. */
    private static TwentyPhrases five() {
        TwentyPhrases x = new TwentyPhrases();
        for (int topic = 0; topic < 5; topic++) {
            x.phrase(Edges.PHRASE, topic, 10, 10);
            x.want(topic, 10 * (topic + 1), 0);
        }
        return x;
    }

    // ---- days

    static void promise26TooFew() {
        for (int n : new int[] {0, -1, Edges.MIN}) {
            Edges.refused(Edges.BEYOND, x -> x.days(n));
        }
    }

    static void promise26TooMany() {
        for (int n : new int[] {31, 60, Edges.MAX}) {
            Edges.refused(Edges.BEYOND, x -> x.days(n));
        }
    }

    static void promise26OneDay() {
        TwentyPhrases x = one(Edges.PHRASE, 60);
        Edges.due(x.days(1), 50);
        Edges.due(x.now(0), 1);
    }

    static void promise26ThirtyDays() {
        TwentyPhrases x = one(Edges.PHRASE, 60);
        x.want(0, 40, 29);
        x.want(0, 90, 30);
        Edges.due(x.days(30), 50 + 4);
        Edges.due(x.now(0), 30);
        Edges.due(x.days(1), 9);
    }

    static void promise26DayNinetyNineJustReached() {
        TwentyPhrases x = Edges.usualOn(98);
        Edges.due(x.days(1), 0);
        Edges.due(x.now(0), 99);
        TwentyPhrases y = Edges.usualOn(69);
        Edges.due(y.days(30), 0);
        Edges.due(y.now(0), 99);
    }

    static void promise26DayWouldBeAboveNinetyNine() {
        Edges.refused(Edges.STATE, () -> Edges.usualOn(70), x -> x.days(30));
        Edges.refused(Edges.STATE, () -> Edges.usualOn(98), x -> x.days(2));
        Edges.refused(Edges.STATE, () -> Edges.usualOn(99), x -> x.days(1));
    }

    static void promise26BeyondAheadOfState() {
        Edges.refused(Edges.BEYOND, () -> Edges.usualOn(99), x -> x.days(0));
        Edges.refused(Edges.BEYOND, () -> Edges.usualOn(99), x -> x.days(31));
    }

    /** Day 98 can go, day 99 can't: a WANT of day 99 is never met. */
    static void promise26WantsOfTheLastDays() {
        TwentyPhrases x = new TwentyPhrases();
        x.want(0, 50, 98);
        x.want(0, 60, 99);
        Edges.goTo(x, 98);
        Edges.due(x.days(1), 5);
        Edges.due(x.now(2), 5);
        Edges.due(x.now(3), 1);
    }

    static void promise26NothingToGo() {
        TwentyPhrases x = new TwentyPhrases();
        Edges.due(x.days(30), 0);
        Edges.due(x.now(0), 30);
        Edges.due(x.now(2), 0);
    }

    static void promise26OnlyKnownOnesMeet() {
        TwentyPhrases x = one(Edges.PHRASE, 59);
        Edges.due(x.days(1), 5);
        Edges.duePhrase(x, 0, 0, 0, 5, 10, 49, 0);
        TwentyPhrases y = one(Edges.PHRASE, 60);
        Edges.due(y.days(1), 50);
        Edges.duePhrase(y, 0, 0, 0, 5, 10, 70, 1);
    }

    static void promise26HeldIsHundredAtMost() {
        int[][] beforeAndAfter = {{89, 99}, {90, 100}, {91, 100}, {100, 100}};
        for (int[] each : beforeAndAfter) {
            TwentyPhrases x = one(Edges.PHRASE, each[0]);
            x.days(1);
            Edges.due(x.of(0, Edges.HELD), each[1]);
        }
    }

    static void promise26HeldIsNothingAtLeast() {
        int[] forgets = {10, 15, 5, 20, 5, 10};
        for (int kind = 0; kind <= 5; kind++) {
            TwentyPhrases x = held(new int[] {kind, kind, kind, kind},
                forgets[kind] + 1, forgets[kind], forgets[kind] - 1, 0);
            x.days(1);
            Edges.due(x.of(0, Edges.HELD), 1);
            for (int phrase = 1; phrase < 4; phrase++) {
                Edges.due(x.of(phrase, Edges.HELD), 0);
            }
        }
    }

    /** What an URGENT one forgets is asked anew each day: 100, 65, then 48. */
    static void promise26UrgentForgetsByWhatIsHeld() {
        TwentyPhrases x = held(new int[] {Edges.URGENT}, 100);
        x.change(0, Edges.DAY, 99);
        x.days(1);
        Edges.due(x.of(0, Edges.HELD), 65);
        x.days(1);
        Edges.due(x.of(0, Edges.HELD), 48);
        x.days(1);
        Edges.due(x.of(0, Edges.HELD), 38);
    }

    /** Used by two WANTS of a DAY: USED twice, but HELD 10 more only once. */
    static void promise26UsedTwiceOnADay() {
        TwentyPhrases x = one(Edges.PHRASE, 60);
        x.want(0, 40, 0);
        Edges.due(x.days(1), 90);
        Edges.duePhrase(x, 0, 0, 0, 5, 10, 70, 2);
    }

    /** Several that are used on a DAY: none of them forgets, whichever came last. */
    static void promise26SeveralUsedOnADay() {
        TwentyPhrases x = held(new int[] {0, 0, 0}, 70, 70, 70);
        x.set(1, Edges.TOPIC, 1);
        x.set(2, Edges.TOPIC, 2);
        x.want(2, 30, 0);
        x.want(1, 20, 0);
        Edges.due(x.days(1), 100);
        for (int phrase = 0; phrase < 3; phrase++) {
            Edges.due(x.of(phrase, Edges.HELD), 80);
            Edges.due(x.of(phrase, Edges.USED), 1);
        }
    }

    static void promise26UsedOnlyAboveATenth() {
        TwentyPhrases x = one(Edges.PHRASE, 100);
        x.set(0, Edges.SOUND, 1);
        Edges.due(x.days(1), 5);
        Edges.duePhrase(x, 0, 0, 0, 5, 1, 90, 0);
    }

    static void promise26OfSeveralTheLeastIsUsed() {
        TwentyPhrases x = held(new int[] {0, 0, 0}, 59, 60, 70);
        Edges.due(x.days(1), 50);
        Edges.due(x.of(0, Edges.HELD), 49);
        Edges.due(x.of(1, Edges.HELD), 70);
        Edges.due(x.of(2, Edges.HELD), 60);
    }

    /** A ROPE or a MENDING one that isn't KNOWN helps none. */
    static void promise26HelpersMustBeKnown() {
        Edges.due(held(new int[] {Edges.THING, Edges.ROPE}, 60, 59).days(1), 25);
        Edges.due(held(new int[] {Edges.THING, Edges.ROPE}, 60, 60).days(1), 50);
        Edges.due(held(new int[] {Edges.THING, Edges.MENDING}, 60, 59).days(1), 25);
        Edges.due(held(new int[] {Edges.THING, Edges.MENDING}, 60, 60).days(1), 50);
        Edges.due(held(new int[] {Edges.ROPE, Edges.MENDING}, 60, 59).days(1), 12);
        Edges.due(held(new int[] {Edges.ROPE, Edges.MENDING}, 60, 60).days(1), 23);
    }

    /** KNOWN is asked anew each DAY: 70, 60, then 50. */
    static void promise26KnownOnTheLastDayOnly() {
        for (int day = 0; day <= 3; day++) {
            TwentyPhrases x = one(Edges.PHRASE, 70);
            x.change(0, Edges.DAY, day);
            Edges.due(x.days(4), day <= 1 ? 50 : 5);
        }
    }

    static void promise26ManyDaysAreAsOneByOne() {
        TwentyPhrases x = Edges.usual();
        TwentyPhrases y = Edges.usual();
        int together = 0;
        for (int i = 0; i < 30; i++) {
            together += y.days(1);
        }
        Edges.due(x.days(30), together);
        Edges.dueAlike(x, y);
    }

    // ---- now

    static void promise27WhatBeyond() {
        for (int what : new int[] {Edges.MIN, -1, 4, Edges.MAX}) {
            Edges.refused(Edges.BEYOND, x -> x.now(what));
        }
    }

    static void promise27AtFirst() {
        int[] first = {0, 60, 0, 0};
        for (int what = 0; what <= 3; what++) {
            Edges.due(new TwentyPhrases().now(what), first[what]);
        }
    }

    static void promise27NoWantOfThisDay() {
        Edges.unchanging(Edges::usual, x -> x.now(3), 1);
        Edges.unchanging(() -> Edges.usualOn(2), x -> x.now(3), 0);
        Edges.unchanging(() -> Edges.usualOn(3), x -> x.now(3), 1);
    }

    static void promise27AllWantsOfThisDay() {
        Edges.unchanging(Edges::full, x -> x.now(3), 12);
    }

    static void promise27TheLastDay() {
        TwentyPhrases x = Edges.usualOn(99);
        Edges.due(x.now(0), 99);
        x.change(1, Edges.DAY, 99);
        Edges.due(x.now(3), 1);
    }

    // ---- on

    static void promise28TooFew() {
        Edges.refused(Edges.BEYOND, x -> x.on(-1, 0));
        Edges.refused(Edges.BEYOND, x -> x.on(Edges.MIN, 0));
    }

    static void promise28TooMany() {
        Edges.refused(Edges.BEYOND, x -> x.on(61, 0));
        Edges.refused(Edges.BEYOND, x -> x.on(Edges.MAX, 0));
    }

    static void promise28WhatBeyond() {
        for (int what : new int[] {Edges.MIN, -1, 3, Edges.MAX}) {
            Edges.refused(Edges.BEYOND, x -> x.on(0, what));
        }
    }

    static void promise28NoDays() {
        Edges.unchanging(() -> one(Edges.PHRASE, 60), x -> x.on(0, 0), 0);
        Edges.unchanging(() -> one(Edges.PHRASE, 60), x -> x.on(0, 1), 1);
        Edges.unchanging(() -> one(Edges.PHRASE, 60), x -> x.on(0, 2), 60);
    }

    static void promise28SixtyDaysChangeNothing() {
        TwentyPhrases y = Edges.usual();
        y.days(30);
        y.days(30);
        Edges.unchanging(Edges::usual, x -> x.on(60, 0), y.now(2));
        Edges.unchanging(Edges::usual, x -> x.on(60, 1), y.known());
        Edges.unchanging(Edges::usual, x -> x.on(60, 2), y.count(4));
    }

    static void promise28DayNinetyNineJustReached() {
        TwentyPhrases x = Edges.usualOn(39);
        Edges.due(x.on(60, 0), x.now(2));
        TwentyPhrases y = Edges.usualOn(99);
        Edges.due(y.on(0, 0), y.now(2));
        Edges.due(y.on(0, 1), 0);
        Edges.due(y.on(0, 2), 0);
    }

    static void promise28DayWouldBeAboveNinetyNine() {
        Edges.refused(Edges.STATE, () -> Edges.usualOn(40), x -> x.on(60, 0));
        Edges.refused(Edges.STATE, () -> Edges.usualOn(99), x -> x.on(1, 0));
    }

    static void promise28BeyondAheadOfState() {
        Edges.refused(Edges.BEYOND, () -> Edges.usualOn(99), x -> x.on(61, 0));
        Edges.refused(Edges.BEYOND, () -> Edges.usualOn(99), x -> x.on(1, 3));
    }

    /** SCORE is all of it, not only what those days bring. */
    static void promise28ScoreOfAllDays() {
        TwentyPhrases x = one(Edges.PHRASE, 60);
        x.days(1);
        x.want(0, 20, 1);
        Edges.due(x.on(0, 0), 50);
        Edges.due(x.on(1, 0), 70);
    }

    static void promise28NoPhrases() {
        for (int what = 0; what <= 2; what++) {
            Edges.due(new TwentyPhrases().on(60, what), 0);
        }
    }

    // ---- forgot

    static void promise29NoSuchPhrase() {
        for (int phrase : new int[] {Edges.MIN, -1, 6, Edges.MAX}) {
            Edges.refused(Edges.BEYOND, x -> x.forgot(phrase));
        }
        Edges.refused(Edges.BEYOND, TwentyPhrases::new, x -> x.forgot(0));
    }

    static void promise29NotKnownNow() {
        TwentyPhrases x = Edges.ofKinds(Edges.ROPE);
        Edges.due(x.forgot(0), 0);
        x.set(0, Edges.HELD, 59);
        Edges.due(x.forgot(0), 0);
    }

    static void promise29JustKnownNow() {
        for (int kind = 0; kind <= 5; kind++) {
            TwentyPhrases x = Edges.ofKinds(kind);
            x.set(0, Edges.HELD, 60);
            Edges.due(x.forgot(0), 1);
        }
    }

    /** After so many DAYS HELD is just LINE, and one DAY later below it. */
    static void promise29JustKnownOnTheWay() {
        TwentyPhrases x = Edges.ofKinds(Edges.PHRASE);
        x.set(0, Edges.HELD, 80);
        Edges.due(x.forgot(0), 3);
        x.set(0, Edges.HELD, 79);
        Edges.due(x.forgot(0), 2);
    }

    static void promise29UsedOnTheWay() {
        TwentyPhrases x = one(Edges.PHRASE, 60);
        Edges.due(x.forgot(0), 3);
        x.change(0, Edges.DAY, 1);
        Edges.due(x.forgot(0), 1);
    }

    /** The longest that can be: a ROPE that twelve DAYS need; so NONE can't come up. */
    static void promise29AsLongAsCanBe() {
        TwentyPhrases x = Edges.ofKinds(Edges.ROPE);
        x.line(1);
        x.set(0, Edges.HELD, 100);
        for (int i = 0; i < 12; i++) {
            x.want(0, 50, 2 + 3 * i);
        }
        Edges.due(x.forgot(0), 56);
        Edges.due(x.on(55, 2), 5);
        Edges.due(x.on(56, 2), 0);
    }

    static void promise29DayThirtyNine() {
        Edges.due(Edges.usualOn(39).forgot(0), 0);
        TwentyPhrases x = Edges.usualOn(39);
        x.set(2, Edges.HELD, 55);
        Edges.due(x.forgot(2), 1);
    }

    static void promise29DayAboveThirtyNine() {
        Edges.refused(Edges.STATE, () -> Edges.usualOn(40), x -> x.forgot(0));
        Edges.refused(Edges.STATE, () -> Edges.usualOn(99), x -> x.forgot(0));
    }

    static void promise29BeyondAheadOfState() {
        Edges.refused(Edges.BEYOND, () -> Edges.usualOn(40), x -> x.forgot(6));
    }

    static void promise29ChangesNothing() {
        Edges.unchanging(() -> one(Edges.PHRASE, 100), x -> x.forgot(0), 6);
    }

    // ---- useless

    static void promise30TooFew() {
        for (int n : new int[] {0, -1, Edges.MIN}) {
            Edges.refused(Edges.BEYOND, x -> x.useless(n));
        }
    }

    static void promise30TooMany() {
        Edges.refused(Edges.BEYOND, x -> x.useless(61));
        Edges.refused(Edges.BEYOND, x -> x.useless(Edges.MAX));
    }

    static void promise30NoPhrases() {
        Edges.due(new TwentyPhrases().useless(60), 0);
    }

    static void promise30AllTwelve() {
        Edges.unchanging(Edges::full, x -> x.useless(60), 4095);
    }

    static void promise30NoneIsUseless() {
        Edges.unchanging(() -> one(Edges.PHRASE, 60), x -> x.useless(1), 0);
    }

    /** The day of a WANT is within n DAYS only if fewer than n lie ahead of it. */
    static void promise30JustWithin() {
        TwentyPhrases x = one(Edges.ROPE, 100);
        x.line(1);
        x.change(0, Edges.DAY, 5);
        Edges.due(x.useless(5), 1);
        Edges.due(x.useless(6), 0);
    }

    /** A ROPE that isn't used lasts 19 DAYS at LINE 1, with 5 left on the morning of day 19. */
    static void promise30UsedAsLateAsCanBe() {
        TwentyPhrases x = one(Edges.ROPE, 100);
        x.line(1);
        x.change(0, Edges.DAY, 19);
        Edges.due(x.useless(19), 1);
        Edges.due(x.useless(20), 0);
        Edges.due(x.useless(60), 0);
        x.change(0, Edges.DAY, 20);
        Edges.due(x.useless(60), 1);
    }

    /** What was USED before doesn't count. */
    static void promise30UsedBefore() {
        TwentyPhrases x = one(Edges.PHRASE, 60);
        x.days(1);
        Edges.due(x.of(0, Edges.USED), 1);
        Edges.due(x.useless(60), 1);
        x.want(0, 50, 1);
        Edges.due(x.useless(60), 0);
    }

    static void promise30DayNinetyNineJustReached() {
        Edges.due(Edges.usualOn(39).useless(60), 63);
        Edges.due(Edges.usualOn(98).useless(1), 63);
    }

    static void promise30DayWouldBeAboveNinetyNine() {
        Edges.refused(Edges.STATE, () -> Edges.usualOn(40), x -> x.useless(60));
        Edges.refused(Edges.STATE, () -> Edges.usualOn(99), x -> x.useless(1));
    }

    static void promise30BeyondAheadOfState() {
        Edges.refused(Edges.BEYOND, () -> Edges.usualOn(99), x -> x.useless(0));
        Edges.refused(Edges.BEYOND, () -> Edges.usualOn(99), x -> x.useless(61));
    }

    // ---- tonight

    static void promise31TooFew() {
        for (int n : new int[] {0, -1, Edges.MIN}) {
            Edges.refused(Edges.BEYOND, x -> x.tonight(n));
        }
    }

    static void promise31TooMany() {
        Edges.refused(Edges.BEYOND, x -> x.tonight(61));
        Edges.refused(Edges.BEYOND, x -> x.tonight(Edges.MAX));
    }

    static void promise31NoPhrases() {
        Edges.refused(Edges.NONE, TwentyPhrases::new, x -> x.tonight(60));
    }

    static void promise31NoneMakesMore() {
        Edges.refused(Edges.NONE, () -> one(Edges.PHRASE, 60), x -> x.tonight(1));
        Edges.refused(Edges.NONE, () -> Edges.ofKinds(0, 1, 2), x -> x.tonight(60));
    }

    static void promise31OneMore() {
        TwentyPhrases x = one(Edges.PHRASE, 0);
        x.change(0, Edges.WORTH, 1);
        Edges.unchanging(() -> one(Edges.PHRASE, 0), y -> y.tonight(1), 0);
        Edges.due(x.tonight(1), 0);
        x.change(0, Edges.WORTH, 0);
        Edges.due(x.tonight(1), Edges.NONE);
    }

    static void promise31OfSeveralTheLeast() {
        Edges.due(held(new int[] {0, 0, 0}).tonight(1), 0);
        TwentyPhrases x = held(new int[] {0, 0, 0});
        x.set(0, Edges.SOUND, 9);
        Edges.due(x.tonight(1), 1);
    }

    static void promise31TheLastOfTwelve() {
        TwentyPhrases x = held(new int[] {2, 2, 2, 2, 2, 2, 2, 2, 2, 2, 2, 0});
        Edges.due(x.tonight(1), 11);
        x.turn(11, Edges.ROPE);
        Edges.due(x.tonight(1), 0);
        // A MENDING one does for all wants (244), a ROPE for less (132): of 4 and 10 the least.
        Edges.unchanging(Edges::full, y -> y.tonight(60), 4);
    }

    /** It is for the KNOWN that lasts: 100, 90, 80, 70, 60, and no longer. */
    static void promise31HundredAtMost() {
        TwentyPhrases x = one(Edges.PHRASE, 99);
        x.change(0, Edges.DAY, 4);
        Edges.due(x.on(5, 0), 5);
        Edges.due(x.tonight(5), 0);
        x.change(0, Edges.DAY, 5);
        Edges.due(x.tonight(6), Edges.NONE);
    }

    static void promise31DayNinetyNineJustReached() {
        TwentyPhrases x = Edges.usualOn(39);
        x.change(0, Edges.DAY, 39);
        Edges.due(x.tonight(60), 0);
        TwentyPhrases y = Edges.usualOn(98);
        y.change(0, Edges.DAY, 98);
        Edges.due(y.tonight(1), 0);
    }

    static void promise31DayWouldBeAboveNinetyNine() {
        Edges.refused(Edges.STATE, () -> Edges.usualOn(40), x -> x.tonight(60));
        Edges.refused(Edges.STATE, () -> Edges.usualOn(99), x -> x.tonight(1));
    }

    static void promise31BeyondAheadOfState() {
        Edges.refused(Edges.BEYOND, () -> Edges.usualOn(99), x -> x.tonight(0));
        Edges.refused(Edges.BEYOND, () -> Edges.usualOn(99), x -> x.tonight(61));
    }

    // ---- plan

    static void promise32NoSuchSet() {
        for (int set : new int[] {Edges.MIN, -1, 64, 1 << 12, Edges.MAX}) {
            Edges.refused(Edges.BEYOND, x -> x.plan(set, 0, 1, -1));
        }
        Edges.refused(Edges.BEYOND, Edges::full, x -> x.plan(4096, 0, 1, -1));
        Edges.refused(Edges.BEYOND, TwentyPhrases::new, x -> x.plan(1, 0, 1, -1));
    }

    static void promise32MinutesBeyond() {
        for (int m : new int[] {Edges.MIN, -1, 601, Edges.MAX}) {
            Edges.refused(Edges.BEYOND, x -> x.plan(1, m, 1, -1));
        }
    }

    static void promise32DaysBeyond() {
        for (int n : new int[] {Edges.MIN, -1, 0, 61, Edges.MAX}) {
            Edges.refused(Edges.BEYOND, x -> x.plan(1, 0, n, -1));
        }
    }

    static void promise32WhatBeyond() {
        for (int what : new int[] {Edges.MIN, -2, 5, Edges.MAX}) {
            Edges.refused(Edges.BEYOND, x -> x.plan(31, 0, 1, what));
        }
    }

    static void promise32MoreThanFive() {
        Edges.refused(Edges.SIZE, x -> x.plan(63, 0, 1, -1));
        Edges.refused(Edges.SIZE, Edges::full, x -> x.plan(4095, 0, 1, 0));
    }

    static void promise32JustFive() {
        TwentyPhrases x = five();
        Edges.due(x.plan(31, 50, 1, -1), 150);
        for (int i = 0; i < 5; i++) {
            Edges.due(x.plan(31, 50, 1, i), i);
        }
        TwentyPhrases y = Edges.full();
        for (int i = 0; i < 5; i++) {
            Edges.due(y.plan(31 << 7, 0, 1, i), 7 + i);
        }
    }

    static void promise32EmptySet() {
        Edges.unchanging(DayEdges::five, x -> x.plan(0, 600, 1, -1), 15);
        Edges.refused(Edges.NONE, DayEdges::five, x -> x.plan(0, 600, 1, 0));
        Edges.due(new TwentyPhrases().plan(0, 600, 60, -1), 0);
    }

    static void promise32NoIth() {
        Edges.refused(Edges.NONE, DayEdges::five, x -> x.plan(1, 0, 1, 1));
        Edges.refused(Edges.NONE, DayEdges::five, x -> x.plan(15, 0, 1, 4));
        Edges.unchanging(DayEdges::five, x -> x.plan(15, 0, 1, 3), 3);
    }

    /** That is the one that is worth most; the others come behind it by numbers. */
    static void promise32OneOfFiveCanBeLearnt() {
        TwentyPhrases x = five();
        Edges.due(x.plan(31, 10, 1, -1), 1 + 2 + 3 + 4 + 50);
        int[] order = {4, 0, 1, 2, 3};
        for (int i = 0; i < 5; i++) {
            Edges.due(x.plan(31, 10, 1, i), order[i]);
        }
    }

    /** PHRASE 4 must last till day 4, PHRASE 3 till the morning only: 10 minutes, then 6 of 10. */
    static void promise32TheSecondIsLearntInPart() {
        TwentyPhrases x = five();
        x.change(4, Edges.DAY, 4);
        Edges.due(x.plan(31, 16, 5, -1), 1 + 2 + 3 + 40 + 50);
        int[] order = {4, 3, 0, 1, 2};
        for (int i = 0; i < 5; i++) {
            Edges.due(x.plan(31, 16, 5, i), order[i]);
        }
        // A minute less, and there is but one of them.
        Edges.due(x.plan(31, 15, 5, -1), 1 + 2 + 3 + 4 + 50);
        // A day less, and day 4 doesn't come.
        Edges.due(x.plan(31, 16, 4, -1), 1 + 2 + 30 + 40);
        Edges.due(x.plan(31, 16, 4, 0), 2);
    }

    /** Of three the last order may be the only best one: 2 whole, 1 in part, 0 not at all. */
    static void promise32TheLastOrderOfThree() {
        TwentyPhrases x = five();
        x.change(2, Edges.DAY, 4);
        Edges.due(x.plan(7, 16, 5, -1), 1 + 20 + 30 + 4 + 5);
        for (int i = 0; i < 3; i++) {
            Edges.due(x.plan(7, 16, 5, i), 2 - i);
        }
    }

    static void promise32TheLastOrderOfTwo() {
        TwentyPhrases x = five();
        Edges.due(x.plan(3, 10, 1, -1), 1 + 20 + 3 + 4 + 5);
        Edges.due(x.plan(3, 10, 1, 0), 1);
        Edges.due(x.plan(3, 10, 1, 1), 0);
        Edges.due(x.plan(3, 10, 1, 2), Edges.NONE);
    }

    /** One that is KNOWN takes no minutes, wherever it stands in an order. */
    static void promise32KnownOnesArePassedBy() {
        TwentyPhrases x = five();
        x.set(0, Edges.HELD, 60);
        Edges.due(x.plan(3, 10, 1, -1), 10 + 20 + 3 + 4 + 5);
        Edges.due(x.plan(3, 10, 1, 0), 0);
        x.set(0, Edges.HELD, 59);
        Edges.due(x.plan(3, 10, 1, -1), 1 + 20 + 3 + 4 + 5);
        Edges.due(x.plan(3, 10, 1, 0), 1);
    }

    /** Of orders that do as well the first by numbers: 3 ahead of 4 though 4 is worth more. */
    static void promise32OfSeveralTheFirstByNumbers() {
        TwentyPhrases x = five();
        Edges.due(x.plan(31, 20, 1, -1), 1 + 2 + 3 + 40 + 50);
        int[] order = {3, 4, 0, 1, 2};
        for (int i = 0; i < 5; i++) {
            Edges.due(x.plan(31, 20, 1, i), order[i]);
        }
    }

    static void promise32NoMinutes() {
        TwentyPhrases x = five();
        Edges.due(x.plan(31, 0, 1, -1), 15);
        for (int i = 0; i < 5; i++) {
            Edges.due(x.plan(31, 0, 1, i), i);
        }
    }

    static void promise32MostMinutesAndDays() {
        Edges.unchanging(DayEdges::five, x -> x.plan(31, 600, 60, -1), 150);
        Edges.unchanging(DayEdges::five, x -> x.plan(31, 600, 60, 4), 4);
    }

    /** THE ORDER that there is doesn't count: what isn't in the set isn't learnt. */
    static void promise32InsteadOfTheOrder() {
        TwentyPhrases x = five();
        for (int phrase = 0; phrase < 5; phrase++) {
            x.queue(phrase);
        }
        Edges.due(x.plan(1, 600, 1, -1), 10 + 2 + 3 + 4 + 5);
        Edges.due(x.plan(0, 600, 1, -1), 15);
        Edges.dueOrder(x, 0, 1, 2, 3, 4);
        Edges.due(x.count(4), 0);
    }

    static void promise32DayNinetyNineJustReached() {
        Edges.due(Edges.usualOn(39).plan(31, 0, 60, 4), 4);
        Edges.due(Edges.usualOn(98).plan(31, 0, 1, 0), 0);
    }

    static void promise32DayWouldBeAboveNinetyNine() {
        Edges.refused(Edges.STATE, () -> Edges.usualOn(40), x -> x.plan(31, 0, 60, 0));
        Edges.refused(Edges.STATE, () -> Edges.usualOn(99), x -> x.plan(0, 0, 1, -1));
    }

    static void promise32FindingsInTheirOrder() {
        Edges.refused(Edges.BEYOND, () -> Edges.usualOn(99), x -> x.plan(63, 601, 1, 5));
        Edges.refused(Edges.BEYOND, () -> Edges.usualOn(99), x -> x.plan(63, 0, 1, 5));
        Edges.refused(Edges.BEYOND, () -> Edges.usualOn(99), x -> x.plan(63, 0, 61, 0));
        Edges.refused(Edges.SIZE, () -> Edges.usualOn(99), x -> x.plan(63, 0, 1, 0));
        Edges.refused(Edges.STATE, () -> Edges.usualOn(99), x -> x.plan(1, 0, 1, 4));
        Edges.refused(Edges.NONE, () -> Edges.usualOn(98), x -> x.plan(1, 0, 1, 4));
    }
}

/** Boundary cases of the Terms that no single promise has for itself. */
final class TermEdges {
    private TermEdges() {
    }

    static void termsFindingsByTheirNumbers() {
        TwentyPhrases x = Edges.full();
        Edges.due(x.ith(-1), -1000000001L);
        Edges.due(x.phrase(0, 0, 1, 0), -1000000002L);
        Edges.due(x.as(0, 1), -1000000003L);
        Edges.due(x.undo(), -1000000004L);
        Edges.goTo(x, 99);
        Edges.due(x.days(1), -1000000005L);
        Edges.due(x.read(0), -1000000006L);
        Edges.due(x.plan(63, 0, 1, 0), -1000000007L);
    }

    static void termsFindingsInLongsToo() {
        TwentyPhrases x = new TwentyPhrases();
        long beyond = x.write(4, 0, 0);
        Edges.due(beyond, -1000000001L);
        long missing = x.write(0, 0, 0);
        Edges.due(missing, -1000000006L);
    }

    /** The worst answer that is none is far above the findings. */
    static void termsNoFaultIsAFinding() {
        TwentyPhrases x = new TwentyPhrases();
        Edges.due(Edges.book(x, " ".repeat(120)), -121);
        Edges.due(x.status(-1), 0);
    }

    /** An object holds for 512 calls: this is the last of them. */
    static void termsCallsThatAreHeldFor() {
        TwentyPhrases x = new TwentyPhrases();
        for (int i = 0; i < 12; i++) {
            x.phrase(i % 6, i % 3, 1 + i, 10);
            x.want(i % 3, 50 + i, i);
        }
        for (int i = 24; i < 511; i++) {
            x.learn(i % 12, 600);
        }
        Edges.due(x.count(4), 1200);
    }

    static void termsDearestCallsFor512Calls() {
        TwentyPhrases x = Edges.full();
        int value = x.best(720, 0);
        for (int i = 40; i < 512; i++) {
            Edges.due(x.best(720, 0), value);
        }
    }

    /** SCORE grows all the way, as far as 512 calls go: four WANTS of 99 on each of 99 days. */
    static void termsGreatestScore() {
        TwentyPhrases x = Edges.ofKinds(0);
        x.set(0, Edges.HELD, 100);
        for (int i = 0; i < 4; i++) {
            x.want(0, 99, 0);
        }
        for (int day = 0; day < 99; day++) {
            Edges.due(x.days(1), 4 * 99);
            for (int i = 0; i < 4 && day < 98; i++) {
                x.change(i, Edges.DAY, day + 1);
            }
        }
        Edges.due(x.now(2), 4 * 99 * 99);
        Edges.duePhrase(x, 0, 0, 0, 5, 10, 100, 4 * 99);
    }

    /** Minutes to learn are cut, by themselves and not with HELD: 100 by 7 is 14 each time. */
    static void termsQuotientsAreCutEachByItself() {
        TwentyPhrases x = new TwentyPhrases();
        x.phrase(0, 0, 7, 0);
        for (int i = 1; i <= 7; i++) {
            Edges.due(x.learn(0, 1), 14 * i);
        }
        Edges.due(x.learn(0, 1), 100);
    }

    /** Sets are told by bits: the lowest for PHRASE 0, the twelfth for PHRASE 11. */
    static void termsSetsAreToldByBits() {
        TwentyPhrases x = Edges.full();
        x.set(0, Edges.HELD, 100);
        Edges.due(x.known(), 1);
        x.set(0, Edges.HELD, 0);
        x.set(11, Edges.HELD, 100);
        Edges.due(x.known(), 2048);
    }

    /** A set is told by those that are there: one PHRASE more, and its bit may stand. */
    static void termsSetsGrowWithPhrases() {
        TwentyPhrases x = new TwentyPhrases();
        for (int i = 0; i < 12; i++) {
            Edges.due(x.value((1 << i) - 1), 0);
            Edges.due(x.value(1 << i), Edges.BEYOND);
            x.phrase(0, 0, 1, 0);
        }
        Edges.due(x.value(4095), 0);
        Edges.due(x.value(4096), Edges.BEYOND);
    }

    /** On each promise that asks and doesn't act nothing changes at all. */
    static void termsQuestionsChangeNothing() {
        Edges.Call[] questions = {x -> x.of(0, 4), x -> x.as(5, 5), x -> x.wantOf(1, 1), x -> x.gain(3, 2, 63),
            x -> x.met(1, 63), x -> x.value(63), x -> x.by(1, 63), x -> x.best(30, 1), x -> x.greedy(30, 1),
            x -> x.next(1), x -> x.spare(63), x -> x.minutesFor(60), x -> x.ith(1), TwentyPhrases::known, x -> x.now(2),
            x -> x.on(30, 2), x -> x.forgot(5), x -> x.useless(30), x -> x.tonight(3), x -> x.plan(31, 20, 30, 2),
            x -> x.read(0), x -> x.count(4), x -> x.status(-1)};
        for (Edges.Call question : questions) {
            Edges.unchanging(Edges::usual, question, question.on(Edges.usual()));
        }
    }
}

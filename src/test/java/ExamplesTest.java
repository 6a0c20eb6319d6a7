/** The examples of the document, word for word. */
public final class ExamplesTest {
    public static void main(String[] args) {
        first();
        second();
        third();
        fourth();
        Check.end();
    }

    private static void first() {
        LitmusTester x = new LitmusTester();
        Check.equal("append", x.append(1819239200, 2015375419, 1819239200, 2032152635, 1953002085), 20);
        Check.equal("append", x.append(1633958771, 1953460837, 544743473, 996962145, 1679847984), 40);
        Check.equal("append", x.append(544815988, 1752327521, 1681617780, 1869767968, 2032152891), 60);
        Check.equal("append", x.append(1819238756, 544354336, 2017158520, 1769174131, 540031602), 80);
        Check.equal("append", x.append(809316384, 1634624544, 825913904, 1026571008, 0), 100);
        Check.yes("truncate", x.truncate(95));
        Check.equal("define", x.define(), 4);
        Check.equal("outcomeCount", x.outcomeCount(0), 3);
        Check.equal("firstMatch", x.firstMatch(1), 5);
        Check.equal("fewestFences", x.fewestFences(1), 3);
        Check.equal("explain", x.explain(1, 5), 6);
        Check.equal("step", x.step(4), 1);
        Check.equal("executionCount", x.executionCount(1), 80L);
    }

    private static void second() {
        LitmusTester x = new LitmusTester();
        Check.equal("append", x.append(1819239200, 2015375419, 1819239200, 1713385531, 1953002085), 20);
        Check.equal("append", x.append(1633958771, 1953460837, 544743473, 997422191, 1919230054), 40);
        Check.equal("append", x.append(540097396, 1752327521, 1681615983, 1633951858, 807429691), 60);
        Check.equal("append", x.append(1819238756, 544354592, 2017158520, 1769174131, 540097138), 80);
        Check.equal("append", x.append(809316640, 1634624544, 825913905, 1026571008, 0), 100);
        Check.yes("truncate", x.truncate(95));
        Check.equal("define", x.define(), 4);
        Check.equal("firstMatch", x.firstMatch(1), -1);
        Check.equal("firstMatch", x.firstMatch(2), 69);
        Check.equal("repairingFences", x.repairingFences(2), 1);
        Check.equal("insertFence", x.insertFence(0), 1);
        Check.equal("matchCount", x.matchCount(2), 0);
    }

    private static void third() {
        LitmusTester x = new LitmusTester();
        Check.equal("append", x.append(1819239200, 1814048827, 1953002085, 1633958771, 2002874400), 20);
        Check.equal("append", x.append(1915756652, 540097396, 1752327521, 1681617783, 1634738290), 40);
        Check.equal("append", x.append(807431200, 825950208, 0, 0, 0), 60);
        Check.yes("truncate", x.truncate(46));
        Check.equal("define", x.define(), 2);
        Check.equal("outcomeCount", x.outcomeCount(2), 2);
        Check.equal("outcome", x.outcome(2, 0), 17);
        Check.equal("raceCount", x.raceCount(), 0);
        Check.equal("stateCount", x.stateCount(2), 5);
    }

    private static void fourth() {
        LitmusTester x = new LitmusTester();
        Check.equal("append", x.append(1819239200, 2015376443, 0, 0, 0), 20);
        Check.yes("truncate", x.truncate(8));
        Check.equal("define", x.define(), -50);
        Check.equal("outcomeCount", x.outcomeCount(0), 1);
    }
}

/** Boundary cases of the term SEND, each under the words of the document that name it. */
public final class FloodEdgeTest {
    private static final Check check = new Check();

    public static void main(String[] args) {
        check.sentence("SEND 1: every rcv(r) = 0, every car(k) = 0, every transmitter set T(k) empty",
            FloodEdgeTest::startsFromNothing);
        check.sentence("SEND 1: rcv(s) = 1 (local origin), and no copy comes back to s", FloodEdgeTest::sourceHasOne);
        check.sentence("SEND 2: no router enters a frontier twice, so at most R rounds", FloodEdgeTest::allRounds);
        check.sentence("SEND 2: transmits on k: k is usable", FloodEdgeTest::notOnUnusableLinks);
        check.sentence("SEND 2: transmits on k: x is in A(k)", FloodEdgeTest::onItsOwnLinksOnly);
        check.sentence("SEND 2: transmits on k: k != RPF(s,x)", FloodEdgeTest::notOnTheReversePath);
        check.sentence("SEND 2: transmits on k: P(s,k) == 0, and not when one tick is left",
            FloodEdgeTest::notOnPrunedLinks);
        check.sentence("SEND 2: transmits on k: F(s,k) is NONE or x", FloodEdgeTest::notWhereTheAssertIsLost);
        check.sentence("SEND 2: accepts copies only on its RPF link", FloodEdgeTest::acceptsOnTheReversePathOnly);
        check.sentence("SEND 2: forwards only after its first accepted copy", FloodEdgeTest::hearsAndKeepsSilent);
        check.sentence("SEND 2: counts later copies without forwarding them", FloodEdgeTest::countsLaterCopies);
        check.sentence("SEND 3: the router of T(k) with the least p, however far", FloodEdgeTest::leastPreference);
        check.sentence("SEND 3: among those, the least D(s,.)", FloodEdgeTest::leastDistance);
        check.sentence("SEND 3: among those, the highest router number", FloodEdgeTest::highestNumber);
        check.sentence("SEND 4: the forwarder is none when T(k) is empty, and k is not pruned then",
            FloodEdgeTest::emptySetPrunesNothing);
        check.sentence("SEND 4: a router y != s is in NEEDED when m(y) is true, the source is not",
            FloodEdgeTest::sourceNeedsNothing);
        check.sentence("SEND 4: in NEEDED when forwarder of some link j, over all of the longest way",
            FloodEdgeTest::needOverTheLongestWay);
        check.sentence("SEND 4: a transmitter that lost the assert is not needed for it",
            FloodEdgeTest::loserIsNotNeeded);
        check.sentence("SEND 4: WANTED when some z in NEEDED has RPF(s,z) == k, not when members merely hear it",
            FloodEdgeTest::wantedByReversePathOnly);
        check.finish();
    }

    /** Were the sets of the packet of source 0 kept, link 2 would see an election for source 3, too. */
    private static void startsFromNothing() {
        DenseCast x = Nets.diamond(3);
        for (int router = 0; router < 6; router++) {
            x.join(router);
        }
        x.send(0);
        check.record("source 0", x, new int[] {1, 1, 1, 2, 1, 1}, new int[] {1, 1, 2, 1, 1});
        x.send(3);
        check.record("source 3", x, new int[] {1, 1, 1, 1, 1, 1}, new int[] {1, 2, 1, 1, 1});
        check.due("forwarder(3, 2), where 3 transmits alone", -1, x.forwarder(3, 2));
        check.due("forwarder(3, 1), where 0 and 2 transmit", 2, x.forwarder(3, 1));
        check.timers("source 3", x, 3, 0, 3, 0, 0, 0);
    }

    private static void sourceHasOne() {
        for (int routers = 3; routers <= 12; routers++) {
            DenseCast x = Nets.ring(routers, 1, 4);
            for (int source = 0; source < routers; source++) {
                x.send(source);
                check.due("received(" + source + ") in a ring of " + routers, 1, x.received(source));
            }
        }
        DenseCast x = new DenseCast(2, 16, 4);
        for (int link = 0; link < 16; link++) {
            Nets.wire(x, link, 0, 1);
        }
        x.send(0);
        check.due("received(0), sixteen links to 1", 1, x.received(0));
        check.due("received(1), sixteen links from 0", 1, x.received(1));
        for (int link = 0; link < 16; link++) {
            check.due("carried(" + link + ")", link == 0 ? 1 : 2, x.carried(link));
        }
    }

    /** The closing link is too dear for a route, so the last router forwards onto it in the last round. */
    private static void allRounds() {
        DenseCast x = Nets.ring(12, 15, 4);
        x.join(11);
        check.due("send(0)", 1, x.send(0));
        for (int link = 0; link < 12; link++) {
            check.due("carried(" + link + ")", link == 11 ? 2 : 1, x.carried(link));
        }
        for (int router = 0; router < 12; router++) {
            check.due("received(" + router + ")", 1, x.received(router));
        }
        check.due("forwarder(0, 11)", 0, x.forwarder(0, 11));
        DenseCast pair = new DenseCast(2, 2, 4);
        Nets.wire(pair, 0, 0, 1);
        Nets.wire(pair, 1, 0, 1);
        pair.send(0);
        check.due("carried(1) of 2 routers", 2, pair.carried(1));
    }

    private static void notOnUnusableLinks() {
        DenseCast x = new DenseCast(3, 4, 7);
        Nets.wire(x, 0, 0, 1, 2);
        Nets.wire(x, 1, 0);
        Nets.wire(x, 2, 2);
        x.join(2);
        x.send(0);
        check.record("links of one router and of none", x, new int[] {1, 1, 1}, new int[] {1, 0, 0, 0});
        check.timers("links of one router and of none", x, 0, 0, 0, 0, 0);
        x.attach(2, 1);
        x.send(0);
        check.record("a second router on link 2", x, new int[] {1, 1, 1}, new int[] {1, 0, 2, 0});
        check.timers("a second router on link 2", x, 0, 0, 0, 7, 0);
    }

    private static void onItsOwnLinksOnly() {
        DenseCast x = new DenseCast(6, 3, 7);
        Nets.wire(x, 0, 0, 1);
        Nets.wire(x, 1, 2, 3);
        Nets.wire(x, 2, 4, 5);
        for (int source = 0; source < 6; source++) {
            x.send(source);
            for (int link = 0; link < 3; link++) {
                check.due("carried(" + link + ") of source " + source, link == source / 2 ? 1 : 0, x.carried(link));
            }
        }
    }

    private static void notOnTheReversePath() {
        DenseCast pair = Nets.line(2, 4);
        pair.send(0);
        check.record("two routers", pair, new int[] {1, 1}, new int[] {1});
        DenseCast lan = new DenseCast(12, 1, 4);
        Nets.wire(lan, 0, 0, 1, 2, 3, 4, 5, 6, 7, 8, 9, 10, 11);
        lan.send(11);
        check.record("a LAN of all", lan, new int[] {1, 1, 1, 1, 1, 1, 1, 1, 1, 1, 1, 1}, new int[] {1});
        check.due("forwarder(11, 0)", -1, lan.forwarder(11, 0));
    }

    private static void notOnPrunedLinks() {
        DenseCast x = Nets.line(3, 4);
        x.send(0);
        x.tick(3);
        x.join(1);
        x.send(0);
        check.record("one tick is left", x, new int[] {1, 1, 0}, new int[] {1, 0});
        x.tick(1);
        x.send(0);
        check.record("no tick is left", x, new int[] {1, 1, 1}, new int[] {1, 1});
    }

    private static void notWhereTheAssertIsLost() {
        for (int winner = 1; winner <= 2; winner++) {
            DenseCast x = Nets.diamond(3);
            x.setPreference(3 - winner, 1);
            x.join(1);
            x.join(2);
            x.join(3);
            check.due("send(0)", 3, x.send(0));
            check.due("carried(2)", 2, x.carried(2));
            check.due("forwarder(0, 2)", winner, x.forwarder(0, 2));
            check.due("send(0) again", 3, x.send(0));
            check.record("winner " + winner, x, new int[] {1, 1, 1, 1, 0, 0}, new int[] {1, 1, 1, 0, 0});
            check.due("forwarder(0, 2) later", winner, x.forwarder(0, 2));
        }
    }

    /** All stand on both links; what goes over the dearer one is heard by all and accepted by none. */
    private static void acceptsOnTheReversePathOnly() {
        DenseCast x = new DenseCast(4, 2, 4);
        Nets.wire(x, 0, 0, 1, 2, 3);
        Nets.wire(x, 1, 0, 1, 2, 3);
        x.setCost(0, 2);
        x.send(2);
        check.record("link 1 is cheaper", x, new int[] {1, 1, 1, 1}, new int[] {4, 1});
        x.setCost(0, 1);
        x.send(2);
        check.record("link 0 has the lower number", x, new int[] {1, 1, 1, 1}, new int[] {1, 4});
    }

    /**
     * Router 2 reaches source 0 over link 1, which is pruned; router 3 reaches it over the dear link 2, where 2
     * stands, too. So 2 hears the packet for 3, and its own link 3 must stay silent.
     */
    private static void hearsAndKeepsSilent() {
        DenseCast x = new DenseCast(5, 4, 9);
        Nets.wire(x, 0, 0, 1);
        Nets.wire(x, 1, 1, 2);
        Nets.wire(x, 2, 0, 2, 3);
        Nets.wire(x, 3, 2, 4);
        x.setCost(2, 4);
        x.setPreference(2, 1);
        x.send(0);
        check.due("forwarder(0, 2)", 0, x.forwarder(0, 2));
        check.timers("nobody wants anything", x, 0, 9, 9, 9, 9);
        x.join(3);
        check.timers("3 has joined", x, 0, 9, 9, 0, 9);
        x.tick(8);
        check.due("send(0)", 1, x.send(0));
        check.record("2 hears only", x, new int[] {1, 0, 0, 1, 0}, new int[] {0, 0, 1, 0});
    }

    /** Router 4 gets a copy of 1 in round 1 and one of 3 in round 2, when it forwards itself. */
    private static void countsLaterCopies() {
        DenseCast x = new DenseCast(7, 7, 4);
        Nets.wire(x, 0, 0, 1);
        Nets.wire(x, 2, 0, 2);
        Nets.wire(x, 3, 2, 3);
        Nets.wire(x, 4, 1, 3, 4);
        Nets.wire(x, 5, 4, 5);
        Nets.wire(x, 6, 5, 6);
        x.join(6);
        check.due("rpfLink(0, 3)", 3, x.rpfLink(0, 3));
        check.due("send(0)", 1, x.send(0));
        check.record("later copies", x, new int[] {1, 1, 1, 1, 2, 1, 1}, new int[] {1, 0, 1, 1, 2, 1, 1});
        check.due("forwarder(0, 4), 1 is nearer", 1, x.forwarder(0, 4));
        check.timers("later copies", x, 0, 0, 0, 4, 4, 0, 0, 0);
    }

    private static void elected(int due, int[] costs, int... preferences) {
        DenseCast x = Nets.threeWays(costs[0], costs[1], costs[2]);
        for (int router = 1; router <= 3; router++) {
            x.setPreference(router, preferences[router - 1]);
        }
        x.send(0);
        String call = "forwarder(0, 3) of costs " + costs[0] + " " + costs[1] + " " + costs[2] + ", preferences "
            + preferences[0] + " " + preferences[1] + " " + preferences[2];
        check.due(call, due, x.forwarder(0, 3));
        check.due("carried(3)", 3, x.carried(3));
    }

    private static void leastPreference() {
        elected(1, new int[] {14, 1, 1}, 0, 1, 1);
        elected(1, new int[] {14, 1, 1}, 254, 255, 255);
        elected(2, new int[] {1, 14, 1}, 1, 0, 255);
        elected(3, new int[] {1, 1, 14}, 255, 255, 254);
        elected(2, new int[] {3, 3, 3}, 128, 127, 129);
    }

    private static void leastDistance() {
        elected(1, new int[] {13, 14, 14}, 0, 0, 0);
        elected(2, new int[] {2, 1, 2}, 255, 255, 255);
        elected(3, new int[] {14, 14, 13}, 7, 7, 7);
        elected(1, new int[] {2, 3, 1}, 4, 4, 5);
        elected(2, new int[] {1, 2, 3}, 5, 4, 4);
    }

    private static void highestNumber() {
        elected(3, new int[] {1, 1, 1}, 0, 0, 0);
        elected(3, new int[] {14, 14, 14}, 255, 255, 255);
        elected(2, new int[] {1, 1, 2}, 0, 0, 0);
        elected(2, new int[] {1, 1, 1}, 0, 0, 1);
        elected(3, new int[] {2, 1, 2}, 0, 1, 0);
        DenseCast x = new DenseCast(12, 2, 4);
        Nets.wire(x, 0, 0, 1, 2, 3, 4, 5, 6, 7, 8, 9, 10, 11);
        Nets.wire(x, 1, 1, 2, 3, 4, 5, 6, 7, 8, 9, 10, 11);
        x.setCost(1, 2);
        x.send(0);
        check.due("forwarder(0, 1) of eleven", 11, x.forwarder(0, 1));
    }

    private static void emptySetPrunesNothing() {
        DenseCast x = Nets.line(12, 9);
        x.send(0);
        x.tick(4);
        x.join(1);
        x.send(0);
        check.timers("links behind the pruned one carry nothing", x, 0, 0, 5, 5, 5, 5, 5, 5, 5, 5, 5, 5);
        DenseCast y = new DenseCast(4, 2, 9);
        Nets.wire(y, 0, 0, 1);
        Nets.wire(y, 1, 2, 3);
        y.send(0);
        check.timers("a link that the packet does not reach", y, 0, 9, 0);
    }

    private static void sourceNeedsNothing() {
        for (int routers : new int[] {2, 12}) {
            for (int source : new int[] {0, routers - 1}) {
                DenseCast x = Nets.line(routers, 3);
                x.join(source);
                check.due("send(" + source + ")", 1, x.send(source));
                for (int link = 0; link < routers - 1; link++) {
                    check.due("pruneLeft(" + source + ", " + link + ")", 3, x.pruneLeft(source, link));
                }
            }
        }
    }

    private static void needOverTheLongestWay() {
        for (int[] way : new int[][] {{0, 11}, {11, 0}}) {
            DenseCast x = Nets.line(12, 16);
            x.join(way[1]);
            for (int packet = 0; packet < 3; packet++) {
                check.due("send(" + way[0] + ")", 1, x.send(way[0]));
                check.timers("to the far end", x, way[0], 0, 0, 0, 0, 0, 0, 0, 0, 0, 0, 0);
            }
        }
        DenseCast x = Nets.line(12, 16);
        x.join(10);
        x.send(0);
        check.timers("to the last but one", x, 0, 0, 0, 0, 0, 0, 0, 0, 0, 0, 0, 16);
    }

    private static void loserIsNotNeeded() {
        DenseCast x = Nets.threeWays(1, 1, 1);
        x.join(4);
        check.due("send(0)", 1, x.send(0));
        check.timers("3 has won", x, 0, 3, 3, 0, 0);
        DenseCast y = Nets.threeWays(1, 1, 1);
        y.join(4);
        y.join(1);
        check.due("send(0)", 2, y.send(0));
        check.timers("3 has won, 1 is a member", y, 0, 0, 3, 0, 0);
    }

    private static void wantedByReversePathOnly() {
        DenseCast x = new DenseCast(3, 3, 6);
        Nets.wire(x, 0, 0, 1);
        Nets.wire(x, 1, 0, 2);
        Nets.wire(x, 2, 1, 2);
        x.join(1);
        x.join(2);
        check.due("send(0)", 2, x.send(0));
        check.record("a triangle", x, new int[] {1, 1, 1}, new int[] {1, 1, 2});
        check.timers("a triangle of members", x, 0, 0, 0, 6);
    }
}

/**
 * Promise 14, and what 22 tells of it: how a ROOT, TIME, LIST and IMAGES are judged at the boundaries of their keys,
 * VERSIONS and ENDS.
 */
public final class EdgeRoleTest {
    private static final int BAD = FlashTrust.BAD, NONE = FlashTrust.NONE, DOWN = FlashTrust.DOWN;
    private static final int MOST = Integer.MAX_VALUE;
    private static final int KEYS_ERROR = -12, VERSION_ERROR = -13, ENDED = -14, DIGEST_ERROR = -15, OLDER = -20;

    public static void main(String[] args) {
        rootRefusedByItsEnd();
        rootVersions();
        rootKeysOfBoth();
        rootThresholds();
        rootErrorsInOrder();
        rootTakesTimeAndListAway();
        rootTakesWhatIsTrustedAway();
        rootTakesThemAwayInOrder();
        whatWentIsTrustedNoMore();
        timeThresholds();
        timeVersions();
        timeOfOlderLists();
        timeEnds();
        timeErrorsInOrder();
        listDigests();
        listThresholds();
        listOfOlderImages();
        listEnds();
        imagesThresholds();
        imagesEnds();
        endsAreWithoutSign();
        whatIsTrustedIsNotAwaited();
        Due.close("EdgeRoleTest");
    }

    private static int[] range(int from, int to) {
        int[] keys = new int[Math.max(to - from, 0)];
        for (int i = 0; i < keys.length; i++) {
            keys[i] = from + i;
        }
        return keys;
    }

    private static int[] join(int[] first, int[] second) {
        int[] all = new int[first.length + second.length];
        System.arraycopy(first, 0, all, 0, first.length);
        System.arraycopy(second, 0, all, first.length, second.length);
        return all;
    }

    private static int sendRoot(Line line, int version, int end) {
        return line.send(0, version, end, 0, 1);
    }

    private static void rootRefusedByItsEnd() {
        Due.promise(15, "ROOT: REFUSED: it goes on to TIME, if the TRUSTED ROOT has not ended (4).");
        int[] clocks = {0, 998, 999, 1000, 1001, MOST};
        for (int clock : clocks) {
            Device x = new Line(9).x;
            x.begin(clock);
            Due.is("END 1,000 at " + clock, x.refuse(), clock < 1000 ? 2 : ENDED);
            Due.is("the ERROR", x.told(13), clock < 1000 ? 0 : 4);
        }
        int[] ends = {0, 1, 2, 1000, 1001, MOST - 1, MOST};
        for (int end : ends) {
            for (long clock = Math.max(end - 1, 0); clock <= end + 1L && clock <= MOST; clock++) {
                Line line = new Line(9);
                line.x.begin((int) clock);
                Due.is("a ROOT is KEPT though it has ended", sendRoot(line, 2, end), 1);
                Due.is("END " + end + " at " + clock, line.x.refuse(), clock < end ? 2 : ENDED);
            }
        }
    }

    private static void rootVersions() {
        Due.promise(14, "VERSION just one more than that of the TRUSTED one (3)");
        for (int trusted = 1; trusted <= 3; trusted++) {
            int[] versions = {1, 2, 3, 4, 5, 257, 258, 259, 65535};
            for (int version : versions) {
                Line line = new Line(9);
                line.x.begin(10);
                for (int v = 2; v <= trusted; v++) {
                    sendRoot(line, v, 500);
                }
                Due.is("wanted", line.x.awaits(1), trusted + 1);
                int want = version == trusted + 1 ? 1 : VERSION_ERROR;
                Due.is("VERSION " + version + " behind " + trusted, sendRoot(line, version, 500), want);
                Due.is("TRUSTED", line.x.trusted(0, 0, 0), want == 1 ? version : trusted);
            }
        }
    }

    private static void rootKeysOfBoth() {
        Due.promise(14, "HAS the role ROOT of the TRUSTED one, and of itself (2): KEPT; AWAITS the next.");
        for (int old = 0; old <= 3; old++) {
            for (int own = 0; own <= 3; own++) {
                Line line = new Line(9);
                line.x.plan(0, 0x0700, 2);
                line.x.begin(10);
                int want = old >= 2 && own >= 2 ? 1 : KEYS_ERROR;
                int[] keys = join(range(0, old), range(8, 8 + own));
                Due.is(old + " keys of the TRUSTED one, " + own + " of its own", line.send(0, 2, 500, keys), want);
                Due.is("TRUSTED", line.x.trusted(0, 0, 0), want == 1 ? 2 : 1);
                Due.is("KEPT", line.x.trusted(0, 3, 0), want == 1 ? 1 : 0);
                Due.is("the next is AWAITED", line.x.awaits(0), want == 1 ? 1 : 0);
                Due.is("its VERSION", line.x.awaits(1), want == 1 ? 3 : 0);
            }
        }
    }

    private static void rootThresholds() {
        Due.promise(14, "if as many of its keys as r's THRESHOLD there, at least, are r's keys there and have SIGNED "
                + "its BODY");
        for (int threshold = 1; threshold <= 5; threshold++) {
            for (int count = 0; count <= 5; count++) {
                Line line = new Line(9);
                line.x.plan(0, 0x1F00, threshold);
                line.x.begin(10);
                int[] keys = join(range(0, 3), range(13 - count, 13));
                int want = count >= threshold ? 1 : KEYS_ERROR;
                Due.is(count + " keys, THRESHOLD " + threshold, line.send(0, 2, 500, keys), want);
            }
        }
        Line line = new Line(9);
        line.x.begin(10);
        Due.is("keys of other roles", line.send(0, 2, 500, join(range(3, 16), range(2, 3))), KEYS_ERROR);
        line.x.begin(10);
        line.x.draft(0, 2, 501);
        line.x.sign(15);
        line.x.sign(2);
        Bytes body = new Bytes().num(2, 2).num(501, 4).ones(2, 3, 0, 1, 2, 1, 1, 3, 1, 1, 4, 2, 2, 5, 6);
        Bytes.document(0, body, 0, 2).feedTo(line.x);
        Due.is("key 0 has not SIGNED, though 15 and 2 have", line.x.answer(), KEYS_ERROR);
        line.x.begin(10);
        line.x.draft(0, 2, 501);
        line.x.sign(0);
        Bytes.document(0, body, 2).feedTo(line.x);
        Due.is("0 and 2 have SIGNED, but 0 is not among its keys", line.x.answer(), KEYS_ERROR);
        line.x.begin(10);
        Bytes.document(0, body, 0, 2).feedTo(line.x);
        Due.is("0 and 2 have SIGNED and are among its keys", line.x.answer(), 1);
    }

    private static void rootErrorsInOrder() {
        Due.promise(14, "Else, in this order: 1; VERSION just one more than that of the TRUSTED one (3); HAS the role");
        Line line = new Line(9);
        Device x = line.x;
        x.begin(10);
        line.offer(0, 3, 500);
        x.spoil(4, 3);
        Due.is("VERSION 0 is 1 ahead of 3", x.answer(), -11);
        x.begin(10);
        Due.is("3 ahead of 2", line.send(0, 3, 500), VERSION_ERROR);
        x.begin(10);
        Due.is("2 alone", line.send(0, 2, 500), KEYS_ERROR);
        x.begin(10);
        Due.is("of another role, but well formed", line.send(3, 2, 500, 0, 1), -11);
    }

    private static Line withTrusted() {
        Line line = new Line(9);
        Due.is("nothing newer, but all are TRUSTED", line.toPieces(1), -19);
        return line;
    }

    private static void rootTakesTimeAndListAway() {
        Due.promise(14, "If keys or THRESHOLD of TIME or of LIST are others in it, those of both that are TRUSTED go");
        // Each is a PLAN first, with which all is TRUSTED, and then the PLAN of the next ROOT: role, keys, THRESHOLD.
        int[][][] pairs = {{{1, 8, 1}, {1, 4, 1}}, {{1, 8, 1}, {1, 16, 1}}, {{1, 8, 1}, {1, 12, 1}},
            {{1, 12, 1}, {1, 8, 1}}, {{1, 12, 1}, {1, 12, 2}}, {{1, 12, 2}, {1, 12, 1}}, {{2, 16, 1}, {2, 8, 1}},
            {{2, 16, 1}, {2, 32, 1}}, {{2, 24, 1}, {2, 24, 2}}, {{2, 24, 2}, {2, 24, 1}}};
        for (int[][] pair : pairs) {
            Line line = trustedBy(pair[0]);
            int[] next = pair[1];
            line.x.plan(next[0], next[1], next[2]);
            line.x.begin(10);
            Due.is("ROOT", sendRoot(line, 3, 500), 1);
            String what = "role " + next[0] + ", keys " + next[1] + ", THRESHOLD " + next[2];
            Due.is(what + ", TIME", line.x.trusted(1, 0, 0), NONE);
            Due.is(what + ", LIST", line.x.trusted(2, 0, 0), NONE);
            Due.is(what + ", IMAGES", line.x.trusted(3, 0, 0), 1);
            Due.is("the number of TIME", line.x.trusted(1, 3, 0), 2);
            Due.is("the number of LIST", line.x.trusted(2, 3, 0), 2);
        }
        int[][][] others = {{{0, 7, 2}, {0, 3, 2}}, {{0, 7, 2}, {0, 7, 1}}, {{3, 96, 2}, {3, 96, 1}},
            {{3, 96, 2}, {3, 224, 2}}, {{1, 8, 1}, {1, 8, 1}}, {{2, 16, 1}, {2, 16, 1}}};
        for (int[][] pair : others) {
            Line line = trustedBy(pair[0]);
            int[] next = pair[1];
            line.x.plan(next[0], next[1], next[2]);
            line.x.begin(10);
            Due.is("ROOT", sendRoot(line, 3, 500), 1);
            String what = "role " + next[0] + ", keys " + next[1] + ", THRESHOLD " + next[2];
            for (int role = 1; role <= 3; role++) {
                Due.is(what + ", role " + role, line.x.trusted(role, 0, 0), 1);
                Due.is("its number", line.x.trusted(role, 3, 0), 1);
            }
        }
    }

    private static Line trustedBy(int[] plan) {
        Line line = new Line(9);
        line.x.plan(plan[0], plan[1], plan[2]);
        line.x.begin(10);
        Due.is("ROOT 2", sendRoot(line, 2, 500), 1);
        line.x.refuse();
        line.x.draft(3, 1, 500);
        line.x.draft(2, 1, 500);
        Due.is("TIME", line.send(1, 1, 500, range(2, 5)), 3);
        Due.is("LIST", line.send(2, 1, 500, range(3, 6)), 4);
        Due.is("IMAGES", line.send(3, 1, 500, range(5, 8)), -19);
        return line;
    }

    private static void rootTakesWhatIsTrustedAway() {
        Due.promise(14, "those of both that are TRUSTED go (KEPT as none: TIME, then LIST)");
        Line line = new Line(9);
        Device x = line.x;
        x.plan(1, 4, 1);
        x.begin(10);
        Due.is("ROOT", sendRoot(line, 2, 500), 1);
        Due.is("neither was TRUSTED", x.trusted(1, 3, 0) + x.trusted(2, 3, 0), 0);
        Due.is("one erasing", x.told(11), 1);
        x.refuse();
        Due.is("TIME", line.send(1, 1, 500, 2), 3);
        x.stop();
        int erasings = x.told(11);
        x.plan(1, 8, 1);
        x.begin(10);
        Due.is("ROOT", sendRoot(line, 3, 500), 1);
        Due.is("TIME goes", x.trusted(1, 0, 0), NONE);
        Due.is("its number", x.trusted(1, 3, 0), 2);
        Due.is("no LIST was TRUSTED", x.trusted(2, 3, 0), 0);
        Due.is("two erasings", x.told(11), erasings + 2);
        for (int what = 1; what <= 9; what++) {
            Due.is("of none, trusted(1, " + what + ", 0)", x.trusted(1, what, 0), what == 3 ? 2 : BAD);
        }
        x.refuse();
        Due.is("any VERSION of TIME may come then", line.send(1, 1, 501, 3), 3);
        Due.is("its number", x.trusted(1, 3, 0), 3);
    }

    /** TIME takes an erasing and a writing, LIST too, ROOT an erasing and two writings. */
    private static void rootTakesThemAwayInOrder() {
        Due.promise(14, "(KEPT as none: TIME, then LIST), ahead of the ROOT being KEPT");
        for (int n = 0; n <= 7; n++) {
            Line line = withTrusted();
            Device x = line.x;
            x.plan(1, 4, 1);
            x.begin(10);
            x.power(n, 0);
            Due.is("cut behind " + n, sendRoot(line, 2, 900), n < 7 ? DOWN : 1);
            Due.is("TIME behind " + n, x.trusted(1, 0, 0), n < 2 ? 1 : NONE);
            Due.is("LIST behind " + n, x.trusted(2, 0, 0), n < 4 ? 1 : NONE);
            Due.is("ROOT behind " + n, x.trusted(0, 0, 0), n < 7 ? 1 : 2);
            Due.is("IMAGES behind " + n, x.trusted(3, 0, 0), 1);
            Due.is("those left", x.told(12), n < 7 ? -1 : 0);
        }
    }

    /**
     * TIME and LIST of VERSION 5, then of 6, then none of both: these are in the sectors where those of VERSION 5 were,
     * which must not be remembered. TIME is AWAITED.
     */
    private static Line withoutTimeAndList() {
        Line line = new Line(9);
        for (int version = 5; version <= 6; version++) {
            line.toTime(10);
            line.prepare(version, 500);
            Due.is("TIME", line.sendTime(version, 500), 3);
            Due.is("LIST", line.sendList(version, 500), 4);
            line.x.stop();
        }
        line.x.plan(2, 16 + 32, 1);
        line.x.begin(10);
        Due.is("ROOT", sendRoot(line, 2, 900), 1);
        for (int role = 1; role <= 2; role++) {
            Due.is("none of " + role, line.x.trusted(role, 0, 0), NONE);
            Due.is("its number", line.x.trusted(role, 3, 0), 3);
            Due.is("where the first was", line.x.flash(2 * role, 3), 3);
        }
        Due.is("TIME is AWAITED", line.x.refuse(), 2);
        return line;
    }

    private static void whatWentIsTrustedNoMore() {
        Due.promise(14, "VERSION not below the TRUSTED one's (3); the VERSION of the LIST in it not below that in the "
                + "TRUSTED one (10)");
        int[] versions = {1, 4, 5, 6, 7};
        for (int version : versions) {
            Line line = withoutTimeAndList();
            line.prepare(1, 500);
            Due.is("TIME " + version + " of LIST 1", line.sendTime(version, 500), 3);
            Due.is("KEPT", line.x.trusted(1, 3, 0), 4);
            Due.is("LIST 1 of IMAGES 1", line.sendList(1, 500), 4);
            Due.is("KEPT", line.x.trusted(2, 3, 0), 4);
        }
        Due.promise(14, "Then the LIST, if the TRUSTED one's BODY has not the DIGEST told");
        for (int version = 5; version <= 6; version++) {
            Line line = withoutTimeAndList();
            line.prepare(version, 500);
            Due.is("TIME as it was", line.sendTime(version, 500), 3);
            Due.is("KEPT", line.x.trusted(1, 3, 0), 4);
            Due.is("no LIST yet", line.x.trusted(2, 0, 0), NONE);
            Due.is("LIST as it was", line.sendList(version, 500), 4);
            Due.is("KEPT", line.x.trusted(2, 3, 0), 4);
        }
    }

    private static void timeThresholds() {
        Due.promise(14, "HAS its role of the TRUSTED ROOT (2)");
        for (int count = 0; count <= 3; count++) {
            for (int threshold = 1; threshold <= 3; threshold++) {
                Line line = new Line(9);
                line.x.plan(1, 0xE000, threshold);
                line.x.begin(10);
                sendRoot(line, 2, 500);
                line.x.refuse();
                int want = count >= threshold ? 3 : KEYS_ERROR;
                Due.is(count + " of " + threshold, line.send(1, 1, 500, range(16 - count, 16)), want);
            }
        }
        Line line = new Line(9);
        line.toTime(10);
        Due.is("keys of the other roles", line.send(1, 1, 500, 0, 1, 2, 4, 5, 6), KEYS_ERROR);
        line.toTime(10);
        Due.is("its key and others", line.send(1, 1, 500, 0, 3, 15), 3);
    }

    /** Ahead of TIME a LIST is drafted; it tells of none that came before. */
    private static int sendTime(Line line, int version, int listVersion, int end, int clock) {
        line.x.stop();
        line.toTime(clock);
        line.x.draft(2, listVersion, 500);
        return line.send(1, version, end, 3);
    }

    private static void timeVersions() {
        Due.promise(14, "VERSION not below the TRUSTED one's (3)");
        int[] first = {1, 2, 65535};
        for (int version : first) {
            Line line = new Line(9);
            Due.is("none is TRUSTED, VERSION " + version, sendTime(line, version, 1, 500, 10), 3);
        }
        int[] trusted = {2, 255, 256, 65535};
        for (int old : trusted) {
            for (int step = -1; step <= 1 && old + step <= 65535; step++) {
                Line line = new Line(9);
                Due.is("the first", sendTime(line, old, 1, 500, 10), 3);
                int want = step < 0 ? VERSION_ERROR : 3;
                Due.is((old + step) + " behind " + old, sendTime(line, old + step, 1, 501, 10), want);
                Due.is("TRUSTED", line.x.trusted(1, 0, 0), Math.max(old, old + step));
                Due.is("its END", line.x.trusted(1, 1, 0), step < 0 ? 500 : 501);
                Due.is("its number", line.x.trusted(1, 3, 0), step < 0 ? 1 : 2);
            }
        }
        Line line = new Line(9);
        sendTime(line, 300, 1, 500, 10);
        Due.is("VERSION 1 behind 300", sendTime(line, 1, 1, 500, 10), VERSION_ERROR);
    }

    private static void timeOfOlderLists() {
        Due.promise(14, "the VERSION of the LIST in it not below that in the TRUSTED one (10)");
        int[] trusted = {1, 2, 255, 256, 65535};
        for (int old : trusted) {
            for (int step = -1; step <= 1 && old + step <= 65535; step++) {
                if (old + step < 1) {
                    continue;
                }
                Line line = new Line(9);
                Due.is("the first", sendTime(line, 1, old, 500, 10), 3);
                int want = step < 0 ? OLDER : 3;
                Due.is("LIST " + (old + step) + " behind " + old, sendTime(line, 2, old + step, 500, 10), want);
                Due.is("TRUSTED", line.x.trusted(1, 0, 0), step < 0 ? 1 : 2);
                Due.is("what it tells", line.x.trusted(1, 6, 0), Math.max(old, old + step));
            }
        }
        Line line = new Line(9);
        sendTime(line, 1, 300, 500, 10);
        Due.is("LIST 1 behind 300", sendTime(line, 9, 1, 500, 10), OLDER);
    }

    private static void timeEnds() {
        Due.promise(14, "4 it ended (its END is not above the clock)");
        int[] clocks = {0, 1, 10, 998, 999};
        for (int clock : clocks) {
            int[] ends = {0, clock - 1, clock, clock + 1, clock + 2, MOST};
            for (int end : ends) {
                if (end >= 0) {
                    Line line = new Line(9);
                    int want = end > clock ? 3 : ENDED;
                    Due.is("END " + end + " at " + clock, sendTime(line, 1, 1, end, clock), want);
                    Due.is("KEPT", line.x.trusted(1, 0, 0), end > clock ? 1 : NONE);
                }
            }
        }
    }

    private static void timeErrorsInOrder() {
        Due.promise(14, "TIME: 1; HAS its role of the TRUSTED ROOT (2); VERSION not below the TRUSTED one's (3); "
                + "the VERSION of the LIST in it not below that in the TRUSTED one (10); 4.");
        Line line = new Line(9);
        Due.is("the first", sendTime(line, 5, 5, 500, 10), 3);
        int[][] wrong = {{1, 0, 4, 4, 10, -11}, {0, 0, 4, 4, 10, KEYS_ERROR}, {0, 3, 4, 4, 10, VERSION_ERROR},
            {0, 3, 5, 4, 10, OLDER}, {0, 3, 5, 5, 10, ENDED}, {0, 3, 5, 5, 11, 3}};
        for (int[] w : wrong) {
            line.x.stop();
            line.toTime(10);
            line.x.draft(2, w[3], 500);
            line.offer(1, w[2], w[4], w[1]);
            if (w[0] == 1) {
                line.x.feed(0, 0, 0, 0, 0);
            }
            Due.is("the next in order", line.x.answer(), w[5]);
        }
    }

    private static void listDigests() {
        Due.promise(14, "LIST: 1; DIGEST of its BODY as TIME tells (5); its role (2)");
        Line line = new Line(9);
        Due.is("TIME", sendTime(line, 1, 4, 500, 10), 3);
        line.x.draft(2, 4, 500);
        line.x.show();
        line.x.spoil(18, 1);
        Due.is("the last bit of its BODY is another: 5 ahead of 2", line.x.answer(), DIGEST_ERROR);
        Due.is("TIME once more", sendTime(line, 1, 4, 500, 10), 3);
        Due.is("its BODY, without keys", line.send(2, 4, 500), KEYS_ERROR);
        Due.is("TIME once more", sendTime(line, 1, 4, 500, 10), 3);
        Due.is("another VERSION is 5, too", line.send(2, 5, 500, 4), DIGEST_ERROR);
        Due.is("TIME once more", sendTime(line, 1, 4, 500, 10), 3);
        Due.is("just it", line.send(2, 4, 500, 4), 4);
    }

    private static void listThresholds() {
        Due.promise(14, "A DOCUMENT HAS the role r of a ROOT, if as many of its keys as r's THRESHOLD there, at least");
        for (int count = 0; count <= 4; count++) {
            Line line = new Line(9);
            line.x.plan(2, 0xF000, 3);
            line.x.begin(10);
            sendRoot(line, 2, 500);
            line.x.refuse();
            line.x.draft(2, 1, 500);
            Due.is("TIME", line.send(1, 1, 500, 3), 3);
            int want = count >= 3 ? 4 : KEYS_ERROR;
            Due.is(count + " of 3", line.send(2, 1, 500, join(range(0, 12), range(16 - count, 16))), want);
        }
    }

    private static int sendList(Line line, int version, int imagesVersion, int end) {
        line.x.stop();
        line.x.draft(3, imagesVersion, 500);
        line.x.draft(2, version, end);
        line.toTime(10);
        Due.is("TIME", line.send(1, version, 500, 3), 3);
        return line.send(2, version, end, 4);
    }

    private static void listOfOlderImages() {
        Due.promise(14, "the VERSION of the IMAGES in it not below that in the TRUSTED one (10); 4.");
        int[] trusted = {1, 2, 255, 256, 65535};
        for (int old : trusted) {
            for (int step = -1; step <= 1 && old + step <= 65535; step++) {
                if (old + step < 1) {
                    continue;
                }
                Line line = new Line(9);
                Due.is("the first", sendList(line, 1, old, 500), 4);
                int want = step < 0 ? OLDER : 4;
                Due.is("IMAGES " + (old + step) + " behind " + old, sendList(line, 2, old + step, 500), want);
                Due.is("TRUSTED", line.x.trusted(2, 0, 0), step < 0 ? 1 : 2);
                Due.is("what it tells", line.x.trusted(2, 6, 0), Math.max(old, old + step));
                Due.is("TIME is KEPT", line.x.trusted(1, 0, 0), 2);
            }
        }
        Line line = new Line(9);
        sendList(line, 1, 300, 500);
        Due.is("IMAGES 1 behind 300, and ended: 10 ahead of 4", sendList(line, 2, 1, 10), OLDER);
    }

    private static void listEnds() {
        Due.promise(14, "4 it ended (its END is not above the clock)");
        int[] ends = {0, 9, 10, 11, MOST};
        for (int end : ends) {
            Line line = new Line(9);
            Due.is("LIST, END " + end + " at 10", sendList(line, 1, 1, end), end > 10 ? 4 : ENDED);
            Due.is("KEPT", line.x.trusted(2, 0, 0), end > 10 ? 1 : NONE);
        }
    }

    private static int sendImages(Line line, int end, int... keys) {
        line.x.image(2, 30, 1);
        line.x.draft(3, 7, end);
        line.x.draft(2, 1, 500);
        line.toTime(10);
        Due.is("TIME", line.send(1, 1, 500, 3), 3);
        line.x.draft(3, 7, end);
        Due.is("LIST", line.send(2, 1, 500, 4), 4);
        return line.send(3, 7, end, keys);
    }

    private static void imagesThresholds() {
        Due.promise(14, "IMAGES: 1; 5; 2; 3 (as LIST tells); 4.");
        int[][] tooFew = {{}, {5}, {6}, {0, 1, 2, 3, 4, 6, 7, 15}};
        for (int[] keys : tooFew) {
            Due.is(keys.length + " keys", sendImages(new Line(9), 500, keys), KEYS_ERROR);
            Due.is("2 ahead of 4", sendImages(new Line(9), 10, keys), KEYS_ERROR);
        }
        int[][] enough = {{5, 6}, {0, 5, 6, 15}};
        for (int[] keys : enough) {
            Due.is(keys.length + " keys", sendImages(new Line(9), 500, keys), 5);
        }
    }

    private static void imagesEnds() {
        Due.promise(14, "4 it ended (its END is not above the clock)");
        int[] ends = {0, 9, 10, 11, MOST};
        for (int end : ends) {
            Line line = new Line(9);
            Due.is("IMAGES, END " + end + " at 10", sendImages(line, end, 5, 6), end > 10 ? 5 : ENDED);
            Due.is("KEPT", line.x.trusted(3, 0, 0), end > 10 ? 7 : NONE);
        }
    }

    /**
     * END above 2^31 - 1 can't be drafted. These BODIES were looked for: they have the DIGEST of one that can, so that
     * a key that SIGNED the one has SIGNED the other.
     */
    private static void endsAreWithoutSign() {
        Due.promise(14, "A BODY begins with a VERSION (2, from 1 on) and an END (4, without sign).");
        Bytes drafted = Bytes.told(1, 500, 1, 0);
        Bytes[] times = {Bytes.told(2, 0x80000000L, 1, 0x1545E828AE5FC3A8L),
            Bytes.told(1, 0xFFFFFFFFL, 1, 0xC988CF2063CA415CL)};
        for (Bytes body : times) {
            Due.is("the DIGEST is the same", body.digest(), drafted.digest());
            Line line = atTheLastClock();
            line.x.draft(1, 1, 500);
            line.x.sign(3);
            Bytes.document(1, body, 3).feedTo(line.x);
            Due.is("TIME, END 2^31 and above", line.x.answer(), 3);
        }
        Bytes list = Bytes.told(1, 0x80000000L, 2, 0xA2D8F0E570BF78DDL);
        Due.is("the DIGEST is the same", list.digest(), drafted.digest());
        Line line = atTheLastClock();
        line.offer(2, 1, 500, 4);
        Due.is("TIME", line.send(1, 1, MOST, 3), 3);
        Bytes.document(2, list, 4).feedTo(line.x);
        Due.is("LIST, END 2^31", line.x.answer(), 4);
        Bytes images = new Bytes().num(1, 2).num(0x80000000L, 4).num(1, 1).num(2, 2).num(2, 2)
                .num(0x8FFBDF7BBE6B5376L, 8);
        line = atTheLastClock();
        line.offer(3, 1, 500, 5, 6);
        line.x.draft(2, 1, MOST);
        Due.is("TIME", line.send(1, 1, MOST, 3), 3);
        Due.is("LIST", line.send(2, 1, MOST, 4), 4);
        Bytes.document(3, images, 5, 6).feedTo(line.x);
        Due.is("IMAGES, END 2^31", line.x.answer(), 5);
        int[] ends = {MOST - 1, MOST};
        for (int end : ends) {
            line = atTheLastClock();
            Due.is("TIME, END " + end, line.send(1, 1, end, 3), end == MOST ? 3 : ENDED);
        }
    }

    /** TIME is AWAITED at 2^31 - 2, the last clock at which a ROOT that was drafted has not ended. */
    private static Line atTheLastClock() {
        Line line = new Line(9);
        line.x.begin(MOST - 1);
        Due.is("ROOT", sendRoot(line, 2, MOST), 1);
        Due.is("it has not ended", line.x.refuse(), 2);
        return line;
    }

    private static void whatIsTrustedIsNotAwaited() {
        Due.promise(14, "Then the LIST, if the TRUSTED one's BODY has not the DIGEST told; else it is looked at as if "
                + "it came.");
        Line line = withTrusted();
        line.toTime(10);
        line.prepare(1, 500);
        Due.is("all are TRUSTED", line.sendTime(2, 500), -19);
        line.toTime(10);
        line.offer(2, 2, 500, 4);
        Due.is("another LIST", line.sendTime(2, 500), 3);
        Due.is("of the TRUSTED IMAGES", line.sendList(2, 500), -19);
        line.toTime(10);
        line.offer(3, 2, 500, 5, 6);
        line.offer(2, 3, 500, 4);
        Due.is("another LIST", line.sendTime(3, 500), 3);
        Due.is("of other IMAGES", line.sendList(3, 500), 4);
        Due.is("which come", line.sendImages(2, 500), -19);
        for (int role = 1; role <= 3; role++) {
            Due.is("the number of " + role, line.x.trusted(role, 3, 0), role == 1 ? 4 : role == 2 ? 3 : 2);
        }
    }
}

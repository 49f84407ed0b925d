/** A device that runs, and the other side, with the ordinary ways between them. */
final class Line {
    final Device x;

    Line(int n) {
        this(new Device(n));
    }

    Line(Device device) {
        x = device;
        x.boot();
    }

    /** A drafted, signed DOCUMENT comes to the tape. */
    void offer(int role, int version, int end, int... keys) {
        x.draft(role, version, end);
        for (int key : keys) {
            x.sign(key);
        }
        x.show();
    }

    int send(int role, int version, int end, int... keys) {
        offer(role, version, end, keys);
        return x.answer();
    }

    /** Up to TIME being AWAITED. */
    int toTime(int clock) {
        x.begin(clock);
        return x.refuse();
    }

    /** IMAGES and LIST are drafted, so that the TIME that is drafted next tells of them. */
    void prepare(int version, int end) {
        offer(3, version, end, 5, 6);
        offer(2, version, end, 4);
    }

    int sendTime(int version, int end) {
        return send(1, version, end, 3);
    }

    int sendList(int version, int end) {
        return send(2, version, end, 4);
    }

    int sendImages(int version, int end) {
        return send(3, version, end, 5, 6);
    }

    /** An UPDATE by documents of one VERSION, up to its first PIECE or its end. */
    int toPieces(int version) {
        toTime(10);
        prepare(version, 500);
        int awaited = sendTime(version, 500);
        if (awaited == 3) {
            awaited = sendList(version, 500);
        }
        if (awaited == 4) {
            awaited = sendImages(version, 500);
        }
        return awaited;
    }

    int sendPieces() {
        int awaited = x.awaits(0);
        for (int i = 0; i < 20 && awaited == 5; i++) {
            x.piece(x.awaits(1), x.awaits(2));
            awaited = x.answer();
        }
        return awaited;
    }

    int load(int version, int length, int seed) {
        x.image(version, length, seed);
        toPieces(version);
        return sendPieces();
    }

    void isTold(String what, int... wanted) {
        for (int i = 0; i < wanted.length; i++) {
            Due.is(what + ", told(" + i + ")", x.told(i), wanted[i]);
        }
    }
}

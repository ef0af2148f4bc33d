/**
 * A mail store of three mailboxes that four sessions look at through sequence numbers.
 *
 * <p>All rows are made once, with the object, and used again: no call makes an object.
 */
public final class MailViews {
    public static final int REFUSED = -1;
    public static final int FULL = -2;
    public static final int GONE = -3;
    public static final int READ_ONLY = -4;
    public static final int WRONG = -5;
    public static final int EXPUNGED = 1;
    public static final int EXISTS = 2;
    public static final int FLAGGED = 3;

    private static final int MAILBOXES = 3;
    private static final int SESSIONS = 4;
    private static final int MAILBOX_ROOM = 12;
    private static final int VIEW_ROOM = 24;
    private static final int ALL_FLAGS = 31;
    private static final int DELETED = 8;
    private static final int LARGEST_SIZE = 999;
    private static final int NONE = -1;

    private static final int SET = 0;
    private static final int SET_ALSO = 1;
    private static final int UNSET = 2;

    private final Mailbox[] mailboxes;
    private final Session[] sessions;
    private final Journal journal;
    private final Criterion written;
    private final int[] hits;
    private int hitCount;

    public MailViews() {
        mailboxes = new Mailbox[MAILBOXES];
        for (int at = 0; at < MAILBOXES; at++) {
            mailboxes[at] = new Mailbox();
        }
        sessions = new Session[SESSIONS];
        for (int at = 0; at < SESSIONS; at++) {
            sessions[at] = new Session();
        }
        journal = new Journal();
        written = new Criterion();
        hits = new int[VIEW_ROOM];
        hitCount = 0;
    }

    public int append(int mailbox, int flags, int size) {
        if (!isMailbox(mailbox) || !areFlags(flags) || size < 1 || size > LARGEST_SIZE) {
            return REFUSED;
        }
        return add(mailbox, flags, size);
    }

    public int select(int session, int mailbox, boolean readOnly) {
        if (!isSession(session) || !isMailbox(mailbox)) {
            return REFUSED;
        }
        sessions[session].open(mailbox, readOnly, mailboxes[mailbox]);
        return sessions[session].viewLength();
    }

    public int close(int session) {
        if (!hasMailbox(session)) {
            return REFUSED;
        }
        Session closing = sessions[session];
        int removed = closing.isReadOnly() ? 0 : removeDeleted(closing.mailboxNumber());
        closing.leave();
        return removed;
    }

    public int check(int session) {
        if (!hasMailbox(session)) {
            return REFUSED;
        }
        update(session, true);
        return sessions[session].noticeCount();
    }

    public int fetch(int session, int number) {
        if (!isInView(session, number)) {
            return REFUSED;
        }
        Mailbox box = mailboxOf(session);
        int at = box.positionOf(sessions[session].uidOf(number));
        if (at == NONE) {
            return GONE;
        }
        sessions[session].know(number, box.flagsAt(at));
        return box.flagsAt(at);
    }

    public int store(int session, int number, int mode, int flags) {
        if (mode < SET || mode > UNSET || !areFlags(flags) || !isInView(session, number)) {
            return REFUSED;
        }
        if (sessions[session].isReadOnly()) {
            return READ_ONLY;
        }
        Mailbox box = mailboxOf(session);
        int uid = sessions[session].uidOf(number);
        int at = box.positionOf(uid);
        if (at == NONE) {
            return GONE;
        }
        int before = box.flagsAt(at);
        int after = changedFlags(before, mode, flags);
        box.setFlagsAt(at, after);
        journal.noteFlagsSet(sessions[session].mailboxNumber(), uid, before);
        sessions[session].know(number, after);
        update(session, false);
        return after;
    }

    public int expunge(int session) {
        if (!hasMailbox(session)) {
            return REFUSED;
        }
        if (sessions[session].isReadOnly()) {
            return READ_ONLY;
        }
        int removed = removeDeleted(sessions[session].mailboxNumber());
        update(session, true);
        return removed;
    }

    public int copy(int session, int number, int mailbox) {
        if (!isMailbox(mailbox) || !isInView(session, number)) {
            return REFUSED;
        }
        Mailbox from = mailboxOf(session);
        int at = from.positionOf(sessions[session].uidOf(number));
        if (at == NONE) {
            return GONE;
        }
        int uid = add(mailbox, from.flagsAt(at), from.sizeAt(at));
        if (uid == FULL) {
            return FULL;
        }
        update(session, true);
        return uid;
    }

    public int criterion(int op, int a, int b) {
        if (!Criterion.isOp(op)) {
            return REFUSED;
        }
        if (written.isFull()) {
            return FULL;
        }
        written.write(op, a, b);
        return written.tokenCount();
    }

    public int search(int session) {
        if (!hasMailbox(session)) {
            return REFUSED;
        }
        if (!written.isGood()) {
            written.wipe();
            return WRONG;
        }
        findHits(sessions[session], mailboxOf(session));
        written.wipe();
        update(session, false);
        return hitCount;
    }

    public int found(int k) {
        return k >= 0 && k < hitCount ? hits[k] : REFUSED;
    }

    public int sync() {
        journal.makeAllDurable();
        return journal.changeCount();
    }

    public int crash() {
        for (int at = 0; at < SESSIONS; at++) {
            sessions[at].leave();
        }
        for (int at = 0; at < MAILBOXES; at++) {
            if (journal.hasOpenAdditionTo(at)) {
                mailboxes[at].growValidity();
            }
        }
        journal.takeBackAll(mailboxes);
        return journal.changeCount();
    }

    public int message(int mailbox, int k, int what) {
        if (!isMailbox(mailbox) || k < 0 || k >= mailboxes[mailbox].messageCount()) {
            return REFUSED;
        }
        switch (what) {
            case 0:
                return mailboxes[mailbox].uidAt(k);
            case 1:
                return mailboxes[mailbox].flagsAt(k);
            case 2:
                return mailboxes[mailbox].sizeAt(k);
            default:
                return REFUSED;
        }
    }

    public int seen(int session, int number, int what) {
        if (!isInView(session, number)) {
            return REFUSED;
        }
        switch (what) {
            case 0:
                return sessions[session].uidOf(number);
            case 1:
                return sessions[session].knownFlagsOf(number);
            default:
                return REFUSED;
        }
    }

    public int notice(int session, int k, int what) {
        if (!hasMailbox(session) || k < 0 || k >= sessions[session].noticeCount()) {
            return REFUSED;
        }
        switch (what) {
            case 0:
                return sessions[session].noticeKindAt(k);
            case 1:
                return sessions[session].noticeNumberAt(k);
            default:
                return REFUSED;
        }
    }

    public int mailbox(int mailbox, int what) {
        if (!isMailbox(mailbox)) {
            return REFUSED;
        }
        switch (what) {
            case 0:
                return mailboxes[mailbox].messageCount();
            case 1:
                return mailboxes[mailbox].nextUid();
            case 2:
                return mailboxes[mailbox].validity();
            case 3:
                return sessionsWith(mailbox);
            default:
                return REFUSED;
        }
    }

    public int count(int what) {
        switch (what) {
            case 0:
                return journal.changeCount();
            case 1:
                return journal.durableCount();
            case 2:
                return written.tokenCount();
            case 3:
                return hitCount;
            default:
                return REFUSED;
        }
    }

    private static boolean isMailbox(int mailbox) {
        return mailbox >= 0 && mailbox < MAILBOXES;
    }

    private static boolean isSession(int session) {
        return session >= 0 && session < SESSIONS;
    }

    private static boolean areFlags(int flags) {
        return flags >= 0 && flags <= ALL_FLAGS;
    }

    private boolean hasMailbox(int session) {
        return isSession(session) && sessions[session].mailboxNumber() != NONE;
    }

    private boolean isInView(int session, int number) {
        return hasMailbox(session) && number >= 1 && number <= sessions[session].viewLength();
    }

    /** Only for a session that has a mailbox. */
    private Mailbox mailboxOf(int session) {
        return mailboxes[sessions[session].mailboxNumber()];
    }

    private int sessionsWith(int mailbox) {
        int having = 0;
        for (int at = 0; at < SESSIONS; at++) {
            if (sessions[at].mailboxNumber() == mailbox) {
                having++;
            }
        }
        return having;
    }

    private void update(int session, boolean removals) {
        sessions[session].update(mailboxOf(session), removals);
    }

    private int add(int mailbox, int flags, int size) {
        Mailbox box = mailboxes[mailbox];
        if (box.isFull()) {
            return FULL;
        }
        int uid = box.addNew(flags, size);
        journal.noteAdded(mailbox, uid);
        return uid;
    }

    private int removeDeleted(int mailbox) {
        Mailbox box = mailboxes[mailbox];
        int removed = 0;
        int at = 0;
        for (int left = box.messageCount(); left > 0; left--) {
            if ((box.flagsAt(at) & DELETED) != 0) {
                journal.noteRemoved(mailbox, box.uidAt(at), box.flagsAt(at), box.sizeAt(at));
                box.removeAt(at);
                removed++;
            } else {
                at++;
            }
        }
        return removed;
    }

    private static int changedFlags(int before, int mode, int flags) {
        switch (mode) {
            case SET_ALSO:
                return before | flags;
            case UNSET:
                return before & ~flags;
            default:
                return flags;
        }
    }

    private void findHits(Session session, Mailbox box) {
        hitCount = 0;
        for (int number = 1; number <= session.viewLength(); number++) {
            int at = box.positionOf(session.uidOf(number));
            if (at != NONE && written.isFulfilledBy(box, at, number)) {
                hits[hitCount] = number;
                hitCount++;
            }
        }
    }

    /** The messages of one mailbox in the order of their UIDs. */
    private static final class Mailbox {
        private final int[] uids = new int[MAILBOX_ROOM];
        private final int[] flags = new int[MAILBOX_ROOM];
        private final int[] sizes = new int[MAILBOX_ROOM];
        private int length = 0;
        private int nextUid = 1;
        private int validity = 1;

        int messageCount() {
            return length;
        }

        boolean isFull() {
            return length >= MAILBOX_ROOM;
        }

        int nextUid() {
            return nextUid;
        }

        int validity() {
            return validity;
        }

        void growValidity() {
            validity++;
        }

        int uidAt(int at) {
            return uids[at];
        }

        int flagsAt(int at) {
            return flags[at];
        }

        int sizeAt(int at) {
            return sizes[at];
        }

        void setFlagsAt(int at, int newFlags) {
            flags[at] = newFlags;
        }

        int positionOf(int uid) {
            for (int at = 0; at < length; at++) {
                if (uids[at] == uid) {
                    return at;
                }
            }
            return NONE;
        }

        /** Only if it is not full. */
        int addNew(int newFlags, int size) {
            int uid = nextUid;
            nextUid++;
            insert(uid, newFlags, size);
            return uid;
        }

        void takeBackAdded(int uid) {
            removeAt(positionOf(uid));
            nextUid = uid;
        }

        void insert(int uid, int newFlags, int size) {
            if (isFull()) {
                return;
            }
            int at = length;
            for (; at > 0 && uids[at - 1] > uid; at--) {
                move(at - 1, at);
            }
            uids[at] = uid;
            flags[at] = newFlags;
            sizes[at] = size;
            length++;
        }

        void removeAt(int removed) {
            if (removed < 0 || removed >= length) {
                return;
            }
            for (int at = removed + 1; at < length; at++) {
                move(at, at - 1);
            }
            length--;
        }

        void restoreFlags(int uid, int oldFlags) {
            int at = positionOf(uid);
            if (at != NONE) {
                flags[at] = oldFlags;
            }
        }

        private void move(int from, int to) {
            uids[to] = uids[from];
            flags[to] = flags[from];
            sizes[to] = sizes[from];
        }
    }

    /** Counts the changes, and keeps of those that are not durable what taking them back needs. */
    private static final class Journal {
        private static final int ROOM = 8;
        private static final int ADDED = 0;
        private static final int REMOVED = 1;
        private static final int FLAGS_SET = 2;

        private final int[] kinds = new int[ROOM];
        private final int[] boxes = new int[ROOM];
        private final int[] uids = new int[ROOM];
        private final int[] oldFlags = new int[ROOM];
        private final int[] oldSizes = new int[ROOM];
        private int open = 0;
        private int durable = 0;

        int changeCount() {
            return durable + open;
        }

        int durableCount() {
            return durable;
        }

        void noteAdded(int mailbox, int uid) {
            note(ADDED, mailbox, uid, 0, 0);
        }

        void noteRemoved(int mailbox, int uid, int flags, int size) {
            note(REMOVED, mailbox, uid, flags, size);
        }

        void noteFlagsSet(int mailbox, int uid, int flagsBefore) {
            note(FLAGS_SET, mailbox, uid, flagsBefore, 0);
        }

        void makeAllDurable() {
            durable += open;
            open = 0;
        }

        boolean hasOpenAdditionTo(int mailbox) {
            for (int at = 0; at < open; at++) {
                if (kinds[at] == ADDED && boxes[at] == mailbox) {
                    return true;
                }
            }
            return false;
        }

        /** The last first, so that each finds its mailbox as it left it. */
        void takeBackAll(Mailbox[] mailboxes) {
            for (int at = open - 1; at >= 0; at--) {
                takeBack(at, mailboxes[boxes[at]]);
            }
            open = 0;
        }

        private void takeBack(int at, Mailbox box) {
            switch (kinds[at]) {
                case ADDED:
                    box.takeBackAdded(uids[at]);
                    break;
                case REMOVED:
                    box.insert(uids[at], oldFlags[at], oldSizes[at]);
                    break;
                default:
                    box.restoreFlags(uids[at], oldFlags[at]);
                    break;
            }
        }

        private void note(int kind, int mailbox, int uid, int flags, int size) {
            kinds[open] = kind;
            boxes[open] = mailbox;
            uids[open] = uid;
            oldFlags[open] = flags;
            oldSizes[open] = size;
            open++;
            if (open >= ROOM) {
                makeAllDurable();
            }
        }
    }

    /** What one session sees of its mailbox, and the notices that it was last told. */
    private static final class Session {
        /** Every message of a view may leave it, and all that stand in it then may have other flags. */
        private static final int NOTICE_ROOM = VIEW_ROOM + 1 + VIEW_ROOM;

        private final int[] uids = new int[VIEW_ROOM];
        private final int[] knownFlags = new int[VIEW_ROOM];
        private final int[] noticeKinds = new int[NOTICE_ROOM];
        private final int[] noticeNumbers = new int[NOTICE_ROOM];
        private int mailbox = NONE;
        private boolean readOnly = false;
        private int length = 0;
        private int notices = 0;
        /** Kept apart from the view: the message that bore it may have left. */
        private int highestUid = 0;

        void open(int newMailbox, boolean toReadOnly, Mailbox box) {
            mailbox = newMailbox;
            readOnly = toReadOnly;
            length = 0;
            highestUid = 0;
            takeInNew(box);
            notices = 0;
        }

        void leave() {
            mailbox = NONE;
            readOnly = false;
            length = 0;
            notices = 0;
        }

        int mailboxNumber() {
            return mailbox;
        }

        boolean isReadOnly() {
            return readOnly;
        }

        int viewLength() {
            return length;
        }

        int uidOf(int number) {
            return uids[number - 1];
        }

        int knownFlagsOf(int number) {
            return knownFlags[number - 1];
        }

        void know(int number, int flags) {
            knownFlags[number - 1] = flags;
        }

        int noticeCount() {
            return notices;
        }

        int noticeKindAt(int k) {
            return noticeKinds[k];
        }

        int noticeNumberAt(int k) {
            return noticeNumbers[k];
        }

        void update(Mailbox box, boolean removals) {
            notices = 0;
            if (removals) {
                dropGone(box);
            }
            int before = length;
            takeInNew(box);
            if (length > before) {
                tell(EXISTS, length);
            }
            learnFlags(box);
        }

        private void dropGone(Mailbox box) {
            int kept = 0;
            for (int at = 0; at < length; at++) {
                if (box.positionOf(uids[at]) == NONE) {
                    tell(EXPUNGED, kept + 1);
                } else {
                    uids[kept] = uids[at];
                    knownFlags[kept] = knownFlags[at];
                    kept++;
                }
            }
            length = kept;
        }

        private void takeInNew(Mailbox box) {
            for (int at = 0; at < box.messageCount() && length < VIEW_ROOM; at++) {
                if (box.uidAt(at) > highestUid) {
                    highestUid = box.uidAt(at);
                    uids[length] = highestUid;
                    knownFlags[length] = box.flagsAt(at);
                    length++;
                }
            }
        }

        private void learnFlags(Mailbox box) {
            for (int number = 1; number <= length; number++) {
                int at = box.positionOf(uidOf(number));
                if (at != NONE && box.flagsAt(at) != knownFlagsOf(number)) {
                    know(number, box.flagsAt(at));
                    tell(FLAGGED, number);
                }
            }
        }

        private void tell(int kind, int number) {
            if (notices < NOTICE_ROOM) {
                noticeKinds[notices] = kind;
                noticeNumbers[notices] = number;
                notices++;
            }
        }
    }

    /**
     * A row of tokens, each in front of its parts. It is read from its end: the parts of a token are
     * known when the token itself is reached, so no reading has to go down and come back.
     */
    private static final class Criterion {
        private static final int ROOM = 14;
        private static final int DEEPEST = 5;
        /** Stands for the end of a criterion that lacks a part; behind every row. */
        private static final int BEYOND = ROOM + 1;

        private static final int ALL = 0;
        private static final int HAS = 1;
        private static final int LARGER = 2;
        private static final int SMALLER = 3;
        private static final int UIDS = 4;
        private static final int NUMBERS = 5;
        private static final int NOT = 6;
        private static final int BOTH = 7;
        private static final int EITHER = 8;

        private final int[] ops = new int[ROOM];
        private final int[] as = new int[ROOM];
        private final int[] bs = new int[ROOM];
        /** For the criterion that begins at a token: where it ends, how deep it is, if it holds. */
        private final int[] ends = new int[ROOM];
        private final int[] depths = new int[ROOM];
        private final boolean[] holds = new boolean[ROOM];
        private int length = 0;

        static boolean isOp(int op) {
            return op >= ALL && op <= EITHER;
        }

        int tokenCount() {
            return length;
        }

        boolean isFull() {
            return length >= ROOM;
        }

        void wipe() {
            length = 0;
        }

        /** Only if it is not full. */
        void write(int op, int a, int b) {
            ops[length] = op;
            as[length] = a;
            bs[length] = b;
            length++;
        }

        boolean isGood() {
            for (int at = length - 1; at >= 0; at--) {
                measure(at);
            }
            return length > 0 && ends[0] == length && depths[0] <= DEEPEST;
        }

        /** Only for a criterion that was found good. */
        boolean isFulfilledBy(Mailbox box, int position, int number) {
            for (int at = length - 1; at >= 0; at--) {
                holds[at] = ops[at] < NOT ? leafHolds(at, box, position, number) : joinHolds(at);
            }
            return length > 0 && holds[0];
        }

        private void measure(int at) {
            int first = at + 1;
            int second = endFrom(first);
            if (ops[at] < NOT) {
                ends[at] = first;
                depths[at] = 0;
            } else if (ops[at] == NOT) {
                ends[at] = second;
                depths[at] = 1 + depthFrom(first);
            } else {
                ends[at] = endFrom(second);
                depths[at] = 1 + Math.max(depthFrom(first), depthFrom(second));
            }
        }

        private boolean leafHolds(int at, Mailbox box, int position, int number) {
            switch (ops[at]) {
                case HAS:
                    return (box.flagsAt(position) & as[at]) != 0;
                case LARGER:
                    return box.sizeAt(position) > as[at];
                case SMALLER:
                    return box.sizeAt(position) < as[at];
                case UIDS:
                    return as[at] <= box.uidAt(position) && box.uidAt(position) <= bs[at];
                case NUMBERS:
                    return as[at] <= number && number <= bs[at];
                default:
                    return true;
            }
        }

        private boolean joinHolds(int at) {
            boolean first = holdsFrom(at + 1);
            boolean second = holdsFrom(endFrom(at + 1));
            switch (ops[at]) {
                case BOTH:
                    return first && second;
                case EITHER:
                    return first || second;
                default:
                    return !first;
            }
        }

        private int endFrom(int at) {
            return at < length ? ends[at] : BEYOND;
        }

        private int depthFrom(int at) {
            return at < length ? depths[at] : 0;
        }

        private boolean holdsFrom(int at) {
            return at < length && holds[at];
        }
    }
}

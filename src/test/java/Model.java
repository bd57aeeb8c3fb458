import java.util.ArrayList;
import java.util.List;
import java.util.TreeMap;

/** The document's words over the Java library's collections, as plainly as can be: what MailSessions is compared with. */
final class Model {
    private static final int BAD = -1;
    private static final int NONE = -2;
    private static final int FULL = -3;
    private static final int GONE = -4;
    private static final int EXISTS = -5;

    private static final class Message {
        int size;
        int flags;
        int change;
    }

    private static final class Mailbox {
        int validity;
        int next = 1;
        int highest = 1;
        final TreeMap<Integer, Message> messages = new TreeMap<>();

        int come(int size, int flags) {
            Message message = new Message();
            message.size = size;
            message.flags = flags;
            message.change = ++highest;
            messages.put(next, message);
            return next++;
        }
    }

    private static final class Session {
        Mailbox selected;
        int mailbox;
        List<Integer> view = new ArrayList<>();
    }

    private final Mailbox[] mailboxes = new Mailbox[4];
    private final Session[] sessions = {new Session(), new Session(), new Session()};
    private int made = 0;

    int answer(int method, int a, int b, int c, int d) {
        switch (method) {
            case 0: return create(a);
            case 1: return remove(a);
            case 2: return append(a, b, c);
            case 3: return status(a, b);
            case 4: return counting(a, b);
            case 5: return changedSince(a, b, c);
            case 6: return vanished(a, b);
            case 7: return select(a, b);
            case 16: return copy(a, b, c);
            case 18: return b < 0 ? BAD : appendAndCrash(a, b);
            case 19: return crash();
            case 20: return 0;
            case 21: return 0;
            default: return ofSession(method, a, b, c, d);
        }
    }

    private int ofSession(int method, int s, int b, int c, int d) {
        boolean badCode = method == 12 && (c < 0 || c > 2)
            || method == 13 && (c < 0 || c > 95)
            || method == 17 && (b < 0 || b > 1023);
        if (badSession(s) || badCode) return BAD;
        Session session = sessions[s];
        if (session.selected == null) return NONE;
        switch (method) {
            case 8: return leave(session);
            case 9: return session.view.size();
            case 10: return hasPlace(session, b) ? session.view.get(b - 1) : NONE;
            case 11: return session.view.contains(b) ? session.view.indexOf(b) + 1 : NONE;
            case 12: return fetch(session, b, c);
            case 13: return store(session, b, c);
            case 14: return expunge(session);
            case 15: return poll(session);
            default: return search(session, b, c, d);
        }
    }

    private static boolean badMailbox(int m) {
        return m < 0 || m > 3;
    }

    private static boolean badSession(int s) {
        return s < 0 || s > 2;
    }

    private static boolean hasPlace(Session session, int place) {
        return place >= 1 && place <= session.view.size();
    }

    private static Message at(Session session, int place) {
        return session.selected.messages.get(session.view.get(place - 1));
    }

    private static boolean fits(int flags, int code) {
        for (int flag = 0; flag < 5; flag++) {
            boolean inMask = (code >> 5 + flag & 1) == 1;
            boolean inFlags = (code >> flag & 1) == 1;
            boolean has = (flags >> flag & 1) == 1;
            if (inMask && has != inFlags) return false;
        }
        return true;
    }

    private int create(int m) {
        if (badMailbox(m)) return BAD;
        if (mailboxes[m] != null) return EXISTS;
        mailboxes[m] = new Mailbox();
        mailboxes[m].validity = ++made;
        return made;
    }

    private int remove(int m) {
        if (badMailbox(m)) return BAD;
        Mailbox old = mailboxes[m];
        if (old == null) return NONE;
        mailboxes[m] = null;
        for (Session session : sessions) {
            if (session.selected == old) session.selected = null;
        }
        return old.messages.size();
    }

    private int refusal(int m, int size, int flags) {
        if (badMailbox(m) || size < 1 || size > 1000 || flags < 0 || flags > 31) return BAD;
        if (mailboxes[m] == null) return NONE;
        return mailboxes[m].messages.size() == 14 ? FULL : 0;
    }

    private int append(int m, int size, int flags) {
        int refusal = refusal(m, size, flags);
        return refusal < 0 ? refusal : mailboxes[m].come(size, flags);
    }

    private int status(int m, int what) {
        if (badMailbox(m) || what < 0 || what > 3) return BAD;
        Mailbox box = mailboxes[m];
        if (box == null) return NONE;
        return new int[] {box.validity, box.next, box.highest, box.messages.size()}[what];
    }

    private int counting(int m, int code) {
        if (badMailbox(m) || code < 0 || code > 1023) return BAD;
        if (mailboxes[m] == null) return NONE;
        return (int) mailboxes[m].messages.values().stream().filter(message -> fits(message.flags, code)).count();
    }

    private int changedSince(int m, int change, int after) {
        if (badMailbox(m)) return BAD;
        if (mailboxes[m] == null) return NONE;
        for (int number : mailboxes[m].messages.keySet()) {
            if (number > after && mailboxes[m].messages.get(number).change > change) return number;
        }
        return NONE;
    }

    private int vanished(int m, int number) {
        if (badMailbox(m)) return BAD;
        if (mailboxes[m] == null) return NONE;
        return number > 0 && number < mailboxes[m].next && !mailboxes[m].messages.containsKey(number) ? 1 : 0;
    }

    private int select(int s, int m) {
        if (badSession(s) || badMailbox(m)) return BAD;
        if (mailboxes[m] == null) return NONE;
        sessions[s].selected = mailboxes[m];
        sessions[s].mailbox = m;
        sessions[s].view = new ArrayList<>(mailboxes[m].messages.keySet());
        return sessions[s].view.size();
    }

    private int leave(Session session) {
        session.selected = null;
        return session.mailbox;
    }

    private int fetch(Session session, int place, int what) {
        if (!hasPlace(session, place)) return NONE;
        Message message = at(session, place);
        if (message == null) return GONE;
        return new int[] {message.flags, message.size, message.change}[what];
    }

    private int store(Session session, int place, int code) {
        if (!hasPlace(session, place)) return NONE;
        Message message = at(session, place);
        if (message == null) return GONE;
        int given = code & 31;
        int flags = new int[] {given, message.flags | given, message.flags & (31 ^ given)}[code >> 5];
        if (flags != message.flags) message.change = ++session.selected.highest;
        message.flags = flags;
        return flags;
    }

    private int expunge(Session session) {
        int before = session.selected.messages.size();
        session.selected.messages.values().removeIf(message -> message.flags % 2 == 1);
        int taken = before - session.selected.messages.size();
        session.selected.highest += taken;
        session.view.retainAll(session.selected.messages.keySet());
        return taken;
    }

    private int poll(Session session) {
        List<Integer> now = new ArrayList<>(session.selected.messages.keySet());
        List<Integer> left = new ArrayList<>(session.view);
        left.removeAll(now);
        List<Integer> came = new ArrayList<>(now);
        came.removeAll(session.view);
        session.view = now;
        return left.size() + came.size();
    }

    private int copy(int s, int place, int m) {
        if (badSession(s) || badMailbox(m)) return BAD;
        if (sessions[s].selected == null || !hasPlace(sessions[s], place)) return NONE;
        Message message = at(sessions[s], place);
        return message == null ? GONE : append(m, message.size, message.flags);
    }

    private int search(Session session, int code, int size, int after) {
        for (int place = 1; place <= session.view.size(); place++) {
            Message message = at(session, place);
            if (place > after && message != null && fits(message.flags, code) && message.size >= size) return place;
        }
        return NONE;
    }

    private int appendAndCrash(int m, int code) {
        int refusal = refusal(m, code >> 5, code & 31);
        if (refusal == 0) crash();
        return refusal;
    }

    private int crash() {
        int had = 0;
        for (Session session : sessions) {
            if (session.selected != null) had++;
            session.selected = null;
        }
        return had;
    }
}

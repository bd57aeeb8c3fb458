import java.lang.reflect.Field;

/** faults() is always 0 for a caller, so its check is tried here on state that the test itself has spoilt. */
public final class FaultsTest {
    private FaultsTest() {
    }

    public static void main(String[] args) throws Exception {
        Due.is("nothing spoilt", sound().faults(), 0);
        // Message 2 of mailbox 1 is in cell 15, and place 2 of the view of session 2 in cell 29.
        spoilt("validity", 1, 0, 1);
        spoilt("validity", 1, 3, 1);
        spoilt("numberIn", 14, 0, 1);
        spoilt("numberIn", 15, 1, 1);
        spoilt("numberIn", 16, 4, 1);
        spoilt("sizeIn", 15, 0, 1);
        spoilt("sizeIn", 15, 1001, 1);
        spoilt("flagsIn", 15, 32, 1);
        spoilt("flagsIn", 15, -1, 1);
        spoilt("changeIn", 15, 1, 1);
        spoilt("changeIn", 15, 5, 1);
        spoilt("view", 28, 0, 1);
        spoilt("view", 29, 1, 1);
        spoilt("view", 30, 4, 1);
        spoilt("viewLength", 0, 1, 1);
        spoilt("selected", 0, 2, 1);
        Due.end();
    }

    /** Mailboxes 0 and 1 are there; 1 has messages 1 .. 3, and session 2 looks at it. */
    private static MailSessions sound() {
        MailSessions x = new MailSessions();
        x.create(0);
        x.create(1);
        for (int i = 0; i < 3; i++) {
            x.append(1, 1000, 31);
        }
        x.select(2, 1);
        return x;
    }

    private static void spoilt(String name, int cell, int value, int faults) throws Exception {
        MailSessions x = sound();
        Field field = MailSessions.class.getDeclaredField(name);
        field.setAccessible(true);
        ((int[]) field.get(x))[cell] = value;
        Due.is("faults() with " + name + "[" + cell + "] = " + value, x.faults(), faults);
    }
}

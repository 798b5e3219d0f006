import java.util.Arrays;
import java.util.function.Consumer;
import java.util.function.Supplier;

/** What is asked first, behind another question, or behind something told anew, is answered as if it alone was asked. */
final class OrderBounds extends Refused {
    private static final String[] QUESTIONS = {"fault 0", "pin 2 2", "cup 4 1", "ball 2 0", "at 23 1 0", "sees 9 8 4",
        "ends 1 0", "sum 2", "late", "best", "jam 1", "shoot 0 0", "shoot 2 1", "time 0 0", "time 2 1", "bend 0 0",
        "bend 2 1", "spare -1", "never", "forces 0", "forces 2", "kind 0", "kind 2", "ask 0", "ask 2", "chance 3 0 0",
        "chance 3 2 1", "sundays 7 12 0", "sundays -7 1 1", "count 4", "count 6", "digest"};

    /** A board on which balls are held up, late and lost, and bells ring. */
    static Bagatelle busy() {
        Bagatelle x = told("13r;24b;35t", "123456789", "a4;a5;b5;c5;d5;q5;x5;x5");
        x.room(1);
        x.event(0, 3, 1);
        x.event(1, 6, 2);
        x.event(2, 12, 4);
        x.seen(4, 3, 8, 12);
        return x;
    }

    private static long ask(Bagatelle x, String question) {
        String[] words = question.split(" ");
        int[] args = new int[words.length - 1];
        for (int i = 0; i < args.length; i++) {
            args[i] = Integer.parseInt(words[i + 1]);
        }
        return Digests.call(x, words[0], args);
    }

    private static void askedFirst(String name, int... args) {
        for (Supplier<Bagatelle> state : Arrays.<Supplier<Bagatelle>>asList(Refused::plain, OrderBounds::busy)) {
            long first = Digests.call(state.get(), name, args);
            for (String question : QUESTIONS) {
                Bagatelle x = state.get();
                long answer = ask(x, question);
                String call = name + Arrays.toString(args) + " behind " + question;
                due(call, Digests.call(x, name, args), first);
                due(call + ", asked again", ask(x, question), answer);
            }
        }
    }

    /** What was asked ahead of an act leaves no trace in what is answered behind it. */
    private static void anew(Consumer<Bagatelle> act) {
        for (int part = 0; part < PARTS; part++) {
            Bagatelle x = busy();
            for (String question : QUESTIONS) {
                ask(x, question);
            }
            Bagatelle fresh = busy();
            act.accept(x);
            act.accept(fresh);
            dueTrue("answered anew in part " + part, probe(x, part).equals(probe(fresh, part)));
        }
    }

    static void promise02AnswersAnew() {
        anew(x -> typed(x, 0, ";04l"));
        anew(x -> x.type(0, ';'));
        anew(x -> typed(x, 2, ";a9"));
        anew(x -> x.type(2, ';'));
        anew(x -> {
            x.undo(1);
            x.type(1, '!');
        });
    }

    static void promise03AnswersAnew() {
        anew(x -> x.wipe(0));
        anew(x -> x.wipe(1));
        anew(x -> x.wipe(2));
    }

    static void promise04AnswersAnew() {
        for (int text = 0; text < 3; text++) {
            int undone = text;
            anew(x -> x.undo(undone));
        }
    }

    static void promise09AnswersAnew() {
        anew(x -> x.room(9));
    }

    static void promise10AnswersAnew() {
        anew(x -> x.event(0, 2, 0));
        anew(x -> x.event(1, 2, 0));
        anew(x -> x.event(2, 9, 4));
    }

    static void promise11AnswersAnew() {
        anew(Bagatelle::back);
    }

    static void promise12AnswersAnew() {
        anew(x -> lay(x, 0, 0, 1, 2, 0, 0, 5, 1).read(0));
    }

    static void promise24AnswersAnew() {
        anew(x -> x.seen(1, 1, 4, 1));
    }

    static void promise25AnswersAnew() {
        anew(Bagatelle::forget);
    }

    static void promise05AskedFirst() {
        askedFirst("fault", 0);
    }

    static void promise06AskedFirst() {
        askedFirst("pin", 2, 2);
    }

    static void promise07AskedFirst() {
        for (int what = 0; what < 3; what++) {
            askedFirst("cup", 4, what);
            askedFirst("cup", 5, what);
        }
    }

    static void promise08AskedFirst() {
        askedFirst("ball", 2, 1);
    }

    static void promise13AskedFirst() {
        askedFirst("at", 23, 0, 0);
        askedFirst("at", 6, 1, 1);
    }

    static void promise14AskedFirst() {
        askedFirst("sees", 2, 2, 4);
        askedFirst("sees", 23, 7, 8);
    }

    static void promise15AskedFirst() {
        for (int what = 0; what < 3; what++) {
            askedFirst("ends", 1, what);
        }
    }

    static void promise16AskedFirst() {
        for (int what = 0; what < 3; what++) {
            askedFirst("sum", what);
        }
    }

    static void promise17AskedFirst() {
        askedFirst("late");
    }

    static void promise18AskedFirst() {
        askedFirst("best");
    }

    static void promise19AskedFirst() {
        askedFirst("jam", 0);
        askedFirst("jam", 1);
    }

    static void promise20AskedFirst() {
        for (int ball = 0; ball < 3; ball++) {
            askedFirst("shoot", ball, 0);
            askedFirst("shoot", ball, 1);
        }
    }

    static void promise21AskedFirst() {
        for (int ball = 0; ball < 3; ball++) {
            askedFirst("time", ball, 0);
            askedFirst("time", ball, 1);
        }
    }

    static void promise22AskedFirst() {
        for (int pin = 0; pin < 3; pin++) {
            askedFirst("bend", pin, 0);
            askedFirst("bend", pin, 1);
        }
    }

    static void promise23AskedFirst() {
        for (int i = NONE; i <= 1; i++) {
            askedFirst("spare", i);
        }
    }

    static void promise26AskedFirst() {
        askedFirst("never");
    }

    static void promise27AskedFirst() {
        askedFirst("forces", 1);
    }

    static void promise28AskedFirst() {
        askedFirst("kind", 1);
    }

    static void promise29AskedFirst() {
        askedFirst("ask", 1);
    }

    static void promise30AskedFirst() {
        askedFirst("chance", 3, 1, 0);
        askedFirst("chance", 11, 1, 1);
    }

    static void promise31AskedFirst() {
        askedFirst("sundays", 7, 9, 0);
        askedFirst("sundays", 7, 9, 1);
    }

    static void promise37AskedFirst() {
        for (String question : QUESTIONS) {
            Bagatelle x = busy();
            Bagatelle asked = busy();
            ask(asked, question);
            x.sheet(0, 0, 24);
            asked.sheet(0, 0, 24);
            due("rows", x.write(1, 0), asked.write(1, 0));
            for (int i = 0; i < 24; i++) {
                due("row behind " + question, x.get(0, 0, i), asked.get(0, 0, i));
            }
        }
    }

    static void promise38AskedFirst() {
        askedFirst("count", 4);
        askedFirst("count", 6);
    }

    static void promise39AskedFirst() {
        askedFirst("digest");
    }
}

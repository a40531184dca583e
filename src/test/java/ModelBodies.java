import java.util.ArrayList;
import java.util.List;

/** The KINDS as Java's own classes, so that Java itself says which body comes from above. */
final class ModelBodies {
    static final Class<?>[] CLASSES = {Saying.class, Hint.class, Stammer.class, Song.class,
        Parrot.class, Clerk.class, Foreigner.class, Child.class};

    private ModelBodies() {
    }

    static final class Trace {
        final List<Integer> ran = new ArrayList<>();
    }

    static Saying make(int kind, int number, Trace trace) {
        Saying made = kind == 0 ? new Saying() : kind == 1 ? new Hint() : kind == 2 ? new Stammer()
                : kind == 3 ? new Song() : kind == 4 ? new Parrot() : kind == 5 ? new Clerk()
                : kind == 6 ? new Foreigner() : new Child();
        made.kind = kind;
        made.n = number;
        made.trace = trace;
        return made;
    }

    interface Says {
        int number();

        void began(int code);

        default int says(int x) {
            began(1);
            return x + number();
        }
    }

    interface Tells {
        void began(int code);

        int nears(int x);

        int pays(int x);

        default int tells(int x) {
            began(2);
            return nears(x) - pays(1);
        }
    }

    static class Saying implements Says, Tells {
        int kind;
        int n;
        Trace trace;

        @Override
        public int number() {
            return n;
        }

        @Override
        public void began(int code) {
            trace.ran.add(code);
        }

        @Override
        public int nears(int x) {
            began(10);
            return says(x) * 2;
        }

        @Override
        public int pays(int x) {
            began(11);
            return x ^ n;
        }
    }

    static class Hint extends Saying {
        @Override
        public int says(int x) {
            began(20);
            return super.says(x) + 3;
        }
    }

    static class Stammer extends Saying {
        @Override
        public int nears(int x) {
            began(30);
            return -super.nears(x);
        }
    }

    static class Song extends Stammer {
        @Override
        public int pays(int x) {
            began(40);
            return super.pays(x) * 3;
        }

        @Override
        public int nears(int x) {
            began(41);
            return super.nears(x + 1);
        }
    }

    static class Parrot extends Hint {
        @Override
        public int tells(int x) {
            began(50);
            return super.tells(x) ^ 5;
        }
    }

    static class Clerk extends Song {
        @Override
        public int pays(int x) {
            began(60);
            return super.pays(x) - says(2);
        }

        @Override
        public int tells(int x) {
            began(61);
            return super.tells(x) + 1;
        }
    }

    static class Foreigner extends Saying {
        @Override
        public int says(int x) {
            began(70);
            return super.says(x) * 2;
        }
    }

    static class Child extends Foreigner {
        @Override
        public int nears(int x) {
            began(80);
            return super.nears(x) + pays(2);
        }

        @Override
        public int says(int x) {
            began(81);
            return super.says(x) - 1;
        }
    }
}

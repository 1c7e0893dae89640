import java.util.List;

/** The bodies of the document as real classes, one under the other. */
abstract class ModelBody {
    final int n;
    int kind;
    List<Integer> trace;

    ModelBody(int n) {
        this.n = n;
    }

    abstract int bites(int x);

    abstract int lies(int x);

    abstract int grins(int x);

    abstract int tells(int x);

    void ran(int number) {
        trace.add(number);
    }

    static ModelBody of(int kind, int n) {
        ModelBody b = switch (kind) {
            case 0 -> new Tooth(n);
            case 1 -> new Eyetooth(n);
            case 2 -> new Stump(n);
            case 3 -> new Cap(n);
            case 4 -> new Gum(n);
            case 5 -> new Bishop(n);
            case 6 -> new Mirror(n);
            default -> new Baby(n);
        };
        b.kind = kind;
        return b;
    }

    static class Tooth extends ModelBody {
        Tooth(int n) {
            super(n);
        }

        int bites(int x) {
            ran(1);
            return x + n;
        }

        int lies(int x) {
            ran(10);
            return bites(x) * 2;
        }

        int grins(int x) {
            ran(11);
            return x ^ n;
        }

        int tells(int x) {
            ran(2);
            return lies(x) - grins(1);
        }
    }

    static class Eyetooth extends Tooth {
        Eyetooth(int n) {
            super(n);
        }

        int bites(int x) {
            ran(20);
            return super.bites(x) + 3;
        }
    }

    static class Stump extends Tooth {
        Stump(int n) {
            super(n);
        }

        int lies(int x) {
            ran(30);
            return -super.lies(x);
        }
    }

    static class Cap extends Stump {
        Cap(int n) {
            super(n);
        }

        int grins(int x) {
            ran(40);
            return super.grins(x) * 3;
        }

        int lies(int x) {
            ran(41);
            return super.lies(x + 1);
        }
    }

    static class Gum extends Eyetooth {
        Gum(int n) {
            super(n);
        }

        int tells(int x) {
            ran(50);
            return super.tells(x) ^ 5;
        }
    }

    static class Bishop extends Cap {
        Bishop(int n) {
            super(n);
        }

        int grins(int x) {
            ran(60);
            return super.grins(x) - bites(2);
        }

        int tells(int x) {
            ran(61);
            return super.tells(x) + 1;
        }
    }

    static class Mirror extends Tooth {
        Mirror(int n) {
            super(n);
        }

        int bites(int x) {
            ran(70);
            return super.bites(x) * 2;
        }
    }

    static class Baby extends Mirror {
        Baby(int n) {
            super(n);
        }

        int lies(int x) {
            ran(80);
            return super.lies(x) + grins(2);
        }

        int bites(int x) {
            ran(81);
            return super.bites(x) - 1;
        }
    }
}

/** What the tests by hand have in common: a house, and its answers beside those that are due. */
abstract class Asked {
    static final int MIN = Integer.MIN_VALUE;
    static final int MAX = Integer.MAX_VALUE;
    final Due due;
    GhostRota x;

    Asked(String name) {
        due = new Due(name);
    }

    void fresh() {
        x = new GhostRota();
    }

    void fresh(String law) {
        fresh();
        due.same("law " + law, Texts.law(x, law) > 0 ? 1 : 0, 1);
    }

    void is(String call, long got, long want) {
        due.same(call, got, want);
    }

    void yes(String call, boolean got) {
        due.yes(call, got);
    }

    void no(String call, boolean got) {
        due.no(call, got);
    }

    void rota(String text, int want) {
        is("rota " + text, Texts.rota(x, text), want);
    }

    void law(String text, int want) {
        is("law " + text, Texts.law(x, text), want);
    }

    void sleeperIn(int p, int nerves, int room) {
        x.sleeper(p, nerves);
        x.sleeps(p, 0, 7, room);
    }

    void plainGhost(int g, int years) {
        x.ghost(g, 0, 0, 0, years);
    }

    static String times(int n, String text) {
        return text.repeat(n);
    }
}

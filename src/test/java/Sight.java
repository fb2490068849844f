/** All that an object tells, as a text; taking it uses the object up. */
final class Sight {
    private static final int PLACES = 6;
    private final SidingOrders x;
    private final StringBuilder text = new StringBuilder();

    private Sight(SidingOrders x) {
        this.x = x;
    }

    static String of(SidingOrders x) {
        Sight sight = new Sight(x);
        sight.addYard();
        sight.addOrders();
        sight.addPlay();
        sight.addWayBack();
        for (int n = 0; n < 2; n++) {
            sight.add("restore " + n, x.restore(n));
            sight.addYard();
            sight.addPlay();
            sight.addWayBack();
        }
        sight.addPad();
        return sight.text.toString();
    }

    private void add(String what, long answer) {
        text.append(what).append(' ').append(answer).append('\n');
    }

    private void addYard() {
        for (int what = 0; what < 5; what++) {
            add("told " + what, x.told(what));
        }
        for (int i = 0; i < 4; i++) {
            add("letter " + i, x.siding(i, 0));
            add("length " + i, x.siding(i, 1));
            add("stage " + i, x.siding(i, 2));
            add("leads in " + i, x.leads(0, i + 1));
            add("leads out " + i, x.leads(i + 1, 5));
        }
        add("leads through", x.leads(0, 5));
        for (int n = 1; n <= 4; n++) {
            add("unlike " + n, x.unlike(n));
        }
    }

    private void addOrders() {
        add("good", x.good(4, 0));
        add("bad", x.good(4, 1));
        add("mean", x.mean(3, 0));
        add("orders", x.orders(1234, -1));
        add("least", x.least(321, 123));
        add("ways", x.ways(312, 123));
        add("first", x.first(213, 123, 2));
        add("need", x.need(213, -1));
        add("need 0", x.need(213, 0));
        add("thumb", x.thumb(2413, 1));
        add("sorts", x.sorts(3, 2));
    }

    private void addPlay() {
        add("rest", x.rest());
        add("next", x.next());
        for (int i = -1; i < 4; i++) {
            add("moves " + i, x.moves(i));
        }
        addStand();
    }

    private void addStand() {
        for (int place = 0; place < PLACES; place++) {
            add("stand " + place, x.stand(place));
        }
    }

    private void addWayBack() {
        int left = x.back();
        for (int i = 0; i < 20 && left >= 0; i++) {
            add("back", left);
            addStand();
            add("rest", x.rest());
            left = x.back();
        }
        add("back at the end", left);
    }

    private void addPad() {
        add("fault", x.fault());
        add("signs", x.told(0));
        // What the signs are is seen once they make a YARD; those of the objects here lack a LENGTH.
        Check.say(x, "5");
        add("fault with 5", x.fault());
        if (x.yard() > 0) {
            addYard();
        }
    }
}

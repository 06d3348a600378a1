/** Refusals: a call answers what is due and changes nothing, neither what is told nor what will be. */
final class Refusal {
    /** Makes a new object and brings it to where the call is refused. */
    interface Scenery {
        BoundFrames make();
    }

    interface Call {
        long on(BoundFrames x);
    }

    private final Check check;
    private final String where;
    private final Scenery scenery;
    private final String told;
    private final String playedOut;

    Refusal(Check check, String where, Scenery scenery) {
        this.check = check;
        this.where = where;
        this.scenery = scenery;
        told = Told.of(scenery.make());
        playedOut = Told.playedOut(scenery.make());
    }

    /** A new object for each look: none of them is used for more calls than the document lets it be. */
    Refusal due(String name, int want, Call call) {
        String what = name + ", " + where;
        BoundFrames x = scenery.make();
        check.due(what, call.on(x), want);
        check.due("once more " + what, call.on(x), want);
        check.holds("nothing that is told changed by " + what, told.equals(Told.of(x)));
        BoundFrames y = scenery.make();
        call.on(y);
        check.holds("nothing that comes changed by " + what, playedOut.equals(Told.playedOut(y)));
        return this;
    }

    Refusal unknown(String name, Call call) {
        return due(name, BoundFrames.UNKNOWN, call);
    }

    Refusal outside(String name, Call call) {
        return due(name, BoundFrames.OUTSIDE, call);
    }

    Refusal state(String name, Call call) {
        return due(name, BoundFrames.STATE, call);
    }

    Refusal full(String name, Call call) {
        return due(name, BoundFrames.FULL, call);
    }
}

import java.util.Arrays;

/** A call by its name, so that runs of calls can be told, made again and compared. */
record Call(String name, int... args) {
    int ask(KeyFingers x) {
        int[] a = args;
        switch (name) {
            case "put": return x.put(a[0], a[1], a[2]);
            case "mark": return x.mark(a[0], a[1], a[2]);
            case "reach": return x.reach(a[0], a[1], a[2], a[3], a[4]);
            case "reachOf": return x.reachOf(a[0], a[1], a[2]);
            case "price": return x.price(a[0], a[1]);
            case "clear": return x.clear(a[0]);
            case "note": return x.note(a[0], a[1], a[2]);
            case "costs": return x.costs(a[0], a[1]);
            case "step": return x.step(a[0], a[1], a[2], a[3], a[4]);
            case "best": return x.best(a[0]);
            case "finger": return x.finger(a[0], a[1]);
            case "would": return x.would(a[0], a[1], a[2]);
            case "tie": return x.tie(a[0], a[1], a[2], a[3]);
            case "untie": return x.untie(a[0]);
            case "tied": return x.tied(a[0]);
            case "stuck": return x.stuck(a[0]);
            case "phrase": return x.phrase(a[0], a[1], a[2], a[3]);
            case "forget": return x.forget(a[0]);
            case "prune": return x.prune(a[0]);
            case "name": return x.name(a[0]);
            case "echo": return x.echo(a[0], a[1], a[2]);
            case "tieEcho": return x.tieEcho(a[0], a[1]);
            case "moment": return x.moment(a[0], a[1]);
            case "sum": return x.sum();
            case "swap": return x.swap(a[0]);
            case "help": return x.help(a[0]);
            case "many": return x.many(a[0]);
            default: throw new IllegalStateException(name);
        }
    }

    @Override
    public String toString() {
        String inside = Arrays.toString(args);
        return name + "(" + inside.substring(1, inside.length() - 1) + ")";
    }
}

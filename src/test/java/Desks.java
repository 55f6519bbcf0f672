/** Calls of a SoundDesk by their names. */
final class Desks {
    private Desks() {
    }

    static int call(SoundDesk x, String name, int... a) {
        switch (name) {
            case "sound": return x.sound(a[0], a[1], a[2]);
            case "mark": return x.mark(a[0], a[1]);
            case "as": return x.as(a[0], a[1]);
            case "law": return x.law(a[0]);
            case "set": return x.set(a[0], a[1], a[2], a[3], a[4]);
            case "becomes": return x.becomes(a[0], a[1], a[2]);
            case "tongue": return x.tongue(a[0]);
            case "give": return x.give(a[0], a[1]);
            case "swap": return x.swap(a[0], a[1]);
            case "laws": return x.laws(a[0]);
            case "lawAt": return x.lawAt(a[0], a[1]);
            case "say": return x.say(a[0]);
            case "hush": return x.hush();
            case "result": return x.result(a[0]);
            case "led": return x.led(a[0]);
            case "step": return x.step(a[0]);
            case "places": return x.places(a[0]);
            case "back": return x.back(a[0], a[1]);
            case "differ": return x.differ(a[0], a[1], a[2]);
            case "loses": return x.loses(a[0], a[1]);
            case "stand": return x.stand(a[0], a[1], a[2]);
            case "meaning": return x.meaning();
            case "form": return x.form(a[0], a[1]);
            case "roots": return x.roots(a[0], a[1]);
            case "some": return x.some(a[0], a[1]);
            case "explain": return x.explain(a[0]);
            case "order": return x.order(a[0], a[1]);
            case "few": return x.few(a[0], a[1]);
            case "cost": return x.cost(a[0]);
            case "match": return x.match(a[0], a[1], a[2]);
            case "put": return x.put(a[0]);
            case "check": return x.check(a[0]);
            case "keep": return x.keep();
            case "again": return x.again();
            case "told": return x.told(a[0]);
            default: throw new IllegalArgumentException(name);
        }
    }
}

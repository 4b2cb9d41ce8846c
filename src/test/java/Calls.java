import java.util.Arrays;
import java.util.stream.Collectors;

/** The calls by their names, of PutOn and of Model. */
final class Calls {
    static final String[] ALL = {"clock", "doer", "set", "told", "feed", "text", "force", "at", "right",
        "world", "odds", "time", "sure", "look", "fewest", "ask", "say", "bad", "late", "live", "tellsBack", "film",
        "drawn", "chance", "image", "back", "count", "sheet", "cell", "copy", "clocks", "taken"};

    private Calls() {
    }

    static String told(String name, int... a) {
        return name + Arrays.stream(a).mapToObj(Integer::toString).collect(Collectors.joining(", ", "(", ")"));
    }

    /** What Model answers, or with what it refuses. */
    static long due(Model m, String name, int... a) {
        try {
            return of(m, name, a);
        } catch (Model.Refused refused) {
            return refused.answer;
        }
    }

    static long of(PutOn p, String name, int... a) {
        switch (name) {
            case "clock": return p.clock(a[0], a[1]);
            case "doer": return p.doer(a[0], a[1], a[2]);
            case "set": return p.set(a[0], a[1], a[2]);
            case "told": return p.told(a[0], a[1]);
            case "feed": return p.feed(a[0]);
            case "text": return p.text();
            case "force": return p.force(a[0]);
            case "at": return p.at(a[0], a[1], a[2]);
            case "right": return p.right(a[0], a[1]);
            case "world": return p.world(a[0]);
            case "odds": return p.odds(a[0], a[1]);
            case "time": return p.time(a[0]);
            case "sure": return p.sure(a[0]);
            case "look": return p.look();
            case "fewest": return p.fewest();
            case "ask": return p.ask();
            case "say": return p.say(a[0]);
            case "bad": return p.bad(a[0]);
            case "late": return p.late(a[0]);
            case "live": return p.live(a[0]);
            case "tellsBack": return p.tellsBack(a[0], a[1]);
            case "film": return p.film(a[0], a[1]);
            case "drawn": return p.drawn(a[0]);
            case "chance": return p.chance(a[0], a[1], a[2]);
            case "image": return p.image();
            case "back": return p.back();
            case "count": return p.count(a[0]);
            case "sheet": return p.sheet(a[0], a[1], a[2]);
            case "cell": return p.cell(a[0], a[1], a[2]);
            case "copy": return p.copy(a[0], a[1], a[2], a[3], a[4]);
            case "clocks": return p.clocks(a[0], a[1], a[2], a[3]);
            default: return p.taken(a[0], a[1]);
        }
    }

    static long of(Model m, String name, int... a) {
        switch (name) {
            case "clock": return m.clock(a[0], a[1]);
            case "doer": return m.doer(a[0], a[1], a[2]);
            case "set": return m.set(a[0], a[1], a[2]);
            case "told": return m.told(a[0], a[1]);
            case "feed": return m.feed(a[0]);
            case "text": return m.text();
            case "force": return m.force(a[0]);
            case "at": return m.at(a[0], a[1], a[2]);
            case "right": return m.right(a[0], a[1]);
            case "world": return m.world(a[0]);
            case "odds": return m.odds(a[0], a[1]);
            case "time": return m.time(a[0]);
            case "sure": return m.sure(a[0]);
            case "look": return m.look();
            case "fewest": return m.fewest();
            case "ask": return m.ask();
            case "say": return m.say(a[0]);
            case "bad": return m.bad(a[0]);
            case "late": return m.late(a[0]);
            case "live": return m.live(a[0]);
            case "tellsBack": return m.tellsBack(a[0], a[1]);
            case "film": return m.film(a[0], a[1]);
            case "drawn": return m.drawn(a[0]);
            case "chance": return m.chance(a[0], a[1], a[2]);
            case "image": return m.image();
            case "back": return m.back();
            case "count": return m.count(a[0]);
            case "sheet": return m.sheet(a[0], a[1], a[2]);
            case "cell": return m.cell(a[0], a[1], a[2]);
            case "copy": return m.copy(a[0], a[1], a[2], a[3], a[4]);
            case "clocks": return m.clocks(a[0], a[1], a[2], a[3]);
            default: return m.taken(a[0], a[1]);
        }
    }
}

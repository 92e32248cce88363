import java.util.LinkedHashMap;
import java.util.Map;
import java.util.TreeMap;

/** THE STATE (part 6), as maps. */
final class ModelState {
    record Key(long address, int module, int structure) {
    }

    final Map<Long, long[]> accounts = new LinkedHashMap<>();
    final TreeMap<Integer, ModelModule> modules = new TreeMap<>();
    final Map<Key, ModelDoing.Cell> resources = new LinkedHashMap<>();

    ModelState() {
        modules.put(0, ModelModule.coin());
    }

    int places() {
        return accounts.size() + modules.size() - 1 + resources.size();
    }

    ModelState copy() {
        ModelState other = new ModelState();
        accounts.forEach((address, a) -> other.accounts.put(address, a.clone()));
        other.modules.putAll(modules);
        resources.forEach((key, c) -> other.resources.put(key, new ModelDoing.Cell(ModelDoing.copy(c.held))));
        return other;
    }
}

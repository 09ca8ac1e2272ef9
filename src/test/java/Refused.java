import java.util.ArrayList;
import java.util.EnumMap;
import java.util.List;
import java.util.Map;
import java.util.function.ToIntFunction;

/** Holds an object that refused a call against one that was never asked: later calls must tell the same of both. */
final class Refused {
    private static final Map<Fields, List<List<Long>>> UNASKED = new EnumMap<>(Fields.class);
    private static final Map<Fields, Integer> FINDINGS = new EnumMap<>(Fields.class);

    private Refused() {
    }

    /** A call on such an object answers a finding, which told(3) counts once, and changes nothing else. */
    static void due(Fields field, String call, int finding, ToIntFunction<WellField> act) {
        String label = field + ": " + call;
        WellField counted = field.make();
        Check.due(label, act.applyAsInt(counted), finding);
        Check.due(label + ", then told(3)", counted.told(3), findings(field) + 1);
        for (int part = 0; part < Later.PARTS; part++) {
            WellField x = field.make();
            act.applyAsInt(x);
            List<Long> told = Later.part(x, part);
            List<Long> due = unasked(field).get(part);
            Check.due(label + ", then answers of part " + part, told.size(), due.size());
            for (int i = 0; i < due.size() && i < told.size(); i++) {
                if (!told.get(i).equals(due.get(i))) {
                    Check.due(label + ", then answer " + i + " of part " + part, told.get(i), due.get(i));
                }
            }
        }
    }

    private static List<List<Long>> unasked(Fields field) {
        return UNASKED.computeIfAbsent(field, f -> {
            List<List<Long>> parts = new ArrayList<>();
            for (int part = 0; part < Later.PARTS; part++) {
                parts.add(Later.part(f.make(), part));
            }
            return parts;
        });
    }

    private static int findings(Fields field) {
        return FINDINGS.computeIfAbsent(field, f -> f.make().told(3));
    }
}

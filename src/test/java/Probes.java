import java.util.List;

/**
 * Whether a call changed an object: two new objects are asked the same calls, one of them that call too, and
 * then both are looked at. Each look asks what can be asked of some part of the object, and goes on with it.
 */
final class Probes {
    private interface Look {
        void at(Probe probe);
    }

    private static final Look[] LOOKS = {
        Probes::lookAtCounts, Probes::lookAtDrafts, Probes::lookAtMethods, Probes::lookAtTouches,
        Probes::lookAtPlans, Probes::lookAtRinging, Probes::lookAtBells, Probes::lookAtDaysToCome,
    };

    private Probes() {
    }

    /** What is told otherwise when the call was made; nothing if all is as without it. */
    static String changeBy(List<Asked.Call> before, Asked.Call call) {
        for (Look look : LOOKS) {
            Probe without = new Probe(before);
            Probe with = new Probe(before);
            with.asked.ask(call.name(), call.arguments());
            look.at(without);
            look.at(with);
            String change = without.difference(with);
            if (!change.isEmpty()) {
                return change;
            }
        }
        return "";
    }

    private static final class Probe {
        private final Asked asked;
        private final StringBuilder told;

        Probe(List<Asked.Call> before) {
            asked = new Asked();
            told = new StringBuilder();
            for (Asked.Call call : before) {
                asked.ask(call.name(), call.arguments());
            }
        }

        /** The answer; NONE if there is none, or if there is no call left for both objects. */
        int ask(String name, int... arguments) {
            if (asked.calls().size() >= Asked.MOST_CALLS - 1) {
                return GrandsireLoft.NONE;
            }
            String answer = asked.ask(name, arguments);
            told.append(new Asked.Call(name, arguments)).append(' ').append(answer).append('\n');
            return answer.startsWith("throws") ? GrandsireLoft.NONE : Integer.parseInt(answer);
        }

        String difference(Probe other) {
            String[] lines = told.toString().split("\n");
            String[] others = other.told.toString().split("\n");
            for (int line = 0; line < Math.min(lines.length, others.length); line++) {
                if (!lines[line].equals(others[line])) {
                    return others[line] + ", without the call: " + lines[line];
                }
            }
            return "";
        }
    }

    private static void lookAtCounts(Probe probe) {
        String[] names = {
            "today", "dropped", "touches", "isRinging", "done", "delay", "wrong", "rung", "latest",
        };
        for (String name : names) {
            probe.ask(name);
        }
        for (int bell = 0; bell < 6; bell++) {
            for (String name : new String[] {"isIn", "late", "early", "errors", "due"}) {
                probe.ask(name, bell);
            }
            probe.ask("wear", bell, GrandsireLoft.ROPE);
            probe.ask("wear", bell, GrandsireLoft.CLAPPER);
        }
        probe.ask("setPatience", 0);
        for (int band = 0; band < 4; band++) {
            probe.ask("setBand", band, 6);
        }
    }

    private static void lookAtDrafts(Probe probe) {
        for (int stage = 4; stage <= 6; stage++) {
            int method = probe.ask("method", stage);
            for (int place = 0; place < 13 && method != GrandsireLoft.NONE; place++) {
                probe.ask("changeAt", method, GrandsireLoft.PLAIN, place);
            }
        }
        probe.ask("dropChanges");
        int touch = probe.ask("touch");
        int leads = touch == GrandsireLoft.NONE ? 0 : probe.ask("leads", touch);
        for (int lead = 0; lead < leads; lead++) {
            probe.ask("leadAt", touch, lead);
        }
        probe.ask("dropLeads");
    }

    private static void lookAtMethods(Probe probe) {
        for (int method = 0; method < 9; method++) {
            if (probe.ask("stage", method) == GrandsireLoft.NONE) {
                return;
            }
            probe.ask("course", method);
            probe.ask("falseRows", method);
            for (int call = GrandsireLoft.PLAIN; call <= GrandsireLoft.SINGLE; call++) {
                probe.ask("head", method, call);
                for (int place = 0; place < 13; place++) {
                    probe.ask("changeAt", method, call, place);
                }
            }
        }
    }

    private static void lookAtTouches(Probe probe) {
        for (int touch = 0; touch < 13; touch++) {
            int leads = probe.ask("leads", touch);
            if (leads == GrandsireLoft.NONE) {
                return;
            }
            int rows = probe.ask("rows", touch);
            probe.ask("isTrue", touch);
            probe.ask("comesRound", touch);
            probe.ask("firstRepeat", touch);
            probe.ask("rowAt", touch, rows - 1);
            probe.ask("rowAt", touch, rows / 2);
            probe.ask("bellAt", touch, rows / 2, 1);
            for (int lead = 0; lead < leads; lead++) {
                probe.ask("leadAt", touch, lead);
            }
        }
    }

    private static void lookAtPlans(Probe probe) {
        for (int day = 0; day <= 60; day++) {
            int planned = probe.ask("planned", day);
            for (int place = 0; place < planned; place++) {
                probe.ask("plannedAt", day, place);
            }
            probe.ask("rota", day);
        }
    }

    private static void lookAtRinging(Probe probe) {
        for (int row = 0; row < 240 && probe.ask("isRinging") == 1; row++) {
            for (int bell = 0; bell < 6; bell++) {
                int due = probe.ask("due", bell);
                if (due != GrandsireLoft.NONE) {
                    probe.ask("pull", bell, Math.min(due + 201, 2000000000));
                }
            }
        }
        probe.ask("stand");
        lookAtCounts(probe);
        int today = probe.ask("today");
        for (int touch = 0; touch < 12; touch++) {
            probe.ask("ring", touch, 0, 100);
        }
        probe.ask("rota", today);
        probe.ask("rung");
    }

    private static void lookAtBells(Probe probe) {
        probe.ask("stand");
        for (int bell = 0; bell < 6; bell++) {
            probe.ask("bringIn", bell);
            for (int part = GrandsireLoft.ROPE; part <= GrandsireLoft.CLAPPER; part++) {
                probe.ask("mend", bell, part);
                probe.ask("isIn", bell);
            }
        }
        for (int bell = 5; bell >= 0; bell--) {
            probe.ask("takeOut", bell);
        }
        probe.ask("dropped");
    }

    private static void lookAtDaysToCome(Probe probe) {
        probe.ask("stand");
        for (int passed = 0; passed < 3; passed++) {
            int today = probe.ask("today");
            probe.ask("rota", today);
            for (int touch = 0; touch < 12; touch++) {
                probe.ask("plan", today, touch);
                probe.ask("rota", today);
            }
            probe.ask("ring", probe.ask("latest") == 0 ? 1 : 0, 0, 100);
            probe.ask("pass");
        }
    }
}

import java.util.Arrays;

/**
 * Goes on with a chip by calls that bring to light what can't be seen from without: votes, trips, budgets, wakes
 * that are pending or wait, counts, delays, stays, and how many of each thing there are.
 */
final class Probe {
    private final Powerwell chip;
    private final StringBuilder seen = new StringBuilder();

    private Probe(Powerwell chip) {
        this.chip = chip;
    }

    static String of(Powerwell chip) {
        Probe probe = new Probe(chip);
        probe.look();
        probe.seeSources();
        probe.seeDevices();
        probe.seeVotesAndTrips();
        probe.seeBudgets();
        probe.seeHowMany();
        return probe.seen.toString();
    }

    private void look() {
        seen.append(Face.view(chip));
    }

    private void call(String name, Object... arguments) {
        String answer = Face.answer(chip, name, arguments);
        seen.append(name).append(Arrays.toString(arguments)).append('=').append(answer).append(' ');
    }

    private void seeSources() {
        for (int i = 0; i < 7; i++) {
            call("sleep");
        }
        call("tick", 1);
        look();
        for (int i = 0; i < 6; i++) {
            call("mask", i, false);
            call("sleep");
        }
        for (int i = 0; i < 6; i++) {
            call("wake", i);
            call("sleep");
            call("arm", i, true);
        }
        call("source");
        call("arm", 0, true);
        call("wake", 0);
        look();
    }

    private void seeDevices() {
        call("tick", 2);
        look();
        for (int i = 0; i < 10; i++) {
            call("get", i);
            call("need", i, 0);
            call("work", i, 30);
        }
        call("tick", 1);
        look();
        for (int i = 9; i >= 0; i--) {
            for (int times = 0; times < 4; times++) {
                call("put", i);
            }
        }
        for (int i = 0; i < 6; i++) {
            call("tick", 1 + i);
            look();
        }
        for (int i = 0; i < 10; i++) {
            call("need", i, 0);
            call("get", i);
        }
    }

    private void seeVotesAndTrips() {
        for (int rail = 0; rail < 3; rail++) {
            for (int user = 0; user < 6; user++) {
                call("vote", rail, user, 0);
            }
        }
        for (int domain = 0; domain < 8; domain++) {
            call("trip", domain, 11);
        }
        call("tick", 3);
        look();
    }

    private void seeBudgets() {
        for (int i = 0; i < 30; i++) {
            call("tick", 1);
            call("aim", i % 3);
        }
        for (int rail = 0; rail < 3; rail++) {
            for (int ticks = 1; ticks <= 20; ticks++) {
                call("budget", rail, 100, ticks);
            }
        }
        look();
    }

    private void seeHowMany() {
        for (int rail = 0; rail < 3; rail++) {
            for (int next = 95; next < 100; next++) {
                call("pair", rail, next, next);
            }
        }
        for (int i = 0; i < 4; i++) {
            call("depth", 99, 996 + i);
        }
        call("rail", 1, 'g');
        call("domain", -1, 0, true);
        call("device", 0, 0, 0);
    }
}

import java.util.ArrayList;
import java.util.List;

/** The model with the face's checks and limits: what a call answers, as a text, or the exception's name. */
final class ModelFace {
  private final Model m = new Model();

  private static final class Refusal extends RuntimeException {
    private static final long serialVersionUID = 1L;

    Refusal(String name) {
      super(name);
    }
  }

  Model model() {
    return m;
  }

  String answer(String call, int... a) {
    try {
      return String.valueOf(call(call, a));
    } catch (Refusal refusal) {
      return refusal.getMessage();
    }
  }

  private static void argument(boolean good) {
    if (!good) {
      throw new Refusal("IllegalArgumentException");
    }
  }

  private static void number(int number, List<?> all) {
    if (number < 0 || number >= all.size()) {
      throw new Refusal("IndexOutOfBoundsException");
    }
  }

  private static void room(boolean good) {
    if (!good) {
      throw new Refusal("IllegalStateException");
    }
  }

  private static boolean in(int number, int least, int most) {
    return number >= least && number <= most;
  }

  private static boolean place(int x, int y) {
    return in(x, 0, 999) && in(y, 0, 999);
  }

  private static boolean day(int day) {
    return in(day, 0, 100000);
  }

  private int call(String call, int[] a) {
    switch (call) {
      case "wait": case "feed": case "mark": case "ring": case "unring": case "strip": case "bounds":
      case "where": case "walk": case "walked": case "rivals":
        return ground(call, a);
      case "text": case "fault": case "force": case "rule": case "person": case "heir": case "die": case "told":
        return laws(call, a);
      case "warden": case "deed": case "barred": case "why": case "fine": case "present": case "proof": case "of":
        return courts(call, a);
      default:
        return rest(call, a);
    }
  }

  private int ground(String call, int[] a) {
    switch (call) {
      case "wait":
        argument(in(a[0], 0, 4000));
        room(m.today + a[0] <= 100000);
        for (int k = 0; k < a[0]; k++) {
          m.day();
        }
        return m.today;
      case "feed":
        if (m.tape.size() + 20 > 400) {
          return -1;
        }
        for (int n : a) {
          for (int b : new int[] {n >>> 24, n >>> 16, n >>> 8, n}) {
            m.tape.add(b & 255);
          }
        }
        return m.tape.size();
      case "mark":
        argument(in(a[0], 0, 19) && place(a[1], a[2]));
        room(m.marks.size() < 40);
        if (m.marks.stream().filter(k -> k.name() == a[0]).count() == 4) {
          return -1;
        }
        m.marks.add(new Model.Mark(a[0], a[1], a[2]));
        return m.marks.size() - 1;
      case "ring":
        argument(day(a[0]) && in(a[1], 0, m.tape.size()));
        return m.ring(a[0], a[1]);
      case "unring":
        number(a[0], m.rings);
        argument(a[1] == -1 || day(a[1]));
        int undone = m.rings.get(a[0]).undone;
        m.rings.get(a[0]).undone = a[1];
        return undone;
      case "strip":
        argument(in(a[0], 0, 100));
        int was = m.strip;
        m.strip = a[0];
        return was;
      case "bounds":
        argument(day(a[0]));
        return m.bounds(a[0]);
      case "where":
        argument(day(a[0]) && place(a[1], a[2]));
        return m.where(a[0], a[1], a[2]);
      case "walk":
        argument(in(a[0], 0, m.tape.size()));
        return m.walk(a[0]);
      case "walked":
        return in(a[0], 0, m.walked.size() - 1) ? m.walked.get(a[0]) : -1;
      default:
        return m.rivals;
    }
  }

  private int laws(String call, int[] a) {
    switch (call) {
      case "text":
        argument(day(a[0]) && in(a[1], 0, m.tape.size()));
        return m.text(a[0], a[1]);
      case "fault":
        return m.faultPlace;
      case "force":
        number(a[0], m.texts);
        argument(day(a[1]));
        return m.force(a[0], a[1]) ? 1 : 0;
      case "rule":
        argument(day(a[0]) && in(a[1], 0, 4));
        return m.rule(a[0], a[1]);
      case "person":
        argument(in(a[0], 0, 3) && in(a[1], 0, 1000000));
        room(m.people.size() < 40);
        Model.Person person = new Model.Person();
        person.rank = a[0];
        person.coins = a[1];
        m.people.add(person);
        return m.people.size() - 1;
      case "heir":
        number(a[0], m.people);
        if (a[1] != -1) {
          number(a[1], m.people);
        }
        argument(a[0] != a[1]);
        int was = m.people.get(a[0]).heir;
        m.people.get(a[0]).heir = a[1];
        return was;
      case "die":
        number(a[0], m.people);
        if (m.people.get(a[0]).death != -1) {
          return -1;
        }
        m.people.get(a[0]).death = m.today;
        return 1;
      default:
        number(a[0], m.people);
        argument(in(a[1], 0, 3));
        Model.Person p = m.people.get(a[0]);
        return new int[] {p.rank, p.coins, p.death, m.heirOf(a[0])}[a[1]];
    }
  }

  private int courts(String call, int[] a) {
    switch (call) {
      case "warden":
        number(a[0], m.people);
        argument(in(a[1], 1, 9) && in(a[2], 0, 50));
        if (m.wardens.size() == 6) {
          return -1;
        }
        Model.Warden warden = new Model.Warden();
        warden.person = a[0];
        warden.weight = a[1];
        warden.share = a[2];
        m.wardens.add(warden);
        return m.wardens.size() - 1;
      case "deed":
        number(a[0], m.people);
        argument(in(a[1], 0, 5) && place(a[2], a[3]) && in(a[4], 0, m.today) && in(a[5], 1, 1000));
        if (m.deeds.size() == 60) {
          return -1;
        }
        m.deeds.add(new Model.Deed(a[0], a[1], a[2], a[3], a[4], a[5]));
        return m.deeds.size() - 1;
      case "barred":
        number(a[0], m.deeds);
        return m.barred(a[0]) ? 1 : 0;
      case "why":
        number(a[0], m.deeds);
        return m.word(a[0])[0];
      case "fine":
        number(a[0], m.deeds);
        return m.fine(a[0]);
      case "present":
        number(a[0], m.deeds);
        number(a[1], m.wardens);
        number(a[2], m.people);
        number(a[3], m.people);
        return m.present(a[0], a[1], a[2], a[3]);
      case "proof":
        number(a[0], m.presentments);
        argument(in(a[1], -9, 9));
        Model.Presentment p = m.presentments.get(a[0]);
        if (p.state > 1) {
          return -1000;
        }
        p.proofs += a[1];
        return p.proofs;
      default:
        number(a[0], m.presentments);
        argument(in(a[1], 0, 7));
        return m.of(a[0], a[1]);
    }
  }

  private int rest(String call, int[] a) {
    switch (call) {
      case "claim":
        number(a[0], m.people);
        argument(in(a[1], 0, 5) && place(a[2], a[3]));
        if (m.claims.size() == 20) {
          return -1;
        }
        Model.Claim claim = new Model.Claim();
        claim.person = a[0];
        claim.act = a[1];
        claim.x = a[2];
        claim.y = a[3];
        m.claims.add(claim);
        return m.claims.size() - 1;
      case "use":
        number(a[0], m.claims);
        argument(in(a[1], 0, 1) && day(a[2]));
        if (m.claims.get(a[0]).events.size() == 60) {
          return -1;
        }
        m.claims.get(a[0]).events.add(new int[] {a[1], a[2]});
        return m.claims.get(a[0]).events.size();
      case "sure":
        number(a[0], m.claims);
        argument(day(a[1]));
        return m.sure(a[0], a[1]);
      case "enter":
        number(a[0], m.rolls);
        number(a[1], m.presentments);
        argument(in(a[2], 0, 100000));
        List<Model.Entry> roll = m.rolls.get(a[0]);
        if (roll.size() == 8) {
          return -1;
        }
        if (roll.stream().anyMatch(e -> e.presentment() == a[1])) {
          return -2;
        }
        roll.add(new Model.Entry(a[1], a[2]));
        return roll.size();
      case "quarrel":
        return m.quarrel();
      case "joined":
        argument(in(a[1], 0, 1));
        return m.joined(a[0], a[1]);
      default:
        return beatsAndWoods(call, a);
    }
  }

  private int beatsAndWoods(String call, int[] a) {
    switch (call) {
      case "lodge":
        number(a[0], m.wardens);
        argument(place(a[1], a[2]) && in(a[3], 0, 4000));
        m.wardens.get(a[0]).lodge = new int[] {a[1], a[2], a[3]};
        return 1;
      case "spot":
        argument(place(a[0], a[1]) && in(a[2], 1, 1000));
        if (m.spots.size() == 8) {
          return -1;
        }
        m.spots.add(a.clone());
        return m.spots.size() - 1;
      case "beats":
        return m.worth();
      case "beat":
        number(a[0], m.spots);
        return m.beats()[a[0]];
      case "wood":
        argument(in(a[0], 0, 277) && in(a[1], 0, 100000) && in(a[2], 0, 100000));
        if (m.woods.size() == 6) {
          return -1;
        }
        m.woods.add(a.clone());
        return m.woods.size() - 1;
      case "take":
        number(a[0], m.woods);
        argument(in(a[1], 0, 1) && in(a[2], m.woods.get(a[0])[0], 277) && in(a[3], 1, 100000));
        if (m.takings.size() == 100) {
          return -1;
        }
        m.takings.add(new Model.Taking(a[0], a[1], a[2], a[3], m.today));
        return m.takings.size();
      case "stock":
        number(a[0], m.woods);
        argument(in(a[1], 0, 1) && in(a[2], 0, 277) && day(a[3]));
        return m.stock(a[0], a[1], a[2], a[3]);
      default:
        List<Integer> counts = new ArrayList<>(List.of(m.today, m.marks.size(), m.rings.size(), m.texts.size(),
            m.people.size(), m.wardens.size()));
        counts.addAll(List.of(m.deeds.size(), m.presentments.size(), m.chest, m.claims.size(), m.spots.size(),
            m.woods.size(), m.takings.size(), m.tape.size()));
        return in(a[0], 0, 13) ? counts.get(a[0]) : -1;
    }
  }
}

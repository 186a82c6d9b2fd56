import java.util.ArrayList;
import java.util.List;
import java.util.regex.Matcher;
import java.util.regex.Pattern;

/** The document told again in the bluntest way: every trial is tried, nothing is clever. */
final class Oracle {
  private static final Pattern ROOF = Pattern.compile(
      "((b[bctslh][0-9]{1,2},[0-9]|s[0-9],[0-9]{1,2}|g[0-9]{1,2},[0-9]|l[0-9]{1,2}|k[0-9],[0-9]);)+");

  private static final class Told implements Cloneable {
    List<int[]> bearers = new ArrayList<>(); // kind, strength, height, block
    int[] weight = new int[6];
    int[] ground = new int[16];
    int at;
    int level;

    Told copy() {
      Told t = new Told();
      for (int[] b : bearers) t.bearers.add(b.clone());
      t.weight = weight.clone();
      t.ground = ground.clone();
      t.at = at;
      t.level = level;
      return t;
    }

    int size() { return bearers.size(); }

    int top(int k) { return ground[at + k] + bearers.get(k)[2] + bearers.get(k)[3]; }

    boolean bears(int k, int idle) { return k != idle && bearers.get(k)[0] != 3 && top(k) >= level; }

    int might(int k) {
      int s = bearers.get(k)[1];
      int half = top(k) > level ? s / 2 : s;
      switch (bearers.get(k)[0]) {
        case 1: return half / 2;
        case 2: return half * 2;
        case 4: return half < 3 ? 0 : half - 3;
        case 5: return s + s;
        default: return half;
      }
    }

    int[] loads(int idle) {
      int[] loads = new int[size()];
      for (int s = 0; s < 6 && s + 1 < size(); s++) {
        boolean l = bears(s, idle);
        boolean r = bears(s + 1, idle);
        if (l) loads[s] += r ? weight[s] : 2 * weight[s];
        if (r) loads[s + 1] += l ? weight[s] : 2 * weight[s];
      }
      return loads;
    }

    int sag(int idle) {
      int[] loads = loads(idle);
      for (int k = 0; k < size(); k++) if (loads[k] > 2 * might(k)) return k;
      for (int s = 0; s < 6 && s + 1 < size(); s++) {
        if (weight[s] > 0 && !bears(s, idle) && !bears(s + 1, idle)) return 10 + s;
      }
      return -9;
    }

    boolean holds() { return sag(-1) == -9; }

    int lastAt() {
      int last = 15;
      while (size() > 0 && last + size() - 1 > 15) last--;
      return last;
    }
  }

  private Told t = new Told();
  private Told kept = null;
  private final StringBuilder letters = new StringBuilder();
  private final List<Integer> row = new ArrayList<>();
  private final int[] refused = new int[7];

  private int no(int number) {
    refused[-number]++;
    return number;
  }

  int letter(int c) {
    if (c < 0) return no(-4);
    if (c > 255 || letters.length() == 96) return no(-6);
    letters.append((char) c);
    return letters.length();
  }

  int roof() {
    String text = letters.toString();
    letters.setLength(0);
    for (int end = 1; end <= text.length(); end++) {
      Matcher m = ROOF.matcher(text.substring(0, end));
      if (!m.matches() && !m.hitEnd()) return -1000 - (end - 1);
    }
    if (!ROOF.matcher(text).matches()) return -1000 - text.length();
    Told next = t.copy();
    int place = 0;
    String[] statements = text.split(";");
    for (String s : statements) {
      String[] n = s.substring(s.charAt(0) == 'b' ? 2 : 1).split(",");
      int a = Integer.parseInt(n[0]);
      int b = n.length > 1 ? Integer.parseInt(n[1]) : 0;
      boolean bad;
      switch (s.charAt(0)) {
        case 'b':
          bad = a == 0 || next.size() == 7 || next.at + next.size() > 15;
          if (!bad) next.bearers.add(new int[] {"bctslh".indexOf(s.charAt(1)), a, b, 0});
          break;
        case 's':
          bad = a > 5;
          if (!bad) next.weight[a] = b;
          break;
        case 'g':
          bad = a > 15;
          if (!bad) next.ground[a] = b;
          break;
        case 'l':
          bad = a > 27;
          next.level = a;
          break;
        default:
          bad = a >= next.size();
          if (!bad) next.bearers.get(a)[3] = b;
      }
      if (bad) return -2000 - place;
      place += s.length() + 1;
    }
    t = next;
    return statements.length;
  }

  private boolean noBearer(int k) { return k < 0 || k >= t.size(); }

  int bearer(int k, int what) {
    if (noBearer(k)) return no(-1);
    if (what < 0 || what > 7) return no(-2);
    if (what < 4) return t.bearers.get(k)[what];
    if (what == 4) return t.top(k);
    if (what == 5) return t.bears(k, -1) ? 1 : 0;
    if (what == 6) return t.bears(k, -1) && t.top(k) > t.level ? 1 : 0;
    return t.might(k);
  }

  private int set(int[] cells, int i, int v, int most) {
    if (i < 0 || i >= cells.length) return no(-1);
    if (v < 0) return no(-4);
    if (v > most) return no(-6);
    int was = cells[i];
    cells[i] = v;
    return was;
  }

  int span(int s, int v) { return set(t.weight, s, v, 99); }

  int ground(int p, int v) { return set(t.ground, p, v, 9); }

  int level(int v) {
    int[] one = {t.level};
    int answer = set(one, 0, v, 27);
    t.level = one[0];
    return answer;
  }

  int at(int v) {
    int[] one = {t.at};
    int answer = set(one, 0, v, t.lastAt());
    t.at = one[0];
    return answer;
  }

  int block(int k, int v) {
    if (noBearer(k)) return no(-1);
    int[] one = {t.bearers.get(k)[3]};
    int answer = set(one, 0, v, 9);
    t.bearers.get(k)[3] = one[0];
    return answer;
  }

  int load(int k) { return noBearer(k) ? no(-1) : t.loads(-1)[k]; }

  int holds() { return t.holds() ? 1 : 0; }

  int sag() { return t.sag(-1); }

  int levels() {
    int bits = 0;
    Told m = t.copy();
    for (m.level = 0; m.level < 28; m.level++) if (m.holds()) bits += 1 << m.level;
    return bits;
  }

  int blocks() {
    if (t.holds()) return 0;
    int least = 1000;
    for (int a = 0; a < t.size(); a++) {
      for (int b = 0; b < t.size(); b++) {
        for (int da = 0; da < 10; da++) {
          for (int db = 0; db < 10; db++) {
            Told m = t.copy();
            m.bearers.get(a)[3] += da;
            m.bearers.get(b)[3] += a == b ? 0 : db;
            if (m.bearers.get(a)[3] > 9 || m.bearers.get(b)[3] > 9) continue;
            if (da + db < least && m.holds()) least = da + (a == b ? 0 : db);
          }
        }
      }
    }
    return least == 1000 ? -9 : least;
  }

  int swap() {
    for (int n = 1; n < 67; n++) {
      int a = n / 10;
      int b = n % 10;
      if (a >= b || b >= t.size()) continue;
      Told m = t.copy();
      m.bearers.set(a, t.bearers.get(b));
      m.bearers.set(b, t.bearers.get(a));
      if (m.holds()) return n;
    }
    return -9;
  }

  private int orders;
  private int[] firstOrder;

  private void permute(List<Integer> who) {
    if (who.size() == t.size()) {
      Told m = t.copy();
      for (int p = 0; p < who.size(); p++) m.bearers.set(p, t.bearers.get(who.get(p)));
      if (!m.holds()) return;
      orders++;
      if (firstOrder == null) firstOrder = who.stream().mapToInt(i -> i).toArray();
      return;
    }
    for (int k = 0; k < t.size(); k++) {
      if (who.contains(k)) continue;
      who.add(k);
      permute(who);
      who.remove(who.size() - 1);
    }
  }

  int orders(int p) {
    if (p < -1 || p >= t.size()) return no(-1);
    orders = 0;
    firstOrder = null;
    permute(new ArrayList<>());
    if (p == -1) return orders;
    return firstOrder == null ? -9 : firstOrder[p];
  }

  int needed() {
    int bits = 0;
    for (int k = 0; k < t.size(); k++) if (t.holds() && t.sag(k) != -9) bits += 1 << k;
    return bits;
  }

  int more(int s) {
    if (s < 0 || s > 5) return no(-1);
    int most = -9;
    Told m = t.copy();
    for (int d = 0; d < 100; d++) {
      m.weight[s] = t.weight[s] + d;
      if (m.holds() && most == d - 1 || d == 0 && m.holds()) most = d;
    }
    return most;
  }

  int row(int v) {
    if (v < 0) return no(-4);
    if (v > 400 || row.size() == 7) return no(-6);
    row.add(v);
    return row.size();
  }

  private boolean rowIs(int[] loads) {
    for (int i = 0; i < loads.length; i++) if (row.get(i) != loads[i]) return false;
    return true;
  }

  int slacked() {
    if (row.size() != t.size()) return no(-3);
    int bits = rowIs(t.loads(-1)) ? 128 : 0;
    for (int k = 0; k < t.size(); k++) if (rowIs(t.loads(k))) bits += 1 << k;
    return bits;
  }

  int judge() {
    int[] loads = t.loads(-1);
    int answer = -9;
    for (int i = 0; answer == -9 && i < 8; i++) {
      if (i == row.size() && i == loads.length) break;
      if (i == row.size() || i == loads.length || row.get(i) != loads[i]) answer = i;
    }
    row.clear();
    return answer;
  }

  /** Where it can be behind each of so many minutes: grown minute by minute over the whole board. */
  private boolean[][] within(int minutes) {
    boolean[][] firm = new boolean[16][28];
    boolean[][] now = new boolean[16][28];
    Told m = t.copy();
    for (m.at = 0; m.at <= t.lastAt(); m.at++) {
      for (m.level = 0; m.level < 28; m.level++) firm[m.at][m.level] = m.holds();
    }
    now[t.at][t.level] = firm[t.at][t.level];
    for (int i = 0; i < minutes; i++) {
      boolean[][] next = new boolean[16][28];
      boolean grew = false;
      for (int a = 0; a < 16; a++) {
        for (int l = 0; l < 28; l++) {
          next[a][l] = now[a][l] || firm[a][l] && (a > 0 && now[a - 1][l] || a < 15 && now[a + 1][l]
              || l > 0 && now[a][l - 1] || l < 27 && now[a][l + 1]);
          grew |= next[a][l] && !now[a][l];
        }
      }
      now = next;
      if (!grew) break;
    }
    return now;
  }

  private boolean any(boolean[] levels) {
    for (boolean b : levels) if (b) return true;
    return false;
  }

  int way(int to) {
    if (to < 0) return no(-4);
    if (to > t.lastAt()) return no(-6);
    if (!any(within(1000)[to])) return -9;
    int minutes = 0;
    while (!any(within(minutes)[to])) minutes++;
    return minutes;
  }

  int reach(int n) {
    if (n < 0) return no(-4);
    if (n > 40) return no(-6);
    int bits = 0;
    boolean[][] board = within(n);
    for (int a = 0; a < 16; a++) if (any(board[a])) bits += 1 << a;
    return bits;
  }

  int lowest(int to, int n) {
    if (to < 0 || n < 0) return no(-4);
    if (to > t.lastAt() || n > 40) return no(-6);
    boolean[] board = within(n)[to];
    for (int l = 0; l < 28; l++) if (board[l]) return l;
    return -9;
  }

  int seeds(int n, int z) {
    if (n <= 0) return no(-4);
    if (n > 30) return no(-6);
    Told m = t.copy();
    int held = 0;
    long seed = z;
    for (int i = 0; i < 6 * n; i++) {
      seed = (int) (seed * 1664525L + 1013904223L);
      long bare = seed < 0 ? seed + (1L << 31) : seed;
      m.weight[i % 6] = (int) (bare / 256 % 100);
      if (i % 6 == 5 && m.holds()) held++;
    }
    return held;
  }

  int image() {
    kept = t.copy();
    return t.size();
  }

  int on() {
    if (kept == null) return no(-3);
    t = kept.copy();
    return t.size();
  }

  int count(int what) {
    int sum = 0;
    switch (what) {
      case 0: return t.size();
      case 1: return t.at;
      case 2: return t.level;
      case 3:
        for (int w : t.weight) sum += w;
        return sum;
      case 4:
        for (int l : t.loads(-1)) sum += l;
        return sum;
      case 5:
        for (int k = 0; k < t.size(); k++) sum += t.bears(k, -1) ? 1 : 0;
        return sum;
      case 6: return row.size();
      case 7: return letters.length();
      case 11: case 12: case 13: case 14: case 15: case 16: return refused[what - 10];
      default: return -9;
    }
  }
}

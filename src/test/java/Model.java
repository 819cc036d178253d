/** The document's words, written recursively and without any stored attribute. */
final class Model {
  private static final int NONE = IncrAttrEval.NONE;
  final int cap;
  int count = 0;
  int root = NONE;
  private final int[] kind = new int[40];
  private final int[] payload = new int[40];
  private final int[] parent = new int[40];
  private final int[][] slots = new int[40][2];

  Model(int capacity) {
    cap = Math.max(8, Math.min(32, capacity));
  }

  boolean valid(int n) {
    return 0 <= n && n < count;
  }

  boolean free(int n) {
    return valid(n) && parent[n] == NONE && n != root;
  }

  boolean attached(int n) {
    return valid(n) && (n == root || attached(parent[n]));
  }

  int make(int k, int p, int a, int b) {
    if (count == cap) {
      return NONE;
    }
    kind[count] = k;
    payload[count] = p;
    parent[count] = NONE;
    slots[count] = new int[] {a, b};
    return count++;
  }

  int newVar(int x) {
    return x < 0 || x > 7 ? NONE : make(IncrAttrEval.VAR, x, NONE, NONE);
  }

  int newOp(int k, int a, int b) {
    return k < 3 || k > 5 ? NONE : join(k, 0, a, b);
  }

  int newLet(int x, int a, int b) {
    return x < 0 || x > 7 ? NONE : join(IncrAttrEval.LET, x, a, b);
  }

  int join(int k, int p, int a, int b) {
    if (!free(a) || !free(b) || a == b) {
      return NONE;
    }
    int n = make(k, p, a, b);
    if (n != NONE) {
      parent[a] = n;
      parent[b] = n;
    }
    return n;
  }

  boolean setRoot(int n) {
    if (!free(n)) {
      return false;
    }
    root = n;
    return true;
  }

  boolean replace(int old, int nw) {
    if (!attached(old) || !free(nw)) {
      return false;
    }
    if (old == root) {
      return setRoot(nw);
    }
    int p = parent[old];
    slots[p][slots[p][0] == old ? 0 : 1] = nw;
    parent[nw] = p;
    parent[old] = NONE;
    return true;
  }

  int slot(int n, int s) {
    return slots[n][s];
  }

  /** The nearest LET of that name whose body holds n, or NONE. */
  int binder(int n, int x) {
    for (int at = n; at != root; at = parent[at]) {
      int p = parent[at];
      if (kind[p] == IncrAttrEval.LET && payload[p] == x && slots[p][1] == at) {
        return p;
      }
    }
    return NONE;
  }

  int value(int n, int x) {
    int let = binder(n, x);
    return let == NONE ? 0 : val(slots[let][0]);
  }

  int val(int n) {
    switch (kind[n]) {
      case IncrAttrEval.NUM: return payload[n];
      case IncrAttrEval.VAR: return value(n, payload[n]);
      case IncrAttrEval.ADD: return val(slots[n][0]) + val(slots[n][1]);
      case IncrAttrEval.SUB: return val(slots[n][0]) - val(slots[n][1]);
      case IncrAttrEval.MUL: return val(slots[n][0]) * val(slots[n][1]);
      default: return val(slots[n][1]);
    }
  }

  int errs(int n) {
    if (kind[n] == IncrAttrEval.NUM) {
      return 0;
    }
    if (kind[n] == IncrAttrEval.VAR) {
      return binder(n, payload[n]) == NONE ? 1 : 0;
    }
    return errs(slots[n][0]) + errs(slots[n][1]);
  }

  int size(int n) {
    return kind[n] <= IncrAttrEval.VAR ? 1 : 1 + size(slots[n][0]) + size(slots[n][1]);
  }

  int depth(int n) {
    return n == root ? 0 : 1 + depth(parent[n]);
  }

  String picture() {
    StringBuilder s = new StringBuilder();
    s.append("root ").append(root).append(" count ").append(count).append('\n');
    for (int n = -2; n <= 33; n++) {
      s.append(n).append(": kind ").append(valid(n) ? kind[n] : 0);
      s.append(" parent ").append(valid(n) ? parent[n] : NONE).append(attributes(n)).append('\n');
    }
    return s.toString();
  }

  String attributes(int n) {
    boolean at = attached(n);
    StringBuilder s = new StringBuilder();
    s.append(" val ").append(at ? val(n) : 0).append(" errs ").append(at ? errs(n) : -1);
    s.append(" size ").append(at ? size(n) : -1).append(" depth ").append(at ? depth(n) : -1).append(" env");
    for (int x = -1; x <= 8; x++) {
      boolean bound = at && x >= 0 && x < 8 && binder(n, x) != NONE;
      s.append(' ').append(bound ? value(n, x) : 0).append(bound ? "b" : "u");
    }
    return s.toString();
  }

  /** Builds the subtree at n into a fresh object by creation calls alone; ids[n] is the node's id there. */
  int rebuild(int n, IncrAttrEval fresh, int[] ids) {
    if (kind[n] == IncrAttrEval.NUM) {
      ids[n] = fresh.newNum(payload[n]);
    } else if (kind[n] == IncrAttrEval.VAR) {
      ids[n] = fresh.newVar(payload[n]);
    } else {
      int a = rebuild(slots[n][0], fresh, ids);
      int b = rebuild(slots[n][1], fresh, ids);
      ids[n] = kind[n] == IncrAttrEval.LET ? fresh.newLet(payload[n], a, b) : fresh.newOp(kind[n], a, b);
    }
    return ids[n];
  }

  /** Each attached node shows what its like shows in a fresh object that had creation calls and one setRoot alone. */
  void sameAsFreshBuild(Checker check, String what, IncrAttrEval t, int capacity) {
    if (root == NONE) {
      return;
    }
    IncrAttrEval fresh = new IncrAttrEval(capacity);
    int[] ids = new int[40];
    int top = rebuild(root, fresh, ids);
    check.same(what + ", setRoot of the fresh build", fresh.setRoot(top), true);
    for (int n = 0; n < count; n++) {
      if (attached(n)) {
        check.same(what + ", node " + n + " as in a fresh build",
          Checker.attributes(t, n), Checker.attributes(fresh, ids[n]));
      }
    }
  }
}

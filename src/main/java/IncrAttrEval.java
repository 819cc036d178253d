public final class IncrAttrEval {
  public static final int NONE = -1;
  public static final int NUM = 1;
  public static final int VAR = 2;
  public static final int ADD = 3;
  public static final int SUB = 4;
  public static final int MUL = 5;
  public static final int LET = 6;
  public static final int NAMES = 8;
  public static final int MIN_CAP = 8;
  public static final int MAX_CAP = 32;

  private static final int NOT_ATTACHED = -1;
  private static final int ENV_CELLS = MAX_CAP * NAMES;
  // The walk stops at a node at most three times: from above and back from each slot.
  private static final int MAX_STOPS = 3 * MAX_CAP;

  private final int cap;
  private int count = 0;
  private int root = NONE;

  private final int[] kindOf = new int[MAX_CAP];
  private final int[] payloadOf = new int[MAX_CAP];
  private final int[] slot0Of = new int[MAX_CAP];
  private final int[] slot1Of = new int[MAX_CAP];
  private final int[] parentOf = new int[MAX_CAP];

  // A node's depth also tells whether it is attached; the other attributes
  // of a detached node are stale and no getter may read them.
  private final int[] depthOf = new int[MAX_CAP];
  private final int[] valOf = new int[MAX_CAP];
  private final int[] errsOf = new int[MAX_CAP];
  private final int[] sizeOf = new int[MAX_CAP];
  private final int[] envValue = new int[ENV_CELLS];
  private final boolean[] envBound = new boolean[ENV_CELLS];

  public IncrAttrEval(int capacity) {
    cap = capacity < MIN_CAP ? MIN_CAP : (capacity > MAX_CAP ? MAX_CAP : capacity);
  }

  public int newNum(int c) {
    if (count == cap) {
      return NONE;
    }
    return addNode(NUM, c, NONE, NONE);
  }

  public int newVar(int x) {
    if (!isName(x) || count == cap) {
      return NONE;
    }
    return addNode(VAR, x, NONE, NONE);
  }

  public int newOp(int kind, int a, int b) {
    if ((kind != ADD && kind != SUB && kind != MUL) || !canJoin(a, b)) {
      return NONE;
    }
    return addParent(kind, 0, a, b);
  }

  public int newLet(int x, int a, int b) {
    if (!isName(x) || !canJoin(a, b)) {
      return NONE;
    }
    return addParent(LET, x, a, b);
  }

  public boolean setRoot(int id) {
    if (!isFreeRoot(id)) {
      return false;
    }
    root = id;
    evaluateTree();
    return true;
  }

  public boolean replace(int old, int nw) {
    if (!isAttached(old) || !isFreeRoot(nw)) {
      return false;
    }
    if (old == root) {
      root = nw;
    } else {
      swapInSlot(old, nw);
    }
    evaluateTree();
    return true;
  }

  public int getRoot() {
    return root;
  }

  public int nodeCount() {
    return count;
  }

  public int getKind(int n) {
    return isValid(n) ? kindOf[n] : 0;
  }

  public int getParent(int n) {
    return isValid(n) ? parentOf[n] : NONE;
  }

  public int getVal(int n) {
    return isAttached(n) ? valOf[n] : 0;
  }

  public int getErrs(int n) {
    return isAttached(n) ? errsOf[n] : -1;
  }

  public int getSize(int n) {
    return isAttached(n) ? sizeOf[n] : -1;
  }

  public int getDepth(int n) {
    return isAttached(n) ? depthOf[n] : -1;
  }

  public int getEnv(int n, int x) {
    return isAttached(n) && isName(x) ? envValue[n * NAMES + x] : 0;
  }

  public boolean isBound(int n, int x) {
    return isAttached(n) && isName(x) && envBound[n * NAMES + x];
  }

  private boolean isName(int x) {
    return x >= 0 && x < NAMES;
  }

  private boolean isValid(int n) {
    return n >= 0 && n < count;
  }

  private boolean isFreeRoot(int n) {
    return isValid(n) && parentOf[n] == NONE && n != root;
  }

  private boolean isAttached(int n) {
    return isValid(n) && depthOf[n] != NOT_ATTACHED;
  }

  private boolean isLeaf(int n) {
    return kindOf[n] == NUM || kindOf[n] == VAR;
  }

  private boolean canJoin(int a, int b) {
    return isFreeRoot(a) && isFreeRoot(b) && a != b && count != cap;
  }

  private int addNode(int kind, int payload, int a, int b) {
    int n = count;
    kindOf[n] = kind;
    payloadOf[n] = payload;
    slot0Of[n] = a;
    slot1Of[n] = b;
    parentOf[n] = NONE;
    depthOf[n] = NOT_ATTACHED;
    count = n + 1;
    return n;
  }

  private int addParent(int kind, int payload, int a, int b) {
    int n = addNode(kind, payload, a, b);
    parentOf[a] = n;
    parentOf[b] = n;
    return n;
  }

  private void swapInSlot(int old, int nw) {
    int p = parentOf[old];
    if (slot0Of[p] == old) {
      slot0Of[p] = nw;
    } else {
      slot1Of[p] = nw;
    }
    parentOf[nw] = p;
    parentOf[old] = NONE;
  }

  // The whole tree is evaluated anew: with so few nodes that is cheap, and
  // nothing of an earlier placement can then survive.
  private void evaluateTree() {
    detachAll();
    startRoot();
    int from = NONE;
    int n = root;
    for (int stop = 0; stop < MAX_STOPS && n != NONE; stop++) {
      int next = visit(n, from);
      from = n;
      n = next;
    }
  }

  private void detachAll() {
    for (int n = 0; n < count; n++) {
      depthOf[n] = NOT_ATTACHED;
    }
  }

  private void startRoot() {
    depthOf[root] = 0;
    for (int x = 0; x < NAMES; x++) {
      envValue[root * NAMES + x] = 0;
      envBound[root * NAMES + x] = false;
    }
  }

  // Slot 0 is finished before slot 1 is entered, because the env of a LET's
  // body needs the value of its init. Answers the node to visit next.
  private int visit(int n, int from) {
    if (isLeaf(n)) {
      finishLeaf(n);
      return parentOf[n];
    }
    if (from == parentOf[n]) {
      inherit(n, slot0Of[n]);
      return slot0Of[n];
    }
    if (from == slot0Of[n]) {
      inherit(n, slot1Of[n]);
      if (kindOf[n] == LET) {
        bindInBody(n);
      }
      return slot1Of[n];
    }
    finishInner(n);
    return parentOf[n];
  }

  private void inherit(int p, int child) {
    depthOf[child] = depthOf[p] + 1;
    for (int x = 0; x < NAMES; x++) {
      envValue[child * NAMES + x] = envValue[p * NAMES + x];
      envBound[child * NAMES + x] = envBound[p * NAMES + x];
    }
  }

  private void bindInBody(int let) {
    int cell = slot1Of[let] * NAMES + payloadOf[let];
    envValue[cell] = valOf[slot0Of[let]];
    envBound[cell] = true;
  }

  private void finishLeaf(int n) {
    sizeOf[n] = 1;
    if (kindOf[n] == NUM) {
      valOf[n] = payloadOf[n];
      errsOf[n] = 0;
      return;
    }
    int cell = n * NAMES + payloadOf[n];
    valOf[n] = envBound[cell] ? envValue[cell] : 0;
    errsOf[n] = envBound[cell] ? 0 : 1;
  }

  private void finishInner(int n) {
    int a = slot0Of[n];
    int b = slot1Of[n];
    sizeOf[n] = 1 + sizeOf[a] + sizeOf[b];
    errsOf[n] = errsOf[a] + errsOf[b];
    valOf[n] = combine(kindOf[n], valOf[a], valOf[b]);
  }

  private int combine(int kind, int v0, int v1) {
    switch (kind) {
      case ADD:
        return v0 + v1;
      case SUB:
        return v0 - v1;
      case MUL:
        return v0 * v1;
      default:
        return v1;
    }
  }
}

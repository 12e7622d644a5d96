/** Promises 3, 4 and 5. */
public final class TermsTest {
  private static final Due due = new Due("TermsTest");

  /** How many parts each operation has; 17 with a set of one maker. */
  private static final int[] PARTS = {0, 0, 0, 2, 2, 3, 2, 1, 1, 1, 1, 1, 1, 2, 3, 2, 1, 2};

  public static void main(String[] args) {
    everyOperationTakesItsParts();
    casesTakesAPartForEachMaker();
    wrongOperations();
    argumentsNotLookedAt();
    atMostTwelve();
    atMostFortyLarge();
    atMostSixDeep();
    badBeforeRoom();
    dropping();
    partsStayInOrder();
    due.end();
  }

  private static int sound(int op) {
    return op == 17 ? 4 : 0;
  }

  private static void everyOperationTakesItsParts() {
    for (int op = 0; op <= 17; op++) {
      RigidCases x = new RigidCases();
      for (int k = 0; k < PARTS[op] - 1; k++) {
        x.make(0, k);
      }
      if (PARTS[op] > 0) {
        due.is("too few for " + op, x.make(op, sound(op)), -1);
        due.is("height with too few for " + op, x.height(), PARTS[op] - 1);
        x.make(0, 9);
      }
      x.make(0, 9);
      x.drop();
      due.is("size of " + op, x.make(op, sound(op)), 1 + PARTS[op]);
      due.is("height after " + op, x.height(), 1);
    }
  }

  private static void casesTakesAPartForEachMaker() {
    for (int set = 1; set <= 63; set++) {
      RigidCases x = new RigidCases();
      int parts = 1 + Integer.bitCount(set);
      for (int k = 0; k < parts - 1; k++) {
        x.make(0, k);
      }
      due.is("too few for the set " + set, x.make(17, set), -1);
      x.make(0, 0);
      x.make(0, 0);
      due.is("size with the set " + set, x.make(17, set), 1 + parts);
      due.is("height with the set " + set, x.height(), 2);
    }
  }

  private static void wrongOperations() {
    RigidCases x = new RigidCases();
    for (int k = 0; k < 8; k++) {
      x.make(0, k);
    }
    int[][] wrong = {
      {-1, 0}, {18, 0}, {Integer.MAX_VALUE, 0}, {Integer.MIN_VALUE, 0}, {1, 2}, {1, -1},
      {1, Integer.MAX_VALUE}, {2, 12}, {2, -1}, {2, Integer.MIN_VALUE}, {10, 2}, {10, -1},
      {10, Integer.MAX_VALUE}, {17, 0}, {17, 64}, {17, -1}, {17, 127}, {17, Integer.MIN_VALUE}
    };
    for (int[] call : wrong) {
      due.is("make(" + call[0] + ", " + call[1] + ")", x.make(call[0], call[1]), -1);
    }
    due.is("nothing changed", x.height(), 8);
    due.is("variable 11", x.make(2, 11), 1);
    due.is("variable 0", x.make(2, 0), 1);
    due.is("truth", x.make(1, 1), 1);
    due.is("untruth", x.make(1, 0), 1);
    due.is("as a type made later", x.make(10, 2), -1);
    due.is("the type", x.type(2, 0, 0), 2);
    due.is("as that type", x.make(10, 2), 2);
  }

  private static void argumentsNotLookedAt() {
    RigidCases x = new RigidCases();
    due.is("the least number", x.make(0, Integer.MIN_VALUE), 1);
    due.is("the greatest number", x.make(0, Integer.MAX_VALUE), 1);
    due.is("add", x.make(3, -7), 3);
    due.is("lit", x.make(11, Integer.MIN_VALUE), 4);
    due.is("call", x.make(9, 99), 5);
    due.is("first", x.make(7, 64), 6);
  }

  private static void atMostTwelve() {
    RigidCases x = new RigidCases();
    for (int k = 1; k <= 12; k++) {
      due.is("term " + k, x.make(0, k), 1);
      due.is("height " + k, x.height(), k);
    }
    due.is("number 13", x.make(0, 13), -2);
    due.is("truth 13", x.make(1, 1), -2);
    due.is("variable 13", x.make(2, 0), -2);
    due.is("height stays", x.height(), 12);
    due.is("one with a part has room", x.make(11, 0), 2);
    due.is("height stays then too", x.height(), 12);
    due.is("one with two parts has room", x.make(3, 0), 4);
    due.is("height is less", x.height(), 11);
    due.is("there is room again", x.make(0, 0), 1);
    due.is("and no more", x.make(0, 0), -2);
  }

  /** Puts a term of a size 1, 3, 7, 15 or 31 there, all of BOTH and NUMBER. */
  private static void tree(RigidCases x, int size) {
    if (size == 1) {
      x.make(0, 0);
      return;
    }
    tree(x, size / 2);
    tree(x, size / 2);
    x.make(6, 0);
  }

  private static void atMostFortyLarge() {
    RigidCases x = new RigidCases();
    tree(x, 31);
    tree(x, 7);
    due.is("size 39", x.make(6, 0), 39);
    due.is("too few", x.make(6, 0), -1);
    x.drop();
    tree(x, 15);
    tree(x, 15);
    tree(x, 7);
    due.is("size 38", x.make(5, 0), 38);
    x.drop();
    tree(x, 15);
    tree(x, 15);
    tree(x, 7);
    x.make(11, 0);
    due.is("size 39 with three parts", x.make(5, 0), 39);
    x.drop();
    tree(x, 15);
    tree(x, 15);
    tree(x, 7);
    x.make(11, 0);
    x.make(11, 0);
    due.is("size 40 at last", x.make(5, 0), 40);
    due.is("height", x.height(), 1);
    x.drop();
    tree(x, 15);
    x.make(11, 0);
    tree(x, 15);
    x.make(11, 0);
    tree(x, 7);
    x.make(11, 0);
    due.is("size 41", x.make(5, 0), -2);
    due.is("nothing was taken", x.height(), 3);
    due.is("the last part is as it was", x.make(11, 0), 9);
    x.drop();
    x.drop();
    due.is("the first part is as it was", x.make(11, 0), 17);
  }

  private static void atMostSixDeep() {
    RigidCases x = new RigidCases();
    x.make(0, 0);
    for (int size = 2; size <= 6; size++) {
      due.is("depth " + size, x.make(11, 0), size);
    }
    due.is("depth 7", x.make(11, 0), -2);
    x.make(0, 0);
    due.is("depth 7 by the first part", x.make(6, 0), -2);
    x.drop();
    x.drop();
    x.make(0, 0);
    x.make(0, 0);
    for (int k = 0; k < 5; k++) {
      x.make(16, 0);
    }
    due.is("depth 7 by the last part", x.make(3, 0), -2);
    due.is("nothing was taken", x.height(), 2);
    x.make(0, 0);
    due.is("depth 7 by the middle part", x.make(5, 0), -2);
    due.is("depth 7 by a case", x.make(17, 3), -2);
    x.drop();
    x.drop();
    due.is("the other was not so deep", x.make(11, 0), 2);
    x.make(0, 0);
    x.make(0, 0);
    due.is("2 deep parts make 3", x.make(5, 0), 5);
    x.make(11, 0);
    x.make(11, 0);
    due.is("6 deep", x.make(11, 0), 8);
    due.is("7 deep", x.make(11, 0), -2);
  }

  private static void badBeforeRoom() {
    RigidCases x = new RigidCases();
    for (int k = 0; k < 12; k++) {
      x.make(0, 0);
    }
    due.is("no such truth, no room", x.make(1, 2), -1);
    due.is("no such variable, no room", x.make(2, 12), -1);
    due.is("no such operation, no room", x.make(18, 0), -1);
    for (int k = 0; k < 5; k++) {
      x.make(11, 0);
    }
    due.is("no such type, too deep", x.make(10, 2), -1);
    due.is("no such set, too deep", x.make(17, 64), -1);
    due.is("too deep", x.make(10, 0), -2);
    RigidCases y = new RigidCases();
    y.make(0, 0);
    for (int k = 0; k < 5; k++) {
      y.make(11, 0);
    }
    due.is("too few, too deep", y.make(3, 0), -1);
  }

  private static void dropping() {
    RigidCases x = new RigidCases();
    due.is("drop of none", x.drop(), -1);
    due.is("height of none", x.height(), 0);
    Text.make(x, "n1 n2 add n3 t1 n4 n5 if");
    due.is("height of three", x.height(), 3);
    due.is("drop of the if", x.drop(), 2);
    due.is("drop of the number", x.drop(), 1);
    due.is("the sum is left", x.make(11, 0), 4);
    due.is("drop of the last", x.drop(), 0);
    due.is("drop of none again", x.drop(), -1);
    due.is("drop changes nothing then", x.height(), 0);
  }

  private static void partsStayInOrder() {
    RigidCases x = new RigidCases();
    Text.main(x, "n9 n1 n2 both n3 n4 n5 add both both both", 0);
    int[] shapes = {1003, 1000, 1003, 1003, 1000, 1000, 1003, 1000, 1000, -1};
    int[] numbers = {0, 9, 0, 0, 1, 2, 0, 3, 9, 0};
    due.is("evaluate", x.evaluate(), 0);
    for (int k = 0; k < shapes.length; k++) {
      due.is("value(" + k + ")", x.value(k), shapes[k]);
      due.is("number(" + k + ")", x.number(k), numbers[k]);
    }
  }
}

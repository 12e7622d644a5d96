abbrev Tr := Std.Format
def tI : Tr := .nil
def tB : Tr := .line
def tE (t : Tr) : Tr := .nest 0 t
def tP (a b : Tr) : Tr := .append a b
def tA (n : Nat) : Tr := .tag n .nil

def th : Tr → Nat
  | .nil => 1
  | .line => 1
  | .align _ => 1
  | .text _ => 1
  | .nest _ t => 1 + th t
  | .append a b => 1 + max (th a) (th b)
  | .group _ _ => 1
  | .tag _ _ => 1

def ts (S : Nat → Tr) : Tr → Tr
  | .nil => .nil
  | .line => .line
  | .align b => .align b
  | .text s => .text s
  | .nest i t => .nest i (ts S t)
  | .append a b => .append (ts S a) (ts S b)
  | .group f b => .group f b
  | .tag n _ => S n
theorem ts_I {S : Nat → Tr} : ts S tI = tI := rfl
theorem ts_B {S : Nat → Tr} : ts S tB = tB := rfl
theorem ts_E {S : Nat → Tr} {t : Tr} : ts S (tE t) = tE (ts S t) := rfl
theorem ts_P {S : Nat → Tr} {a b : Tr} : ts S (tP a b) = tP (ts S a) (ts S b) := rfl
theorem ts_A {S : Nat → Tr} {n : Nat} : ts S (tA n) = S n := rfl
theorem tE_inj {a b : Tr} (h : tE a = tE b) : a = b := by injection h
theorem tP_inj {a b c d : Tr} (h : tP a b = tP c d) : a = c ∧ b = d := by injection h with h1 h2; exact ⟨h1, h2⟩
theorem tA_inj {a b : Nat} (h : tA a = tA b) : a = b := by injection h

def thd : Tr → Nat
  | .nil => 0
  | .line => 1
  | .append _ _ => 2
  | .nest _ _ => 3
  | .tag _ _ => 4
  | _ => 5

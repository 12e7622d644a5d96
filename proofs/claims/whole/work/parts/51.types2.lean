abbrev tT : Type := List (Nat × Nat × Nat)
def t_h (T : tT) : Nat → Nat → Nat
  | 0, _ => 0
  | f + 1, i => match T[i]? with
    | some (2, a, b) => 1 + max (t_h T f a) (t_h T f b)
    | some (3, a, _) => 1 + t_h T f a
    | _ => 1

def t_wf (T : tT) : Prop := ∀ (i k a b : Nat), T[i]? = some (k, a, b) → (k = 0 ∨ k = 1 ∨ (k = 2 ∧ a < i ∧ b < i) ∨ (k = 3 ∧ a < i) ∨ (k = 4 ∧ a < 3)) ∧ a < 24 ∧ b < 24
theorem t_h_le (T : tT) : ∀ f i, t_h T f i ≤ f := by
  intro f
  induction f with
  | zero => intro i; exact Nat.le_refl 0
  | succ f ih =>
    intro i
    unfold t_h
    split
    · rename_i a b h
      have h1 := ih a
      have h2 := ih b
      omega
    · rename_i a b h
      have h1 := ih a
      omega
    · omega
theorem t_h_dn (T : tT) : ∀ f i, t_h T (f + 1) i ≤ f → t_h T f i = t_h T (f + 1) i := by
  intro f
  induction f with
  | zero =>
    intro i h
    unfold t_h at h
    split at h <;> omega
  | succ f ih =>
    intro i h
    rw [t_h] at h
    rw [t_h, t_h]
    split at h
    · rename_i a b e
      have h1 := ih a (by omega)
      have h2 := ih b (by omega)
      rw [h1, h2]
    · rename_i a b e
      have h1 := ih a (by omega)
      rw [h1]
    · rfl
theorem t_h_app {T : tT} (hw : t_wf T) (q : Nat × Nat × Nat) : ∀ f i, i < T.length → t_h (T ++ [q]) f i = t_h T f i := by
  intro f
  induction f with
  | zero => intro i _; rfl
  | succ f ih =>
    intro i hi
    rw [t_h, t_h, List.getElem?_append_left hi]
    split
    · rename_i a b e
      have h1 := (hw i 2 a b e).1
      rw [ih a (by omega), ih b (by omega), e]
      rfl
    · rename_i a b e
      have h1 := (hw i 3 a b e).1
      rw [ih a (by omega), e]
      rfl
    · rfl

def t_ck (k : Nat) : Nat := match k with
  | 0 => 3
  | 1 => 4
  | 2 => 0
  | 3 => 1
  | _ => 2
def t_C (μ : zm_u) (T : tT) : Prop := μ 1 3 = nI T.length ∧ ∀ (i k a b : Nat), T[i]? = some (k, a, b) → μ 6 i = nI (t_ck k) ∧ μ 7 i = nI a ∧ μ 8 i = nI b
def t_R (μ : zm_u) (T : tT) : Prop := μ 22 0 = nI T.length ∧ ∀ (i k a b : Nat), T[i]? = some (k, a, b) → μ 23 i = nI k ∧ μ 24 i = nI a ∧ μ 25 i = nI b ∧ μ 26 i = nI (t_h T 4 i)

def t_find (T : tT) (q : Nat × Nat × Nat) : Option Nat := T.findIdx? (· == q)

def t_make (T : tT) (k a b : Int32) : Int32 × tT :=
  if (k = 0 ∧ 0 ≤ a.toInt ∧ a.toInt < T.length ∧ 0 ≤ b.toInt ∧ b.toInt < T.length) ∨ (k = 1 ∧ 0 ≤ a.toInt ∧ a.toInt < T.length) ∨ (k = 2 ∧ 0 ≤ a.toInt ∧ a.toInt < 3) then
    match t_find T (k.toInt.toNat + 2, a.toInt.toNat, if k = 0 then b.toInt.toNat else 0) with
    | some i => (nI i, T)
    | none => if T.length = 24 ∨ 4 < (if k = 2 then 1 else if k = 1 then 1 + t_h T 4 a.toInt.toNat else 1 + max (t_h T 4 a.toInt.toNat) (t_h T 4 b.toInt.toNat)) then (-2, T)
      else (nI T.length, T ++ [(k.toInt.toNat + 2, a.toInt.toNat, if k = 0 then b.toInt.toNat else 0)])
  else (-1, T)
theorem nI_inj {a b : Nat} (ha : a < 100000) (hb : b < 100000) : nI a = nI b ↔ a = b := nI_eq (by omega) (by omega)
theorem nI_t {a : Nat} (ha : a < 100000) : (nI a).toInt = a := nI_toInt (by omega)
theorem nI_c {a : Nat} (ha : a < 100000) : (nI a).toNatClampNeg = a := nI_clamp (by omega)
section TY2
variable {X : zm_T} {d : Nat} {μ : zm_u} {x y k a b : Int32} {T : tT}
theorem t_C_ok (h : t_C μ T) (hl : T.length ≤ 24) : ty_ok μ := by
  unfold ty_ok
  rw [h.1, nI_t (by omega)]
  omega
theorem t_C_has (h : t_C μ T) (hl : T.length ≤ 24) : ty_has μ x ↔ 0 ≤ x.toInt ∧ x.toInt < T.length := by
  unfold ty_has
  rw [h.1, nI_t (by omega)]
theorem t_at {i : Nat} (h : i < T.length) : ∃ k a b, T[i]? = some (k, a, b) := by
  have e := List.getElem?_eq_getElem h
  exact ⟨_, _, _, e⟩

theorem t_C_at (h : t_C μ T) (hw : t_wf T) {i kk aa bb : Nat} (hi : i < T.length) (hk : 2 ≤ kk ∧ kk ≤ 4) (ha : aa < 100) (hb : bb < 100) : ty_at μ i (nI (kk - 2)) (nI aa) (nI bb) ↔ T[i]? = some (kk, aa, bb) := by
  obtain ⟨k, a, b, e⟩ := t_at hi
  obtain ⟨h1, h2, h3⟩ := h.2 i k a b e
  obtain ⟨w1, w2, w3⟩ := hw i k a b e
  unfold ty_at
  rw [h1, h2, h3, e]
  have hck : t_ck k < 10 := by unfold t_ck; split <;> omega
  rw [nI_inj (by omega) (by omega), nI_inj (by omega) (by omega), nI_inj (by omega) (by omega)]
  have : t_ck k = kk - 2 ↔ k = kk := by
    obtain ⟨hk1, hk2⟩ := hk
    rcases (show kk = 2 ∨ kk = 3 ∨ kk = 4 by omega) with rfl | rfl | rfl <;> rcases w1 with rfl | rfl | ⟨rfl, _⟩ | ⟨rfl, _⟩ | ⟨rfl, _⟩ <;> decide
  rw [this]
  constructor
  · rintro ⟨rfl, rfl, rfl⟩; rfl
  · intro q; cases q; exact ⟨rfl, rfl, rfl⟩
theorem t_find_some {q : Nat × Nat × Nat} {i : Nat} (h1 : T[i]? = some q) (h2 : ∀ j, j < i → T[j]? ≠ some q) : t_find T q = some i := by
  unfold t_find
  rw [List.findIdx?_eq_some_iff_getElem]
  obtain ⟨hl, e⟩ := List.getElem?_eq_some_iff.mp h1
  refine ⟨hl, by rw [e]; exact beq_self_eq_true q, fun j hj => ?_⟩
  have h3 := h2 j hj
  rw [List.getElem?_eq_getElem (by omega)] at h3
  simp only [beq_iff_eq]
  exact fun z => h3 (by rw [z])
theorem t_find_none {q : Nat × Nat × Nat} (h : ∀ j, j < T.length → T[j]? ≠ some q) : t_find T q = none := by
  unfold t_find
  rw [List.findIdx?_eq_none_iff]
  intro x hx
  obtain ⟨j, hj, e⟩ := List.getElem_of_mem hx
  have h3 := h j hj
  rw [List.getElem?_eq_getElem hj, e] at h3
  simp only [beq_eq_false_iff_ne, ne_eq]
  exact fun z => h3 (by rw [z])

theorem c_seekT (hd : 1 ≤ d) (h : t_C μ T) (hw : t_wf T) (hl : T.length ≤ 24) {kk aa bb : Nat} (hk : 2 ≤ kk ∧ kk ≤ 4) (ha : aa < 100) (hb : bb < 100) :
    zI X d 22 [.inr 1, .inl (nI (kk - 2)), .inl (nI aa), .inl (nI bb)] μ (fun r μ' => μ' = μ ∧ match t_find T (kk, aa, bb) with
      | some i => r = nI i ∧ i < T.length
      | none => r = -1) := by
  refine zI_mono (c_seek hd (t_C_ok h hl)) (Nat.le_refl d) (fun r μ' hr => ?_)
  obtain ⟨rfl, hr⟩ := hr
  refine ⟨rfl, ?_⟩
  have hn : (μ' 1 3).toInt = T.length := by rw [h.1, nI_t (by omega)]
  rw [hn] at hr
  rcases hr with ⟨rfl, hr⟩ | ⟨i, h1, rfl, h2, h3⟩
  · rw [t_find_none (fun j hj => fun z => hr j (by omega) ((t_C_at h hw hj hk ha hb).mpr z))]
  · have hi : i < T.length := by omega
    rw [t_find_some ((t_C_at h hw hi hk ha hb).mp h2) (fun j hj z => h3 j hj ((t_C_at h hw (by omega) hk ha hb).mpr z))]
    exact ⟨rfl, hi⟩
end TY2

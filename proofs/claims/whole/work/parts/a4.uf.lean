def kd (T : tT) (i : Nat) : Nat := (T[i]?.getD (4, 0, 0)).1
def k1 (T : tT) (i : Nat) : Nat := (T[i]?.getD (4, 0, 0)).2.1
def k2 (T : tT) (i : Nat) : Nat := (T[i]?.getD (4, 0, 0)).2.2
def RP (μ : zm_u) (T : tT) : Prop := μ 22 1 = nI T.length ∧ T.length ≤ 600 ∧ tw T ∧ ∀ i, i < T.length → μ 23 i = nI (kd T i) ∧ μ 24 i = nI (k1 T i) ∧ μ 25 i = nI (k2 T i)
def UF (μ : zm_u) (n : Nat) (rt dep : Nat → Nat) : Prop := ∀ i, i < n → rt i < n ∧ rt (rt i) = rt i ∧ ∃ p, p < n ∧ μ 43 i = nI p ∧ rt p = rt i ∧ (p = i → rt i = i) ∧ (rt i = i → p = i) ∧ (p ≠ i → dep p < dep i)
def Us (μ : zm_u) (T : tT) (rt : Nat → Nat) : Prop := ∀ i, i < T.length → rt i = i → (μ 44 i = -1 ∧ ∀ j, j < T.length → rt j = i → kd T j = 4) ∨ ∃ p, p < T.length ∧ μ 44 i = nI p ∧ rt p = i ∧ kd T p ≠ 4
def Tp (μ : zm_u) (W : List (Nat × Nat)) : Prop := μ 22 34 = nI W.length ∧ ∀ (j a b : Nat), W.reverse[j]? = some (a, b) → μ 45 j = nI a ∧ μ 46 j = nI b
def Wb (n : Nat) (W : List (Nat × Nat)) : Prop := ∀ a b, (a, b) ∈ W → a < n ∧ b < n
def SF (μ μ' : zm_u) : Prop := (∀ c, c ≠ 22 → ¬ (43 ≤ c ∧ c ≤ 47) → μ' c = μ c) ∧ ∀ i, i ≠ 34 → μ' 22 i = μ 22 i
def Eqv (R : Nat → Nat → Prop) : Prop := (∀ a, R a a) ∧ (∀ a b, R a b → R b a) ∧ ∀ a b c, R a b → R b c → R a c
section UFS
variable {X : zm_T} {d n i j p q x y a b : Nat} {μ μ' μ1 : zm_u} {T T' : tT} {rt dep : Nat → Nat} {W : List (Nat × Nat)}
theorem kd_at {k : Nat} (h : T[i]? = some (k, a, b)) : kd T i = k ∧ k1 T i = a ∧ k2 T i = b := by
  unfold kd k1 k2
  rw [h]
  exact ⟨rfl, rfl, rfl⟩
theorem at_kd (h : i < T.length) : T[i]? = some (kd T i, k1 T i, k2 T i) := by
  obtain ⟨k, a, b, hq⟩ := tw_at h
  obtain ⟨e1, e2, e3⟩ := kd_at hq
  rw [e1, e2, e3, hq]
theorem kd_w (hw : tw T) (h : i < T.length) : kd T i ≤ 4 ∧ (kd T i = 2 → k1 T i < i ∧ k2 T i < i) ∧ (kd T i = 3 → k1 T i < i) ∧ k1 T i < 10000 ∧ k2 T i < 10000 := by
  have := hw.2 i _ _ _ (at_kd h)
  omega
theorem SF_rf : SF μ μ := ⟨fun _ _ _ => rfl, fun _ _ => rfl⟩
theorem SF_tr (h1 : SF μ μ1) (h2 : SF μ1 μ') : SF μ μ' := ⟨fun c a b => (h2.1 c a b).trans (h1.1 c a b), fun i a => (h2.2 i a).trans (h1.2 i a)⟩
theorem SF_c {c j : Nat} {v : Int32} (hc : 43 ≤ c ∧ c ≤ 47) : SF μ (zm_up μ c j v) := ⟨fun q _ a => zm_up_row (by omega), fun i _ => by rw [zm_up_row (by omega)]⟩
theorem SF_34 {v : Int32} : SF μ (zm_up μ 22 34 v) := ⟨fun q a _ => zm_up_row a, fun i a => by rw [zm_up_at, if_neg (by omega)]⟩
theorem RP_SF (h : RP μ T) (hf : SF μ μ') : RP μ' T := by
  obtain ⟨h1, h2, h3, h4⟩ := h
  refine ⟨(hf.2 1 (by decide)).trans h1, h2, h3, fun i hi => ?_⟩
  rw [hf.1 23 (by decide) (by decide), hf.1 24 (by decide) (by decide), hf.1 25 (by decide) (by decide)]
  exact h4 i hi
theorem UF_43 (h : UF μ n rt dep) (e : μ' 43 = μ 43) : UF μ' n rt dep := by
  intro i hi
  rw [e]
  exact h i hi
theorem Us_44 (h : Us μ T rt) (e : μ' 44 = μ 44) : Us μ' T rt := by
  intro i hi hr
  rw [e]
  exact h i hi hr
theorem m_top (hd : 1 ≤ d) (h : UF μ n rt dep) (hn : n ≤ 600) (hi : i < n) : zI X d 116 [.inr 22, .inl (nI i)] μ (fun r μ' => μ' = μ ∧ r = nI (rt i)) := by
  have loop : ∀ (m i : Nat), dep i < m → i < n → zV X (d - 1) 116 2 [(0, .inr 22), (2, .inl (nI i))] [] μ (zpi (fun r μ' => μ' = μ ∧ r = nI (rt i))) := by
    intro m
    induction m with
    | zero => intro i hm; omega
    | succ m ih =>
      intro i hm hi
      obtain ⟨h1, h2, p, hp, e, h3, h4, h4', h5⟩ := h i hi
      have c : (nI i).toNatClampNeg = i := nI_c (by omega)
      have bb : 0 ≤ (nI i).toInt ∧ (nI i).toInt < ((600 : Nat) : Int) := by rw [nI_t (by omega)]; omega
      refine k116_2 bb (fun z => ⟨rfl, ?_⟩) (fun _ => bb) (fun z => ?_)
      · rw [c, e, nI_inj (by omega) (by omega)] at z
        rw [h4 z]
      · rw [c, e, nI_inj (by omega) (by omega)] at z
        rw [c, e, ← h3]
        exact ih p (by have := h5 z; omega) hp
  exact zI_at [0, 1] hd rfl (k116_0 (loop (dep i + 1) i (by omega) hi))
theorem Tp_push (hT : Tp μ W) (hl : W.length < 800) : Tp (zm_up (zm_up (zm_up μ 45 W.length (nI a)) 46 W.length (nI b)) 22 34 (nI (W.length + 1))) ((a, b) :: W) := by
  refine ⟨by rw [zm_up_at, if_pos ⟨rfl, rfl⟩]; rfl, fun j a' b' hj => ?_⟩
  rw [List.reverse_cons] at hj
  rw [zm_up_row (show 45 ≠ 22 by decide), zm_up_row (show 46 ≠ 22 by decide), zm_up_row (show 45 ≠ 46 by decide), zm_up_at, zm_up_at, zm_up_row (show 46 ≠ 45 by decide)]
  by_cases e : j = W.length
  · rw [if_pos ⟨rfl, e⟩, if_pos ⟨rfl, e⟩]
    rw [e, List.getElem?_append_right (by simp), List.length_reverse, Nat.sub_self] at hj
    simp only [List.getElem?_cons_zero, Option.some.injEq, Prod.mk.injEq] at hj
    rw [hj.1, hj.2]
    exact ⟨rfl, rfl⟩
  · rw [if_neg (by omega), if_neg (by omega)]
    have hl : j < W.reverse.length := by
      have := (List.getElem?_eq_some_iff.mp hj).1
      simp only [List.length_append, List.length_reverse, List.length_singleton] at this
      rw [List.length_reverse]
      omega
    rw [List.getElem?_append_left hl] at hj
    exact hT.2 j a' b' hj
theorem Tp_pop (hT : Tp μ ((a, b) :: W)) : μ 45 W.length = nI a ∧ μ 46 W.length = nI b ∧ Tp (zm_up μ 22 34 (nI W.length)) W := by
  have h0 := hT.2 W.length a b (by
    rw [List.reverse_cons, List.getElem?_append_right (by simp), List.length_reverse, Nat.sub_self]
    rfl)
  refine ⟨h0.1, h0.2, by rw [zm_up_at, if_pos ⟨rfl, rfl⟩], fun j a' b' hj => ?_⟩
  rw [zm_up_row (by decide), zm_up_row (by decide)]
  exact hT.2 j a' b' (by rw [List.reverse_cons, List.getElem?_append_left (List.getElem?_eq_some_iff.mp hj).1]; exact hj)
theorem m_equate (hd : 1 ≤ d) (hT : Tp μ W) (hl : W.length < 800) : zO X d 117 [.inr 22, .inl (nI a), .inl (nI b)] μ (fun μ' => Tp μ' ((a, b) :: W) ∧ SF μ μ' ∧ μ' 43 = μ 43 ∧ μ' 44 = μ 44 ∧ μ' 47 = μ 47) := by
  have h34 := hT.1
  have c : (μ 22 34).toNatClampNeg = W.length := by rw [h34, nI_c (by omega)]
  have bb : 0 ≤ (μ 22 34).toInt ∧ (μ 22 34).toInt < ((800 : Nat) : Int) := by rw [h34, nI_t (by omega)]; omega
  refine zO_at [0, 1, 2] hd rfl (k117_0 bb bb ?_)
  rw [c, h34, ← nI_one, nI_add]
  refine ⟨Tp_push hT hl, SF_tr (SF_tr (SF_c (by omega)) (SF_c (by omega))) SF_34, ?_, ?_, ?_⟩
  · rw [zm_up_row (by decide), zm_up_row (by decide), zm_up_row (by decide)]
  · rw [zm_up_row (by decide), zm_up_row (by decide), zm_up_row (by decide)]
  · rw [zm_up_row (by decide), zm_up_row (by decide), zm_up_row (by decide)]

def mrt (rt : Nat → Nat) (x y : Nat) : Nat → Nat := fun i => if rt i = x then y else rt i
def mdp (rt dep : Nat → Nat) (x y : Nat) : Nat → Nat := fun i => if rt i = x then dep i + dep y + 1 else dep i
theorem UF_merge (h : UF μ n rt dep) (hx : x < n) (hy : y < n) (rx : rt x = x) (ry : rt y = y) (hxy : x ≠ y) : UF (zm_up μ 43 x (nI y)) n (mrt rt x y) (mdp rt dep x y) := by
  intro i hi
  obtain ⟨h1, h2, p, hp, e, h3, h4, h4', h5⟩ := h i hi
  unfold mrt mdp
  by_cases z : rt i = x
  · rw [if_pos z]
    refine ⟨hy, by rw [ry, if_neg (Ne.symm hxy)], ?_⟩
    by_cases zi : i = x
    · refine ⟨y, hy, by rw [zm_up_at, if_pos ⟨rfl, zi⟩], by rw [ry, if_neg (Ne.symm hxy)], fun q => absurd (q.trans zi).symm hxy, fun q => q, fun _ => ?_⟩
      show (if rt y = x then dep y + dep y + 1 else dep y) < (if rt i = x then dep i + dep y + 1 else dep i)
      rw [if_neg (by rw [ry]; exact Ne.symm hxy), if_pos z]
      omega
    · refine ⟨p, hp, by rw [zm_up_at, if_neg (by omega)]; exact e, by rw [h3, if_pos z], fun q => ?_, fun q => ?_, fun q => ?_⟩
      · have := h4 q; omega
      · subst q
        exact absurd (ry.symm.trans z).symm hxy
      · rw [h3, if_pos z, if_pos z]
        have := h5 q; omega
  · rw [if_neg z]
    have hrr : rt (rt i) ≠ x := by rw [h2]; exact z
    refine ⟨h1, by rw [if_neg hrr]; exact h2, p, hp, ?_, ?_, h4, h4', fun q => ?_⟩
    · have : i ≠ x := fun q => z (by rw [q]; exact rx)
      rw [zm_up_at, if_neg (by omega)]; exact e
    · rw [h3, if_neg z]
    · rw [h3, if_neg z, if_neg z]; exact h5 q

def cr (rt : Nat → Nat) : Nat → Nat
  | 0 => 0
  | n + 1 => cr rt n + if rt n = n then 1 else 0
theorem cr_same {rt' : Nat → Nat} : ∀ n, (∀ i, i < n → (rt' i = i ↔ rt i = i)) → cr rt' n = cr rt n := by
  intro n
  induction n with
  | zero => intro _; rfl
  | succ n ih =>
    intro h
    unfold cr
    rw [ih (fun i hi => h i (by omega))]
    have := h n (by omega)
    by_cases z : rt n = n
    · rw [if_pos z, if_pos (this.mpr z)]
    · rw [if_neg z, if_neg (fun q => z (this.mp q))]
theorem cr_drop {rt' : Nat → Nat} : ∀ n, x < n → (∀ i, i < n → i ≠ x → (rt' i = i ↔ rt i = i)) → rt x = x → rt' x ≠ x → cr rt' n + 1 = cr rt n := by
  intro n
  induction n with
  | zero => intro h; omega
  | succ n ih =>
    intro hx h h1 h2
    unfold cr
    by_cases e : x = n
    · subst e
      rw [if_neg h2, if_pos h1, cr_same x (fun i hi => h i (by omega) (by omega))]
    · rw [← ih (by omega) (fun i hi => h i (by omega)) h1 h2]
      have := h n (by omega) (Ne.symm e)
      by_cases z : rt n = n
      · rw [if_pos z, if_pos (this.mpr z)]
      · rw [if_neg z, if_neg (fun q => z (this.mp q))]
theorem cr_le : ∀ n, cr rt n ≤ n := by
  intro n
  induction n with
  | zero => exact Nat.le_refl _
  | succ n ih =>
    unfold cr
    split <;> omega
theorem cr_merge (hx : x < n) (rx : rt x = x) (ry : rt y = y) (hxy : x ≠ y) : cr (mrt rt x y) n + 1 = cr rt n := by
  refine cr_drop n hx (fun i hi hix => ?_) rx ?_
  · unfold mrt
    by_cases z : rt i = x
    · rw [if_pos z]
      constructor
      · intro q
        subst q
        exact absurd (ry.symm.trans z).symm hxy
      · intro q; omega
    · rw [if_neg z]
  · unfold mrt
    rw [if_pos rx]
    exact Ne.symm hxy
end UFS

def Good (T : tT) (Q : List (Nat × Nat)) (R : Nat → Nat → Prop) : Prop := Eqv R ∧ (∀ a b, (a, b) ∈ Q → R a b) ∧ ∀ p q, p < T.length → q < T.length → R p q → (kd T p = 2 → kd T q = 2 → R (k1 T p) (k1 T q) ∧ R (k2 T p) (k2 T q)) ∧ (kd T p = 3 → kd T q = 3 → R (k1 T p) (k1 T q))
def Cg (n : Nat) (rt : Nat → Nat) (W : List (Nat × Nat)) (u v : Nat) : Prop := ∀ E : Nat → Nat → Prop, Eqv E → (∀ i j, i < n → j < n → rt i = rt j → E i j) → (∀ a b, (a, b) ∈ W → E a b) → E u v
def Ich (T : tT) (rt : Nat → Nat) (W : List (Nat × Nat)) (p q : Nat) : Prop := kd T p = kd T q ∧ (kd T p = 2 → Cg T.length rt W (k1 T p) (k1 T q) ∧ Cg T.length rt W (k2 T p) (k2 T q)) ∧ (kd T p = 3 → Cg T.length rt W (k1 T p) (k1 T q))
def Ic (T : tT) (Q : List (Nat × Nat)) (rt : Nat → Nat) (W : List (Nat × Nat)) : Prop := (∀ p q, p < T.length → q < T.length → rt p = rt q → kd T p ≠ 4 → kd T q ≠ 4 → Ich T rt W p q) ∧ ∀ a b, (a, b) ∈ Q → Cg T.length rt W a b
def Is (T : tT) (Q : List (Nat × Nat)) (rt : Nat → Nat) (W : List (Nat × Nat)) : Prop := ∀ R, Good T Q R → (∀ i j, i < T.length → j < T.length → rt i = rt j → R i j) ∧ ∀ a b, (a, b) ∈ W → R a b
def Clash (T : tT) (Q : List (Nat × Nat)) : Prop := ∀ R, Good T Q R → ∃ p q, p < T.length ∧ q < T.length ∧ R p q ∧ kd T p ≠ 4 ∧ kd T q ≠ 4 ∧ kd T p ≠ kd T q
def JI (μ : zm_u) (T : tT) (Q : List (Nat × Nat)) (rt dep : Nat → Nat) (W : List (Nat × Nat)) : Prop := UF μ T.length rt dep ∧ Us μ T rt ∧ Tp μ W ∧ Wb T.length W ∧ Ic T Q rt W ∧ Is T Q rt W ∧ W.length + cr rt T.length ≤ Q.length + T.length
section JN
variable {X : zm_T} {d n i j p q x y a b u v w : Nat} {μ μ' μ1 : zm_u} {T T' : tT} {rt rt' dep : Nat → Nat} {W W' Q : List (Nat × Nat)}
theorem Cg_tr (h1 : Cg n rt W u v) (h2 : Cg n rt W v w) : Cg n rt W u w := fun E h h3 h4 => h.2.2 _ _ _ (h1 E h h3 h4) (h2 E h h3 h4)
theorem Cg_sy (h1 : Cg n rt W u v) : Cg n rt W v u := fun E h h3 h4 => h.2.1 _ _ (h1 E h h3 h4)
theorem Cg_m (h : (a, b) ∈ W) : Cg n rt W a b := fun _ _ _ h4 => h4 a b h
theorem Cg_rt (hi : i < n) (hj : j < n) (h : rt i = rt j) : Cg n rt W i j := fun _ _ h3 _ => h3 i j hi hj h
theorem Cg_mono (h : Cg n rt ((a, b) :: W) u v) (h1 : ∀ i j, i < n → j < n → rt i = rt j → Cg n rt' W' i j) (h2 : Cg n rt' W' a b) (h3 : ∀ z ∈ W, z ∈ W') : Cg n rt' W' u v := by
  intro E hE h4 h5
  refine h E hE (fun i j hi hj e => h1 i j hi hj e E hE h4 h5) (fun a' b' hm => ?_)
  rcases List.mem_cons.mp hm with e | hm
  · simp only [Prod.mk.injEq] at e
    rw [e.1, e.2]
    exact h2 E hE h4 h5
  · exact h5 a' b' (h3 _ hm)
theorem mrt_eq (h : rt i = rt j) : mrt rt x y i = mrt rt x y j := by unfold mrt; rw [h]
theorem Ich_mono (h : Ich T rt ((a, b) :: W) p q) (h1 : ∀ i j, i < T.length → j < T.length → rt i = rt j → Cg T.length rt' W' i j) (h2 : Cg T.length rt' W' a b) (h3 : ∀ z ∈ W, z ∈ W') : Ich T rt' W' p q :=
  ⟨h.1, fun z => ⟨Cg_mono (h.2.1 z).1 h1 h2 h3, Cg_mono (h.2.1 z).2 h1 h2 h3⟩, fun z => Cg_mono (h.2.2 z) h1 h2 h3⟩
theorem Ich_tr (h1 : Ich T rt W p q) (h2 : Ich T rt W q u) : Ich T rt W p u :=
  ⟨h1.1.trans h2.1, fun z => ⟨Cg_tr (h1.2.1 z).1 (h2.2.1 (h1.1 ▸ z)).1, Cg_tr (h1.2.1 z).2 (h2.2.1 (h1.1 ▸ z)).2⟩, fun z => Cg_tr (h1.2.2 z) (h2.2.2 (h1.1 ▸ z))⟩
theorem Ich_sy (h1 : Ich T rt W p q) : Ich T rt W q p :=
  ⟨h1.1.symm, fun z => ⟨Cg_sy (h1.2.1 (h1.1.symm ▸ z)).1, Cg_sy (h1.2.1 (h1.1.symm ▸ z)).2⟩, fun z => Cg_sy (h1.2.2 (h1.1.symm ▸ z))⟩
theorem Ic_same (h : Ic T Q rt ((a, b) :: W)) (ha : a < T.length) (hb : b < T.length) (e : rt a = rt b) : Ic T Q rt W :=
  ⟨fun p q hp hq hr h4 h5 => Ich_mono (h.1 p q hp hq hr h4 h5) (fun i j hi hj e => Cg_rt hi hj e) (Cg_rt ha hb e) (fun _ z => z), fun a' b' hm => Cg_mono (h.2 a' b' hm) (fun i j hi hj e => Cg_rt hi hj e) (Cg_rt ha hb e) (fun _ z => z)⟩
theorem Ic_merge (h : Ic T Q rt ((a, b) :: W)) (ha : a < T.length) (hb : b < T.length) (hx : rt a = x) (hy : rt b = y) (ry : rt y = y) (hxy : x ≠ y) (hW : ∀ z ∈ W, z ∈ W')
    (hpq : ∀ p q, p < T.length → q < T.length → rt p = x → rt q = y → kd T p ≠ 4 → kd T q ≠ 4 → Ich T (mrt rt x y) W' p q) : Ic T Q (mrt rt x y) W' := by
  have hab : Cg T.length (mrt rt x y) W' a b := Cg_rt ha hb (by unfold mrt; rw [if_pos hx, hy, if_neg (Ne.symm hxy)])
  have hrt : ∀ i j, i < T.length → j < T.length → rt i = rt j → Cg T.length (mrt rt x y) W' i j := fun i j hi hj e => Cg_rt hi hj (mrt_eq e)
  refine ⟨fun p q hp hq hr h4 h5 => ?_, fun a' b' hm => Cg_mono (h.2 a' b' hm) hrt hab hW⟩
  by_cases e : rt p = rt q
  · exact Ich_mono (h.1 p q hp hq e h4 h5) hrt hab hW
  · unfold mrt at hr
    by_cases ep : rt p = x
    · rw [if_pos ep] at hr
      by_cases eq : rt q = x
      · exact absurd (ep.trans eq.symm) e
      · rw [if_neg eq] at hr
        exact hpq p q hp hq ep hr.symm h4 h5
    · rw [if_neg ep] at hr
      by_cases eq : rt q = x
      · rw [if_pos eq] at hr
        exact Ich_sy (hpq q p hq hp eq hr h5 h4)
      · rw [if_neg eq] at hr
        exact absurd hr e
theorem Is_same (h : Is T Q rt ((a, b) :: W)) : Is T Q rt W := fun R hR => ⟨(h R hR).1, fun a' b' hm => (h R hR).2 a' b' (List.mem_cons_of_mem _ hm)⟩
theorem Is_merge (h : Is T Q rt ((a, b) :: W)) (ha : a < T.length) (hb : b < T.length) (hx : rt a = x) (hy : rt b = y) (hW : ∀ R, Good T Q R → ∀ a' b', (a', b') ∈ W' → R a' b') : Is T Q (mrt rt x y) W' := by
  intro R hR
  refine ⟨fun i j hi hj e => ?_, hW R hR⟩
  obtain ⟨h1, h2⟩ := h R hR
  have hab := h2 a b (List.mem_cons_self ..)
  unfold mrt at e
  by_cases ei : rt i = x
  · rw [if_pos ei] at e
    by_cases ej : rt j = x
    · exact h1 i j hi hj (ei.trans ej.symm)
    · rw [if_neg ej] at e
      exact hR.1.2.2 _ _ _ (h1 i a hi ha (ei.trans hx.symm)) (hR.1.2.2 _ _ _ hab (h1 b j hb hj (hy.trans e)))
  · rw [if_neg ei] at e
    by_cases ej : rt j = x
    · rw [if_pos ej] at e
      exact hR.1.2.2 _ _ _ (h1 i b hi hb (e.trans hy.symm)) (hR.1.2.2 _ _ _ (hR.1.2.1 _ _ hab) (h1 a j ha hj (hx.trans ej.symm)))
    · rw [if_neg ej] at e
      exact h1 i j hi hj e
theorem Wb_of (h : Wb n W) (ha : a < n) (hb : b < n) : Wb n ((a, b) :: W) := by
  intro a' b' hm
  rcases List.mem_cons.mp hm with e | hm
  · simp only [Prod.mk.injEq] at e
    rw [e.1, e.2]
    exact ⟨ha, hb⟩
  · exact h a' b' hm
theorem Us_merge {v' : Int32} (h : Us μ T rt) (h' : μ' 44 = upd (μ 44) y v') (hx : x < T.length) (hy : y < T.length) (rx : rt x = x) (ry : rt y = y) (hxy : x ≠ y) (hv : (v' = -1 ∧ ∀ j, j < T.length → rt j = x ∨ rt j = y → kd T j = 4) ∨ ∃ p, p < T.length ∧ v' = nI p ∧ (rt p = x ∨ rt p = y) ∧ kd T p ≠ 4) : Us μ' T (mrt rt x y) := by
  intro i hi hr
  rw [h']
  unfold mrt at hr ⊢
  by_cases ei : rt i = x
  · rw [if_pos ei] at hr
    subst hr
    exact absurd (ry.symm.trans ei).symm hxy
  · rw [if_neg ei] at hr
    by_cases e : i = y
    · subst e
      simp only [upd, if_true]
      rcases hv with ⟨h1, h2⟩ | ⟨p, h1, h2, h3, h4⟩
      · refine Or.inl ⟨h1, fun j hj hrj => h2 j hj ?_⟩
        by_cases ej : rt j = x
        · exact Or.inl ej
        · rw [if_neg ej] at hrj
          exact Or.inr hrj
      · refine Or.inr ⟨p, h1, h2, ?_, h4⟩
        rcases h3 with h3 | h3
        · rw [if_pos h3]
        · rw [h3, if_neg (Ne.symm hxy)]
    · simp only [upd, if_neg e]
      rcases h i hi hr with ⟨h1, h2⟩ | ⟨p, h1, h2, h3, h4⟩
      · refine Or.inl ⟨h1, fun j hj hrj => h2 j hj ?_⟩
        by_cases ej : rt j = x
        · rw [if_pos ej] at hrj
          exact absurd hrj.symm e
        · rw [if_neg ej] at hrj
          exact hrj
      · refine Or.inr ⟨p, h1, h2, ?_, h4⟩
        rw [h3, if_neg]
        intro z
        exact ei (by rw [hr]; exact z)
end JN

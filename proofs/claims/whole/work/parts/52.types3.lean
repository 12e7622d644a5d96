section TY3
variable {X : zm_T} {d : Nat} {μ : zm_u} {x y k a b : Int32} {T : tT}
def ty_can (μ : zm_u) (k a b : Int32) : Prop := (k = 0 ∧ ty_has μ a ∧ ty_has μ b) ∨ (k = 1 ∧ ty_has μ a) ∨ (k = 2 ∧ 0 ≤ a.toInt ∧ a.toInt < 3)
theorem zn_01 : ¬ (0 : Int32) = 1 := by decide
theorem zn_02 : ¬ (0 : Int32) = 2 := by decide
theorem zn_12 : ¬ (1 : Int32) = 2 := by decide
theorem zn_20 : ¬ (2 : Int32) = 0 := by decide
theorem zn_21 : ¬ (2 : Int32) = 1 := by decide
theorem c_canBeMade (hd : 2 ≤ d) : zI X d 19 [.inr 1, .inl k, .inl a, .inl b] μ (fun r μ' => μ' = μ ∧ (ty_can μ k a b ∧ r = 1 ∨ ¬ ty_can μ k a b ∧ r = 0)) := by
  refine zI_at [0, 1, 2, 3] (by omega) rfl (k19_0 (fun h => ?_) (fun h1 h2 => ?_) (fun h1 h2 h3 h4 => ?_) (fun h1 h2 h3 h4 h5 => ?_) (fun h1 h2 h3 h4 h5 => ?_) (fun h1 h2 h3 => ?_))
  · subst h
    refine ⟨_, c_has (by omega), fun r μ1 h => ?_⟩
    obtain ⟨rfl, ⟨h, rfl⟩ | ⟨h, rfl⟩⟩ := h
    · refine k19_33 (fun z => absurd z zn_10) (fun _ => ⟨_, c_has (by omega), fun r μ1 h' => ?_⟩)
      obtain ⟨rfl, ⟨h', rfl⟩ | ⟨h', rfl⟩⟩ := h'
      · exact k19_41 (fun z => absurd z zn_10) (fun _ => ⟨rfl, Or.inl ⟨Or.inl ⟨rfl, h, h'⟩, rfl⟩⟩)
      · refine k19_41 (fun _ => ⟨rfl, Or.inr ⟨?_, rfl⟩⟩) (fun z => absurd rfl z)
        rintro (⟨_, _, q⟩ | ⟨q, _⟩ | ⟨q, _⟩)
        · exact h' q
        · exact zn_01 q
        · exact zn_02 q
    · refine k19_33 (fun _ => ⟨rfl, Or.inr ⟨?_, rfl⟩⟩) (fun z => absurd rfl z)
      rintro (⟨_, q, _⟩ | ⟨q, _⟩ | ⟨q, _⟩)
      · exact h q
      · exact zn_01 q
      · exact zn_02 q
  · subst h2
    refine ⟨_, c_has (by omega), fun r μ1 h => ?_⟩
    obtain ⟨rfl, ⟨h, rfl⟩ | ⟨h, rfl⟩⟩ := h
    · exact k19_55 (Or.inr rfl) ⟨rfl, Or.inl ⟨Or.inr (Or.inl ⟨rfl, h⟩), rfl⟩⟩
    · refine k19_55 (Or.inl rfl) ⟨rfl, Or.inr ⟨?_, rfl⟩⟩
      rintro (⟨q, _⟩ | ⟨_, q⟩ | ⟨q, _⟩)
      · exact zn_10 q
      · exact h q
      · exact zn_12 q
  · subst h3
    refine ⟨rfl, Or.inr ⟨?_, rfl⟩⟩
    rintro (⟨q, _⟩ | ⟨q, _⟩ | ⟨_, q1, q2⟩)
    · exact zn_20 q
    · exact zn_21 q
    · rw [Int32.lt_iff_toInt_lt] at h4
      simp only [Int32.reduceToInt] at h4
      omega
  · subst h3
    refine ⟨rfl, Or.inr ⟨?_, rfl⟩⟩
    rintro (⟨q, _⟩ | ⟨q, _⟩ | ⟨_, q1, q2⟩)
    · exact zn_20 q
    · exact zn_21 q
    · rw [Int32.le_iff_toInt_le] at h5
      simp only [Int32.reduceToInt] at h5
      omega
  · subst h3
    refine ⟨rfl, Or.inl ⟨Or.inr (Or.inr ⟨rfl, ?_⟩), rfl⟩⟩
    rw [Int32.lt_iff_toInt_lt] at h4
    rw [Int32.le_iff_toInt_le] at h5
    simp only [Int32.reduceToInt] at h4 h5
    omega
  · refine ⟨rfl, Or.inr ⟨?_, rfl⟩⟩
    rintro (⟨q, _⟩ | ⟨q, _⟩ | ⟨q, _⟩)
    · exact h1 q
    · exact h2 q
    · exact h3 q
theorem nI_max {a b : Nat} (ha : a < 1000) (hb : b < 1000) : (cond (decide (nI a < nI b)) (nI b) (nI a)) = nI (max a b) := by
  by_cases h : a < b
  · rw [decide_eq_true ((nI_ltI (by omega) (by omega)).mpr h)]
    show nI b = _
    rw [Nat.max_eq_right (by omega)]
  · rw [decide_eq_false (fun z => h ((nI_ltI (by omega) (by omega)).mp z))]
    show nI a = _
    rw [Nat.max_eq_left (by omega)]
theorem nI_one : nI 1 = 1 := rfl
theorem c_kindT (hd : 2 ≤ d) (h : t_C μ T) (hl : T.length ≤ 24) {i kk aa bb : Nat} (e : T[i]? = some (kk, aa, bb)) : zI X d 16 [.inr 1, .inl (nI i)] μ (fun r μ' => μ' = μ ∧ r = nI (t_ck kk)) := by
  have hi := (List.getElem?_eq_some_iff.mp e).1
  refine zI_mono (c_kindOf hd (t_C_ok h hl)) (Nat.le_refl d) (fun r μ' hr => ?_)
  obtain ⟨rfl, ⟨_, rfl⟩ | ⟨q, _⟩⟩ := hr
  · refine ⟨rfl, ?_⟩
    rw [nI_c (by omega)]
    exact (h.2 i kk aa bb e).1
  · exact absurd ((t_C_has h hl).mpr ⟨by rw [nI_t (by omega)]; omega, by rw [nI_t (by omega)]; omega⟩) q
theorem c_firstT (hd : 2 ≤ d) (h : t_C μ T) (hl : T.length ≤ 24) {i kk aa bb : Nat} (e : T[i]? = some (kk, aa, bb)) : zI X d 17 [.inr 1, .inl (nI i)] μ (fun r μ' => μ' = μ ∧ r = nI aa) := by
  have hi := (List.getElem?_eq_some_iff.mp e).1
  refine zI_mono (c_firstOf hd (t_C_ok h hl)) (Nat.le_refl d) (fun r μ' hr => ?_)
  obtain ⟨rfl, ⟨_, rfl⟩ | ⟨q, _⟩⟩ := hr
  · refine ⟨rfl, ?_⟩
    rw [nI_c (by omega)]
    exact (h.2 i kk aa bb e).2.1
  · exact absurd ((t_C_has h hl).mpr ⟨by rw [nI_t (by omega)]; omega, by rw [nI_t (by omega)]; omega⟩) q
theorem c_secondT (hd : 2 ≤ d) (h : t_C μ T) (hl : T.length ≤ 24) {i kk aa bb : Nat} (e : T[i]? = some (kk, aa, bb)) : zI X d 18 [.inr 1, .inl (nI i)] μ (fun r μ' => μ' = μ ∧ r = nI bb) := by
  have hi := (List.getElem?_eq_some_iff.mp e).1
  refine zI_mono (c_secondOf hd (t_C_ok h hl)) (Nat.le_refl d) (fun r μ' hr => ?_)
  obtain ⟨rfl, ⟨_, rfl⟩ | ⟨q, _⟩⟩ := hr
  · refine ⟨rfl, ?_⟩
    rw [nI_c (by omega)]
    exact (h.2 i kk aa bb e).2.2
  · exact absurd ((t_C_has h hl).mpr ⟨by rw [nI_t (by omega)]; omega, by rw [nI_t (by omega)]; omega⟩) q
theorem nI_pr {n : Nat} : nI (n + 1) - (1 : Int32) = nI n := nI_pred n
theorem nI_s0 {n : Nat} (h : n < 1000) : ¬ nI (n + 1) = 0 := nI_ne0 (by omega) (by omega)
theorem c_heightOf (h : t_C μ T) (hw : t_wf T) (hl : T.length ≤ 24) : ∀ (f d i : Nat), f < 10 → f + 3 ≤ d → i < T.length → zI X d 21 [.inr 1, .inl (nI i), .inl (nI f)] μ (fun r μ' => μ' = μ ∧ r = nI (t_h T f i)) := by
  intro f
  induction f with
  | zero =>
    intro d i _ hd hi
    exact zI_at [0, 1, 2] (by omega) rfl (k21_0 (fun z => absurd rfl z) (fun _ => ⟨rfl, rfl⟩))
  | succ f ih =>
    intro d i hf hd hi
    obtain ⟨kk, aa, bb, e⟩ := t_at hi
    obtain ⟨w1, w2, w3⟩ := hw i kk aa bb e
    refine zI_at [0, 1, 2] (by omega) rfl (k21_0 (fun z => ⟨_, c_kindT (by omega) h hl e, fun r μ1 hr => ?_⟩) (fun z => absurd z (nI_s0 (by omega))))
    obtain ⟨rfl, rfl⟩ := hr
    have hle : ∀ j, t_h T f j < 1000 := fun j => by have := t_h_le T f j; omega
    rcases w1 with rfl | rfl | ⟨rfl, h1, h2⟩ | ⟨rfl, h1⟩ | ⟨rfl, h1⟩
    · exact k21_11 (fun z => absurd z (by decide)) (fun _ z => absurd z (by decide)) (fun _ _ => ⟨rfl, by rw [t_h, e]; rfl⟩)
    · exact k21_11 (fun z => absurd z (by decide)) (fun _ z => absurd z (by decide)) (fun _ _ => ⟨rfl, by rw [t_h, e]; rfl⟩)
    · refine k21_11 (fun _ => ⟨_, c_firstT (by omega) h hl e, fun r μ1 hr => ?_⟩) (fun z => absurd rfl z) (fun z => absurd rfl z)
      obtain ⟨rfl, rfl⟩ := hr
      refine k21_43 ⟨_, by rw [nI_pr]; exact ih (d - 1) aa (by omega) (by omega) (by omega), fun r μ1 hr => ?_⟩
      obtain ⟨rfl, rfl⟩ := hr
      refine k21_49 ⟨_, c_secondT (by omega) h hl e, fun r μ1 hr => ?_⟩
      obtain ⟨rfl, rfl⟩ := hr
      refine k21_55 ⟨_, by rw [nI_pr]; exact ih (d - 1) bb (by omega) (by omega) (by omega), fun r μ1 hr => ?_⟩
      obtain ⟨rfl, rfl⟩ := hr
      refine k21_61 ⟨rfl, ?_⟩
      rw [nI_max (hle _) (hle _), ← nI_one, nI_add, t_h, e]
      rfl
    · refine k21_11 (fun z => absurd z (by decide)) (fun _ _ => ⟨_, c_firstT (by omega) h hl e, fun r μ1 hr => ?_⟩) (fun _ z => absurd rfl z)
      obtain ⟨rfl, rfl⟩ := hr
      refine k21_73 ⟨_, by rw [nI_pr]; exact ih (d - 1) aa (by omega) (by omega) (by omega), fun r μ1 hr => ?_⟩
      obtain ⟨rfl, rfl⟩ := hr
      refine k21_79 ⟨rfl, ?_⟩
      rw [← nI_one, nI_add, t_h, e]
      rfl
    · exact k21_11 (fun z => absurd z (by decide)) (fun _ z => absurd z (by decide)) (fun _ _ => ⟨rfl, by rw [t_h, e]; rfl⟩)
end TY3

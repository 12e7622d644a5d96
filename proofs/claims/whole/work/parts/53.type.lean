section TY4
variable {X : zm_T} {d : Nat} {μ : zm_u} {x y k a b : Int32} {T : tT}
theorem zn_as (x : Int32) : x + 1 - 1 = x := Int32.add_sub_cancel x 1
def ty_put (μ : zm_u) (k a b : Int32) : zm_u := zm_up (zm_up (zm_up (zm_up μ 6 (μ 1 3).toNatClampNeg k) 7 (μ 1 3).toNatClampNeg a) 8 (μ 1 3).toNatClampNeg b) 1 3 (μ 1 3 + 1)
theorem ty_put_row {c : Nat} (h1 : c ≠ 1) (h6 : c ≠ 6) (h7 : c ≠ 7) (h8 : c ≠ 8) : ty_put μ k a b c = μ c := by
  unfold ty_put
  rw [zm_up_row h1, zm_up_row h8, zm_up_row h7, zm_up_row h6]
theorem ty_put_n : ty_put μ k a b 1 3 = μ 1 3 + 1 := by
  unfold ty_put
  rw [zm_up_self]
  simp [upd]
theorem ty_put_6 : ty_put μ k a b 6 = upd (μ 6) (μ 1 3).toNatClampNeg k := by
  unfold ty_put
  rw [zm_up_row (by decide), zm_up_row (by decide), zm_up_row (by decide), zm_up_self]
theorem ty_put_7 : ty_put μ k a b 7 = upd (μ 7) (μ 1 3).toNatClampNeg a := by
  unfold ty_put
  rw [zm_up_row (by decide), zm_up_row (by decide), zm_up_self, zm_up_row (by decide)]
theorem ty_put_8 : ty_put μ k a b 8 = upd (μ 8) (μ 1 3).toNatClampNeg b := by
  unfold ty_put
  rw [zm_up_row (by decide), zm_up_self, zm_up_row (by decide), zm_up_row (by decide)]
theorem c_seekOrPut (hd : 2 ≤ d) (hc : ty_ok μ) : zI X d 23 [.inr 1, .inl k, .inl a, .inl b] μ (fun r μ' =>
    (μ' = μ ∧ ∃ i : Nat, (i : Int) < (μ 1 3).toInt ∧ r = nI i ∧ ty_at μ i k a b ∧ ∀ j, j < i → ¬ ty_at μ j k a b) ∨
    ((∀ i : Nat, (i : Int) < (μ 1 3).toInt → ¬ ty_at μ i k a b) ∧ ((¬ (μ 1 3).toInt < 466 ∧ μ' = μ ∧ r = -1) ∨ ((μ 1 3).toInt < 466 ∧ μ' = ty_put μ k a b ∧ r = μ 1 3)))) := by
  refine zI_at [0, 1, 2, 3] (by omega) rfl (k23_0 ⟨_, c_seek (by omega) hc, fun r μ1 hr => ?_⟩)
  obtain ⟨rfl, hr⟩ := hr
  have hc1 := hc.1
  have hc2 := hc.2
  rcases hr with ⟨rfl, hr⟩ | ⟨i, h1, rfl, h2, h3⟩
  · have e466 : (466 : Int32).toInt = 466 := by decide
    refine k23_7 (fun z => absurd rfl z) (fun _ h4 => by rw [Int32.lt_iff_toInt_lt, e466] at h4; omega) (fun _ h4 => by rw [Int32.lt_iff_toInt_lt, e466] at h4; omega) (fun _ h4 => by rw [Int32.lt_iff_toInt_lt, e466] at h4; omega) (fun _ h4 => ?_) (fun _ h4 => ?_)
    all_goals rw [Int32.lt_iff_toInt_lt, e466] at h4
    all_goals first
      | exact Or.inr ⟨hr, Or.inr ⟨h4, rfl, zn_as _⟩⟩
      | exact Or.inr ⟨hr, Or.inl ⟨h4, rfl, rfl⟩⟩
  · have hne : ¬ nI i = -1 := by
      intro z
      have := congrArg Int32.toInt z
      rw [nI_toInt (by omega), zn_m1] at this
      omega
    exact k23_7 (fun _ => Or.inl ⟨rfl, i, h1, rfl, h2, h3⟩) (fun z => absurd z hne) (fun z => absurd z hne) (fun z => absurd z hne) (fun z => absurd z hne) (fun z => absurd z hne)
theorem c_seekE (hd : 1 ≤ d) (h : t_C μ T) (hw : t_wf T) (hl : T.length ≤ 24) {kk aa bb : Nat} (hk : 2 ≤ kk ∧ kk ≤ 4) (ha : aa < 100) (hb : bb < 100) (ek : k = nI (kk - 2)) (ea : a = nI aa) (eb : b = nI bb) :
    zI X d 22 [.inr 1, .inl k, .inl a, .inl b] μ (fun r μ' => μ' = μ ∧ match t_find T (kk, aa, bb) with
      | some i => r = nI i ∧ i < T.length
      | none => r = -1) := by
  subst ek; subst ea; subst eb
  exact c_seekT hd h hw hl hk ha hb
theorem t_C_put (h : t_C μ T) (hl : T.length < 24) {kk aa bb : Nat} (hk : 2 ≤ kk ∧ kk ≤ 4) (ek : k = nI (kk - 2)) (ea : a = nI aa) (eb : b = nI bb) : t_C (ty_put μ k a b) (T ++ [(kk, aa, bb)]) := by
  have hn : (μ 1 3).toNatClampNeg = T.length := by rw [h.1, nI_c (by omega)]
  refine ⟨?_, fun i k' a' b' e => ?_⟩
  · rw [ty_put_n, h.1, nI_1, List.length_append]
    rfl
  · rw [ty_put_6, ty_put_7, ty_put_8, hn]
    by_cases hi : i = T.length
    · subst hi
      rw [List.getElem?_append_right (Nat.le_refl _), Nat.sub_self] at e
      cases e
      subst ek; subst ea; subst eb
      simp only [upd, if_true]
      refine ⟨?_, trivial, trivial⟩
      rcases (show kk = 2 ∨ kk = 3 ∨ kk = 4 by omega) with rfl | rfl | rfl <;> rfl
    · have hlt : i < T.length := by
        have := (List.getElem?_eq_some_iff.mp e).1
        rw [List.length_append] at this
        simp only [List.length_cons, List.length_nil] at this
        omega
      rw [List.getElem?_append_left hlt] at e
      simp only [upd, if_neg hi]
      exact h.2 i k' a' b' e

theorem c_type_tail (hd : 3 ≤ d) (h : t_C μ T) (hw : t_wf T) (hl : T.length ≤ 24) {kk aa bb g : Nat} (hk : 2 ≤ kk ∧ kk ≤ 4) (ha : aa < 100) (hb : bb < 100) (ek : k = nI (kk - 2)) (ea : a = nI aa) (eb : b = nI bb) (hg : g < 100)
    (hh : zI X d 20 [.inr 1, .inl k, .inl a, .inl b] μ (fun r μ' => μ' = μ ∧ r = nI g)) {P : Int32 → zm_u → Prop}
    (hP : ∀ (r : Int32) (T' : tT) (μ' : zm_u), (r, T') = (match t_find T (kk, aa, bb) with
      | some i => (nI i, T)
      | none => if T.length = 24 ∨ 4 < g then (-2, T) else (nI T.length, T ++ [(kk, aa, bb)])) → t_C μ' T' → (∀ c, c ≠ 1 → c ≠ 6 → c ≠ 7 → c ≠ 8 → μ' c = μ c) → P r μ') :
    zV X d 0 24 [(0, .inr 0), (1, .inl k), (2, .inl a)] [.inl b] μ (zpi P) := by
  refine k0_24 ⟨_, c_seekE (by omega) h hw hl hk ha hb ek ea eb, fun r μ1 hr => ?_⟩
  obtain ⟨rfl, hr⟩ := hr
  cases hf : t_find T (kk, aa, bb) with
  | some i =>
    rw [hf] at hr hP
    obtain ⟨rfl, hi⟩ := hr
    have hne : ¬ nI i = -1 := by
      intro z
      have := congrArg Int32.toInt z
      rw [nI_t (by omega), zn_m1] at this
      omega
    exact k0_37 (fun z => absurd z hne) (fun _ => hP _ _ _ rfl h (fun c _ _ _ _ => rfl))
  | none =>
    rw [hf] at hr hP
    obtain rfl := hr
    refine k0_37 (fun _ => ⟨_, c_count (by omega), fun r μ2 hr => ?_⟩) (fun z => absurd rfl z)
    obtain ⟨rfl, rfl⟩ := hr
    have e24 : (24 : Int32).toInt = 24 := by decide
    have e4 : (4 : Int32).toInt = 4 := by decide
    have hn := congrArg Int32.toInt h.1
    rw [nI_t (by omega)] at hn
    refine k0_55 (fun z => ?_) (fun z => ⟨_, hh, fun r μ2 hr => ?_⟩)
    · rw [Int32.le_iff_toInt_le, e24, hn] at z
      exact hP _ _ _ (by rw [if_pos (Or.inl (by omega))]) h (fun c _ _ _ _ => rfl)
    · obtain ⟨rfl, rfl⟩ := hr
      rw [Int32.le_iff_toInt_le, e24, hn] at z
      refine k0_71 (fun z2 => ⟨_, c_seekOrPut (by omega) (t_C_ok h hl), fun r μ2 hr => ?_⟩) (fun z2 => ?_)
      · rw [Int32.le_iff_toInt_le, e4, nI_t (by omega)] at z2
        refine k0_89 ?_
        rcases hr with ⟨_, i, h1, _, h2, _⟩ | ⟨_, ⟨h1, _⟩ | ⟨_, rfl, rfl⟩⟩
        · exfalso
          have hi : i < T.length := by omega
          rw [ek, ea, eb, t_C_at h hw hi hk ha hb] at h2
          unfold t_find at hf
          rw [List.findIdx?_eq_none_iff] at hf
          have := hf _ (List.mem_of_getElem? h2)
          simp at this
        · exfalso
          omega
        · refine hP _ (T ++ [(kk, aa, bb)]) _ ?_ (t_C_put h (by omega) hk ek ea eb) (fun c h1 h6 h7 h8 => ty_put_row h1 h6 h7 h8)
          rw [if_neg (by omega), h.1]
      · rw [Int32.le_iff_toInt_le, e4, nI_t (by omega)] at z2
        exact hP _ _ _ (by rw [if_pos (Or.inr (by omega))]) h (fun c _ _ _ _ => rfl)
end TY4
section TY5
variable {X : zm_T} {d : Nat} {μ : zm_u} {x y k a b : Int32} {T : tT}
theorem c_heightWith0 (hd : 8 ≤ d) (h : t_C μ T) (hw : t_wf T) (hl : T.length ≤ 24) {aa bb : Nat} (ha : aa < T.length) (hb : bb < T.length) (ea : a = nI aa) (eb : b = nI bb) : zI X d 20 [.inr 1, .inl 0, .inl a, .inl b] μ (fun r μ' => μ' = μ ∧ r = nI (1 + max (t_h T 4 aa) (t_h T 4 bb))) := by
  subst ea; subst eb
  refine zI_at [0, 1, 2, 3] (by omega) rfl (k20_0 (fun _ => ⟨_, c_heightOf h hw hl 4 (d - 1) aa (by omega) (by omega) ha, fun r μ1 hr => ?_⟩) (fun z => absurd rfl z) (fun z => absurd rfl z))
  obtain ⟨rfl, rfl⟩ := hr
  refine k20_35 ⟨_, c_heightOf h hw hl 4 (d - 1) bb (by omega) (by omega) hb, fun r μ1 hr => ?_⟩
  obtain ⟨rfl, rfl⟩ := hr
  refine k20_41 ⟨rfl, ?_⟩
  have h1 := t_h_le T 4 aa
  have h2 := t_h_le T 4 bb
  rw [nI_max (by omega) (by omega), ← nI_one, nI_add]
theorem c_heightWith1 (hd : 8 ≤ d) (h : t_C μ T) (hw : t_wf T) (hl : T.length ≤ 24) {aa : Nat} (ha : aa < T.length) (ea : a = nI aa) : zI X d 20 [.inr 1, .inl 1, .inl a, .inl b] μ (fun r μ' => μ' = μ ∧ r = nI (1 + t_h T 4 aa)) := by
  subst ea
  refine zI_at [0, 1, 2, 3] (by omega) rfl (k20_0 (fun z => absurd z zn_10) (fun _ _ => ⟨_, c_heightOf h hw hl 4 (d - 1) aa (by omega) (by omega) ha, fun r μ1 hr => ?_⟩) (fun _ z => absurd rfl z))
  obtain ⟨rfl, rfl⟩ := hr
  refine k20_53 ⟨rfl, ?_⟩
  rw [← nI_one, nI_add]
theorem c_heightWith2 (hd : 1 ≤ d) : zI X d 20 [.inr 1, .inl 2, .inl a, .inl b] μ (fun r μ' => μ' = μ ∧ r = nI 1) :=
  zI_at [0, 1, 2, 3] (by omega) rfl (k20_0 (fun z => absurd z zn_20) (fun _ z => absurd z zn_21) (fun _ _ => ⟨rfl, rfl⟩))
theorem zn_toN {x : Int32} (h : 0 ≤ x.toInt) : x = nI x.toInt.toNat := by
  have := zn_nI h
  rw [zn_cl] at this
  exact this.symm
theorem c_type (hd : 10 ≤ d) (h : t_C μ T) (hw : t_wf T) (hl : T.length ≤ 24) : zI X d 0 [.inr 0, .inl k, .inl a, .inl b] μ (fun r μ' => ∃ T', t_make T k a b = (r, T') ∧ t_C μ' T' ∧ ∀ c, c ≠ 1 → c ≠ 6 → c ≠ 7 → c ≠ 8 → μ' c = μ c) := by
  refine zI_at [0, 1, 2, 3] (by omega) rfl (k0_0 ⟨_, c_canBeMade (by omega), fun r μ1 hr => ?_⟩)
  obtain ⟨rfl, hr⟩ := hr
  have hcan : ty_can μ1 k a b ↔ (k = 0 ∧ 0 ≤ a.toInt ∧ a.toInt < T.length ∧ 0 ≤ b.toInt ∧ b.toInt < T.length) ∨ (k = 1 ∧ 0 ≤ a.toInt ∧ a.toInt < T.length) ∨ (k = 2 ∧ 0 ≤ a.toInt ∧ a.toInt < 3) := by
    unfold ty_can
    rw [t_C_has h hl, t_C_has h hl]
    constructor
    · rintro (⟨h1, ⟨h2, h3⟩, h4, h5⟩ | h1 | h1)
      · exact Or.inl ⟨h1, h2, h3, h4, h5⟩
      · exact Or.inr (Or.inl h1)
      · exact Or.inr (Or.inr h1)
    · rintro (⟨h1, h2, h3, h4, h5⟩ | h1 | h1)
      · exact Or.inl ⟨h1, ⟨h2, h3⟩, h4, h5⟩
      · exact Or.inr (Or.inl h1)
      · exact Or.inr (Or.inr h1)
  rcases hr with ⟨hr, rfl⟩ | ⟨hr, rfl⟩
  · have hr' := hcan.mp hr
    rcases hr' with ⟨rfl, h2, h3, h4, h5⟩ | ⟨rfl, h2, h3⟩ | ⟨rfl, h2, h3⟩
    · refine k0_10 (fun _ z => absurd rfl z) (fun _ _ => ?_) (fun z => absurd z zn_10)
      refine c_type_tail (kk := 2) (aa := a.toInt.toNat) (bb := b.toInt.toNat) (g := 1 + max (t_h T 4 a.toInt.toNat) (t_h T 4 b.toInt.toNat)) (by omega) h hw hl (by omega) (by omega) (by omega) rfl (zn_toN h2) (zn_toN h4) (by have h7 := t_h_le T 4 a.toInt.toNat; have h8 := t_h_le T 4 b.toInt.toNat; omega) (c_heightWith0 (by omega) h hw hl (by omega) (by omega) (zn_toN h2) (zn_toN h4)) (fun r T' μ' e hC hfr => ⟨T', ?_, hC, hfr⟩)
      unfold t_make
      rw [if_pos (hcan.mp hr), e]
      rfl
    · refine k0_10 (fun _ _ => ?_) (fun _ z => absurd z zn_10) (fun z => absurd z zn_10)
      refine c_type_tail (kk := 3) (aa := a.toInt.toNat) (bb := 0) (g := 1 + t_h T 4 a.toInt.toNat) (by omega) h hw hl (by omega) (by omega) (by omega) rfl (zn_toN h2) rfl (by have h7 := t_h_le T 4 a.toInt.toNat; omega) (c_heightWith1 (by omega) h hw hl (by omega) (zn_toN h2)) (fun r T' μ' e hC hfr => ⟨T', ?_, hC, hfr⟩)
      unfold t_make
      rw [if_pos (hcan.mp hr), e]
      rfl
    · refine k0_10 (fun _ _ => ?_) (fun _ z => absurd z zn_20) (fun z => absurd z zn_10)
      refine c_type_tail (kk := 4) (aa := a.toInt.toNat) (bb := 0) (g := 1) (by omega) h hw hl (by omega) (by omega) (by omega) rfl (zn_toN h2) rfl (by omega) (c_heightWith2 (by omega)) (fun r T' μ' e hC hfr => ⟨T', ?_, hC, hfr⟩)
      unfold t_make
      rw [if_pos (hcan.mp hr), e]
      rfl
  · refine k0_10 (fun z => absurd rfl z) (fun z => absurd rfl z) (fun _ => ⟨T, ?_, h, fun c _ _ _ _ => rfl⟩)
    unfold t_make
    rw [if_neg (fun z => hr (hcan.mpr z))]
end TY5

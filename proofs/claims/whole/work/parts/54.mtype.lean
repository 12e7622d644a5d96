section MT
variable {X : zm_T} {d : Nat} {μ : zm_u} {x y k a b : Int32} {T : tT}
def mt_has (μ : zm_u) (x : Int32) : Prop := 0 ≤ x.toInt ∧ x.toInt < (μ 22 0).toInt
def mt_at (μ : zm_u) (i : Nat) (k a b : Int32) : Prop := μ 23 i = k ∧ μ 24 i = a ∧ μ 25 i = b
def mt_ok (μ : zm_u) : Prop := 0 ≤ (μ 22 1).toInt ∧ (μ 22 1).toInt ≤ 600
theorem m_isType (hd : 1 ≤ d) : zI X d 103 [.inr 22, .inl x] μ (fun r μ' => μ' = μ ∧ (mt_has μ x ∧ r = 1 ∨ ¬ mt_has μ x ∧ r = 0)) := by
  refine zI_at [0, 1] hd rfl (k103_0 (fun h1 => ⟨rfl, Or.inr ⟨fun z => ?_, rfl⟩⟩) (fun h1 h2 => ⟨rfl, Or.inr ⟨fun z => ?_, rfl⟩⟩) (fun h1 h2 => ⟨rfl, Or.inl ⟨⟨?_, ?_⟩, rfl⟩⟩))
  · obtain ⟨z1, z2⟩ := z
    simp only [Int32.lt_iff_toInt_lt, Int32.le_iff_toInt_le, ← Int32.toInt_inj, Int32.reduceToInt, zn_m1, zn_m2] at *
    omega
  · obtain ⟨z1, z2⟩ := z
    simp only [Int32.lt_iff_toInt_lt, Int32.le_iff_toInt_le, ← Int32.toInt_inj, Int32.reduceToInt, zn_m1, zn_m2] at *
    omega
  · simp only [Int32.lt_iff_toInt_lt, Int32.le_iff_toInt_le, ← Int32.toInt_inj, Int32.reduceToInt, zn_m1, zn_m2] at *
    omega
  · simp only [Int32.lt_iff_toInt_lt, Int32.le_iff_toInt_le, ← Int32.toInt_inj, Int32.reduceToInt, zn_m1, zn_m2] at *
    omega
def mt_put (μ : zm_u) (k a b h : Int32) : zm_u := zm_up (zm_up (zm_up (zm_up (zm_up μ 23 (μ 22 1).toNatClampNeg k) 24 (μ 22 1).toNatClampNeg a) 25 (μ 22 1).toNatClampNeg b) 26 (μ 22 1).toNatClampNeg h) 22 1 (μ 22 1 + 1)
theorem mt_put_row {h : Int32} {c : Nat} (h1 : c ≠ 22) (h6 : c ≠ 23) (h7 : c ≠ 24) (h8 : c ≠ 25) (h9 : c ≠ 26) : mt_put μ k a b h c = μ c := by
  unfold mt_put
  rw [zm_up_row h1, zm_up_row h9, zm_up_row h8, zm_up_row h7, zm_up_row h6]
theorem mt_put_22 {h : Int32} : mt_put μ k a b h 22 = upd (μ 22) 1 (μ 22 1 + 1) := by
  unfold mt_put
  rw [zm_up_self, zm_up_row (by decide), zm_up_row (by decide), zm_up_row (by decide), zm_up_row (by decide)]
theorem mt_put_23 {h : Int32} : mt_put μ k a b h 23 = upd (μ 23) (μ 22 1).toNatClampNeg k := by
  unfold mt_put
  rw [zm_up_row (by decide), zm_up_row (by decide), zm_up_row (by decide), zm_up_row (by decide), zm_up_self]
theorem mt_put_24 {h : Int32} : mt_put μ k a b h 24 = upd (μ 24) (μ 22 1).toNatClampNeg a := by
  unfold mt_put
  rw [zm_up_row (by decide), zm_up_row (by decide), zm_up_row (by decide), zm_up_self, zm_up_row (by decide)]
theorem mt_put_25 {h : Int32} : mt_put μ k a b h 25 = upd (μ 25) (μ 22 1).toNatClampNeg b := by
  unfold mt_put
  rw [zm_up_row (by decide), zm_up_row (by decide), zm_up_self, zm_up_row (by decide), zm_up_row (by decide)]
theorem mt_put_26 {h : Int32} : mt_put μ k a b h 26 = upd (μ 26) (μ 22 1).toNatClampNeg h := by
  unfold mt_put
  rw [zm_up_row (by decide), zm_up_self, zm_up_row (by decide), zm_up_row (by decide), zm_up_row (by decide)]
theorem m_define {h : Int32} (hd : 1 ≤ d) (hc : 0 ≤ (μ 22 1).toInt ∧ (μ 22 1).toInt < 600) : zI X d 99 [.inr 22, .inl k, .inl a, .inl b, .inl h] μ (fun r μ' => μ' = mt_put μ k a b h ∧ r = μ 22 1) :=
  zI_at [0, 1, 2, 3, 4] hd rfl (k99_0 hc hc hc hc ⟨rfl, zn_as _⟩)
theorem m_seek_loop {P : Int32 → zm_u → Prop} (hc : mt_ok μ) (hn : (∀ i : Nat, (i : Int) < (μ 22 1).toInt → ¬ mt_at μ i k a b) → P (-1) μ) (hy : ∀ i : Nat, (i : Int) < (μ 22 1).toInt → mt_at μ i k a b → (∀ j, j < i → ¬ mt_at μ j k a b) → P (nI i) μ) :
    ∀ (m i : Nat), (μ 22 1).toInt = (i : Int) + m → (∀ j, j < i → ¬ mt_at μ j k a b) → zV X d 100 6 [(0, .inr 22), (1, .inl k), (2, .inl a), (3, .inl b), (4, .inl (-1)), (5, .inl (nI i))] [] μ (zpi P) := by
  have hm : ¬ (0 : Int32) ≤ -1 := by decide
  intro m
  induction m with
  | zero =>
    intro i hi hb
    have hti : (nI i).toInt = i := nI_toInt (by have := zn_hi (μ 22 1); omega)
    have hle : μ 22 1 ≤ nI i := by
      rw [Int32.le_iff_toInt_le, hti]
      omega
    exact k100_6 (fun _ => hn (fun j hj => hb j (by omega))) (fun z => absurd hle z) (fun z => absurd hle z) (fun z => absurd hle z) (fun z => absurd hle z) (fun z => absurd hle z) (fun z => absurd hle z) (fun z => absurd hle z) (fun z => absurd hle z)
  | succ m ih =>
    intro i hi hb
    obtain ⟨hc1, hc2⟩ := hc
    have hlt : i < 2 ^ 31 := by have := zn_hi (μ 22 1); omega
    have hti : (nI i).toInt = i := nI_toInt hlt
    have hcl : (nI i).toNatClampNeg = i := nI_clamp hlt
    have hle : ¬ μ 22 1 ≤ nI i := by
      rw [Int32.le_iff_toInt_le, hti]
      omega
    have hin : 0 ≤ (nI i).toInt ∧ (nI i).toInt < ((600 : Nat) : Int) := by rw [hti]; omega
    have next : ¬ mt_at μ i k a b → zV X d 100 58 [(0, .inr 22), (1, .inl k), (2, .inl a), (3, .inl b), (4, .inl (-1)), (5, .inl (nI i))] [] μ (zpi P) := by
      intro hne
      refine k100_58 (k100_60 ?_)
      rw [nI_1]
      refine ih (i + 1) (by omega) (fun j hj => ?_)
      by_cases e : j = i
      · subst e; exact hne
      · exact hb j (by omega)
    refine k100_6 (fun z => absurd z hle) (fun _ z => absurd z hm) (fun _ _ => hin) (fun _ _ z => next ?_) (fun _ _ _ => hin) (fun _ _ _ z => next ?_) (fun _ _ _ _ => hin) (fun _ _ _ _ z => next ?_) (fun _ _ z1 z2 z3 => ?_)
    · rw [hcl] at z; exact fun q => z q.1
    · rw [hcl] at z; exact fun q => z q.2.1
    · rw [hcl] at z; exact fun q => z q.2.2
    · rw [hcl] at z1 z2 z3
      refine k100_60 ?_
      have h1 := hy i (by omega) ⟨z1, z2, z3⟩ hb
      have h0 : (0 : Int32) ≤ nI i := nI_pos' hlt
      by_cases hz : μ 22 1 ≤ nI i + 1
      · exact k100_6 (fun _ => h1) (fun z => absurd hz z) (fun z => absurd hz z) (fun z => absurd hz z) (fun z => absurd hz z) (fun z => absurd hz z) (fun z => absurd hz z) (fun z => absurd hz z) (fun z => absurd hz z)
      · exact k100_6 (fun z => absurd z hz) (fun _ _ => h1) (fun _ z => absurd h0 z) (fun _ z => absurd h0 z) (fun _ z => absurd h0 z) (fun _ z => absurd h0 z) (fun _ z => absurd h0 z) (fun _ z => absurd h0 z) (fun _ z => absurd h0 z)
theorem m_seek (hd : 1 ≤ d) (hc : mt_ok μ) : zI X d 100 [.inr 22, .inl k, .inl a, .inl b] μ (fun r μ' => μ' = μ ∧ ((r = -1 ∧ ∀ i : Nat, (i : Int) < (μ 22 1).toInt → ¬ mt_at μ i k a b) ∨ ∃ i : Nat, (i : Int) < (μ 22 1).toInt ∧ r = nI i ∧ mt_at μ i k a b ∧ ∀ j, j < i → ¬ mt_at μ j k a b)) := by
  refine zI_at [0, 1, 2, 3] hd rfl (k100_0 ?_)
  have h := m_seek_loop (X := X) (d := d - 1) (P := fun r μ' => μ' = μ ∧ ((r = -1 ∧ ∀ i : Nat, (i : Int) < (μ 22 1).toInt → ¬ mt_at μ i k a b) ∨ ∃ i : Nat, (i : Int) < (μ 22 1).toInt ∧ r = nI i ∧ mt_at μ i k a b ∧ ∀ j, j < i → ¬ mt_at μ j k a b)) hc (fun h => ⟨rfl, Or.inl ⟨rfl, h⟩⟩) (fun i h1 h2 h3 => ⟨rfl, Or.inr ⟨i, h1, rfl, h2, h3⟩⟩) (μ 22 1).toInt.toNat 0 (by have := hc.1; omega) (fun j hj => absurd hj (Nat.not_lt_zero j))
  exact h
theorem t_R_has (h : t_R μ T) (hl : T.length ≤ 24) : mt_has μ x ↔ 0 ≤ x.toInt ∧ x.toInt < T.length := by
  unfold mt_has
  rw [h.1, nI_t (by omega)]
theorem t_R_at (h : t_R μ T) (hw : t_wf T) {i kk aa bb : Nat} (hi : i < T.length) (hk : kk < 100) (ha : aa < 100) (hb : bb < 100) : mt_at μ i (nI kk) (nI aa) (nI bb) ↔ T[i]? = some (kk, aa, bb) := by
  obtain ⟨k, a, b, e⟩ := t_at hi
  obtain ⟨h1, h2, h3, -⟩ := h.2 i k a b e
  obtain ⟨w1, w2, w3⟩ := hw i k a b e
  unfold mt_at
  rw [h1, h2, h3, e, nI_inj (by omega) (by omega), nI_inj (by omega) (by omega), nI_inj (by omega) (by omega)]
  constructor
  · rintro ⟨rfl, rfl, rfl⟩; rfl
  · intro q; cases q; exact ⟨rfl, rfl, rfl⟩

theorem m_seekE (hd : 1 ≤ d) (h : t_R μ T) (hall : μ 22 1 = μ 22 0) (hw : t_wf T) (hl : T.length ≤ 24) {kk aa bb : Nat} (hk : kk < 100) (ha : aa < 100) (hb : bb < 100) (ek : k = nI kk) (ea : a = nI aa) (eb : b = nI bb) :
    zI X d 100 [.inr 22, .inl k, .inl a, .inl b] μ (fun r μ' => μ' = μ ∧ match t_find T (kk, aa, bb) with
      | some i => r = nI i ∧ i < T.length
      | none => r = -1) := by
  subst ek; subst ea; subst eb
  have hn : (μ 22 1).toInt = T.length := by rw [hall, h.1, nI_t (by omega)]
  refine zI_mono (m_seek hd (by unfold mt_ok; omega)) (Nat.le_refl d) (fun r μ' hr => ?_)
  obtain ⟨rfl, hr⟩ := hr
  refine ⟨rfl, ?_⟩
  rw [hn] at hr
  rcases hr with ⟨rfl, hr⟩ | ⟨i, h1, rfl, h2, h3⟩
  · rw [t_find_none (fun j hj => fun z => hr j (by omega) ((t_R_at h hw hj hk ha hb).mpr z))]
  · have hi : i < T.length := by omega
    rw [t_find_some ((t_R_at h hw hi hk ha hb).mp h2) (fun j hj z => h3 j hj ((t_R_at h hw (by omega) hk ha hb).mpr z))]
    exact ⟨rfl, hi⟩
end MT

def HC (X : zm_T) (dr : Nat) (P : Int32 → zm_u → Prop) (μ : zm_u) : Prop := zV X dr 141 60 [(0, .inr 22)] [] μ (zpi P)
def GF (μ : zm_u) (f p s k : Nat) : Prop := μ 22 27 = nI (f + 1) ∧ f < 40 ∧ μ 36 f = nI p ∧ p < 560 ∧ μ 38 f = nI s ∧ s < 100 ∧ μ 27 p = nI k
section GD
variable {X : zm_T} {d dr f p s k a b : Nat} {μ μ' μ0 μ1 : zm_u} {P : zm_u → Prop} {PI : Int32 → zm_u → Prop}
theorem m_it (h : μ 22 27 = nI (f + 1)) (hf : f < 100) (hw : μ 22 29 = 0) (hg : zO X dr 136 [.inr 22] μ (HC X dr PI)) : HC X dr PI μ := by
  have n0 : ¬ μ 22 27 ≤ 0 := by rw [h, show (0 : Int32) = nI 0 from rfl, nI_leI (by omega) (by omega)]; omega
  exact k141_60 (fun z => absurd z n0) (fun _ z => absurd hw z) (fun _ _ => ⟨_, hg, fun μ1 h1 => k141_78 h1⟩)
theorem go_0 (hd : 1 ≤ d) (h : GF μ f p s 0) (h0 : zO X (d - 1) 126 [.inr 22, .inl 0] (zm_up μ 38 f (nI (s + 1))) P) : zO X d 136 [.inr 22] μ P := by
  obtain ⟨g1, g2, g3, g4, g5, g6, g7⟩ := h
  have e1 : μ 22 27 - 1 = nI f := by rw [g1, ← nI_one, nI_sub (by omega)]; rfl
  have e2 : (nI f).toNatClampNeg = f := nI_c (by omega)
  have e3 : (nI p).toNatClampNeg = p := nI_c (by omega)
  have e4 : nI s + 1 = nI (s + 1) := by rw [← nI_one, nI_add]
  have bf : 0 ≤ (nI f).toInt ∧ (nI f).toInt < ((40 : Nat) : Int) := by rw [nI_t (by omega)]; omega
  have bp : 0 ≤ (nI p).toInt ∧ (nI p).toInt < ((560 : Nat) : Int) := by rw [nI_t (by omega)]; omega
  refine zO_at [0] hd rfl ?_
  have K := @k136_0 X (d - 1) μ P
  simp only [e1, e2, g3, e3, g7, g5, e4] at K
  exact K bf bp bf bf bf (by intros; exact ⟨_, h0, fun μ1 h1 => k136_133 (k136_415 h1)⟩) (by intros; contradiction) (by intros; contradiction) (by intros; contradiction) (by intros; contradiction) (by intros; contradiction) (by intros; contradiction) (by intros; contradiction) (by intros; contradiction) (by intros; contradiction) (by intros; contradiction) (by intros; contradiction) (by intros; contradiction) (by intros; contradiction) (by intros; contradiction) (by intros; contradiction) (by intros; contradiction) (by intros; contradiction) (by intros; contradiction) (by intros; contradiction) (by intros; contradiction) (by intros; contradiction) (by intros; contradiction) (by intros; contradiction) (by intros; contradiction) (by intros; contradiction) (by intros; contradiction) (by intros; contradiction)
theorem go_1 (hd : 1 ≤ d) (h : GF μ f p s 1) (h0 : zO X (d - 1) 126 [.inr 22, .inl 1] (zm_up μ 38 f (nI (s + 1))) P) : zO X d 136 [.inr 22] μ P := by
  obtain ⟨g1, g2, g3, g4, g5, g6, g7⟩ := h
  have e1 : μ 22 27 - 1 = nI f := by rw [g1, ← nI_one, nI_sub (by omega)]; rfl
  have e2 : (nI f).toNatClampNeg = f := nI_c (by omega)
  have e3 : (nI p).toNatClampNeg = p := nI_c (by omega)
  have e4 : nI s + 1 = nI (s + 1) := by rw [← nI_one, nI_add]
  have bf : 0 ≤ (nI f).toInt ∧ (nI f).toInt < ((40 : Nat) : Int) := by rw [nI_t (by omega)]; omega
  have bp : 0 ≤ (nI p).toInt ∧ (nI p).toInt < ((560 : Nat) : Int) := by rw [nI_t (by omega)]; omega
  refine zO_at [0] hd rfl ?_
  have K := @k136_0 X (d - 1) μ P
  simp only [e1, e2, g3, e3, g7, g5, e4] at K
  exact K bf bp bf bf bf (by intros; contradiction) (by intros; exact ⟨_, h0, fun μ1 h1 => k136_141 (k136_415 h1)⟩) (by intros; contradiction) (by intros; contradiction) (by intros; contradiction) (by intros; contradiction) (by intros; contradiction) (by intros; contradiction) (by intros; contradiction) (by intros; contradiction) (by intros; contradiction) (by intros; contradiction) (by intros; contradiction) (by intros; contradiction) (by intros; contradiction) (by intros; contradiction) (by intros; contradiction) (by intros; contradiction) (by intros; contradiction) (by intros; contradiction) (by intros; contradiction) (by intros; contradiction) (by intros; contradiction) (by intros; contradiction) (by intros; contradiction) (by intros; contradiction) (by intros; contradiction) (by intros; contradiction)
theorem go_2 (hd : 1 ≤ d) (h : GF μ f p s 2) (ha : μ 28 p = nI a) (ha9 : a < 64) (h0 : nI a < μ 22 19 → zO X (d - 1) 126 [.inr 22, .inl (μ 35 a)] (zm_up (zm_up μ 38 f (nI (s + 1))) 22 29 0) P) (h1 : ¬ nI a < μ 22 19 → P (zm_up (zm_up μ 38 f (nI (s + 1))) 22 29 1)) : zO X d 136 [.inr 22] μ P := by
  obtain ⟨g1, g2, g3, g4, g5, g6, g7⟩ := h
  have e1 : μ 22 27 - 1 = nI f := by rw [g1, ← nI_one, nI_sub (by omega)]; rfl
  have e2 : (nI f).toNatClampNeg = f := nI_c (by omega)
  have e3 : (nI p).toNatClampNeg = p := nI_c (by omega)
  have e4 : nI s + 1 = nI (s + 1) := by rw [← nI_one, nI_add]
  have bf : 0 ≤ (nI f).toInt ∧ (nI f).toInt < ((40 : Nat) : Int) := by rw [nI_t (by omega)]; omega
  have bp : 0 ≤ (nI p).toInt ∧ (nI p).toInt < ((560 : Nat) : Int) := by rw [nI_t (by omega)]; omega
  refine zO_at [0] hd rfl ?_
  have K := @k136_0 X (d - 1) μ P
  simp only [e1, e2, g3, e3, g7, g5, e4] at K
  exact K bf bp bf bf bf (by intros; contradiction) (by intros; contradiction) (by intros; exact bp) (by
    intros; rename_i z
    rw [ha] at z
    refine k136_163 (Or.inl rfl) (fun z => absurd rfl z) (fun _ => bp) (fun _ => ?_) (fun _ => ⟨_, ?_, fun μ1 h1 => k136_188 (k136_415 h1)⟩)
    · rw [e3, zm_up_row (by decide), ha, nI_t (by omega)]; omega
    · rw [e3, zm_up_row (show 28 ≠ 38 by decide), zm_up_row (show 35 ≠ 38 by decide), ha, nI_c (by omega)]
      exact h0 z) (by
    intros; rename_i z
    rw [ha] at z
    exact k136_163 (Or.inr rfl) (fun _ => k136_415 (h1 z)) (fun z => absurd z zn_10) (fun z => absurd z zn_10) (fun z => absurd z zn_10)) (by intros; contradiction) (by intros; contradiction) (by intros; contradiction) (by intros; contradiction) (by intros; contradiction) (by intros; contradiction) (by intros; contradiction) (by intros; contradiction) (by intros; contradiction) (by intros; contradiction) (by intros; contradiction) (by intros; contradiction) (by intros; contradiction) (by intros; contradiction) (by intros; contradiction) (by intros; contradiction) (by intros; contradiction) (by intros; contradiction) (by intros; contradiction) (by intros; contradiction) (by intros; contradiction) (by intros; contradiction) (by intros; contradiction)
theorem go_3 (hd : 1 ≤ d) (h : GF μ f p s 3) (h0 : zO X (d - 1) 137 [.inr 22, .inl (nI p), .inl (nI s), .inl 0, .inl 0] (zm_up μ 38 f (nI (s + 1))) P) : zO X d 136 [.inr 22] μ P := by
  obtain ⟨g1, g2, g3, g4, g5, g6, g7⟩ := h
  have e1 : μ 22 27 - 1 = nI f := by rw [g1, ← nI_one, nI_sub (by omega)]; rfl
  have e2 : (nI f).toNatClampNeg = f := nI_c (by omega)
  have e3 : (nI p).toNatClampNeg = p := nI_c (by omega)
  have e4 : nI s + 1 = nI (s + 1) := by rw [← nI_one, nI_add]
  have bf : 0 ≤ (nI f).toInt ∧ (nI f).toInt < ((40 : Nat) : Int) := by rw [nI_t (by omega)]; omega
  have bp : 0 ≤ (nI p).toInt ∧ (nI p).toInt < ((560 : Nat) : Int) := by rw [nI_t (by omega)]; omega
  refine zO_at [0] hd rfl ?_
  have K := @k136_0 X (d - 1) μ P
  simp only [e1, e2, g3, e3, g7, g5, e4] at K
  exact K bf bp bf bf bf (by intros; contradiction) (by intros; contradiction) (by intros; contradiction) (by intros; contradiction) (by intros; contradiction) (by intros; exact ⟨_, h0, fun μ1 h1 => k136_200 (k136_415 h1)⟩) (by intros; contradiction) (by intros; contradiction) (by intros; contradiction) (by intros; contradiction) (by intros; contradiction) (by intros; contradiction) (by intros; contradiction) (by intros; contradiction) (by intros; contradiction) (by intros; contradiction) (by intros; contradiction) (by intros; contradiction) (by intros; contradiction) (by intros; contradiction) (by intros; contradiction) (by intros; contradiction) (by intros; contradiction) (by intros; contradiction) (by intros; contradiction) (by intros; contradiction) (by intros; contradiction) (by intros; contradiction)
theorem go_4 (hd : 1 ≤ d) (h : GF μ f p s 4) (h0 : zO X (d - 1) 137 [.inr 22, .inl (nI p), .inl (nI s), .inl 0, .inl 1] (zm_up μ 38 f (nI (s + 1))) P) : zO X d 136 [.inr 22] μ P := by
  obtain ⟨g1, g2, g3, g4, g5, g6, g7⟩ := h
  have e1 : μ 22 27 - 1 = nI f := by rw [g1, ← nI_one, nI_sub (by omega)]; rfl
  have e2 : (nI f).toNatClampNeg = f := nI_c (by omega)
  have e3 : (nI p).toNatClampNeg = p := nI_c (by omega)
  have e4 : nI s + 1 = nI (s + 1) := by rw [← nI_one, nI_add]
  have bf : 0 ≤ (nI f).toInt ∧ (nI f).toInt < ((40 : Nat) : Int) := by rw [nI_t (by omega)]; omega
  have bp : 0 ≤ (nI p).toInt ∧ (nI p).toInt < ((560 : Nat) : Int) := by rw [nI_t (by omega)]; omega
  refine zO_at [0] hd rfl ?_
  have K := @k136_0 X (d - 1) μ P
  simp only [e1, e2, g3, e3, g7, g5, e4] at K
  exact K bf bp bf bf bf (by intros; contradiction) (by intros; contradiction) (by intros; contradiction) (by intros; contradiction) (by intros; contradiction) (by intros; contradiction) (by intros; exact ⟨_, h0, fun μ1 h1 => k136_212 (k136_415 h1)⟩) (by intros; contradiction) (by intros; contradiction) (by intros; contradiction) (by intros; contradiction) (by intros; contradiction) (by intros; contradiction) (by intros; contradiction) (by intros; contradiction) (by intros; contradiction) (by intros; contradiction) (by intros; contradiction) (by intros; contradiction) (by intros; contradiction) (by intros; contradiction) (by intros; contradiction) (by intros; contradiction) (by intros; contradiction) (by intros; contradiction) (by intros; contradiction) (by intros; contradiction) (by intros; contradiction)
theorem go_5 (hd : 1 ≤ d) (h : GF μ f p s 5) (h0 : ∀ x : Int32, (0 ≤ μ 37 f → x = 0) → (¬ 0 ≤ μ 37 f → x = 1) → (x = 0 ∨ x = 1) → (3 ≤ s → zO X (d - 1) 126 [.inr 22, .inl (μ 37 f)] (zm_up (zm_up μ 38 f (nI (s + 1))) 22 29 x) P) ∧ (s = 0 → zO X (d - 1) 127 [.inr 22, .inl (nI p), .inl (nI s), .inl 1] (zm_up (zm_up μ 38 f (nI (s + 1))) 22 29 x) P) ∧ (0 < s → s < 3 → zO X (d - 1) 127 [.inr 22, .inl (nI p), .inl (nI s), .inl (μ 37 f)] (zm_up (zm_up μ 38 f (nI (s + 1))) 22 29 x) P)) : zO X d 136 [.inr 22] μ P := by
  obtain ⟨g1, g2, g3, g4, g5, g6, g7⟩ := h
  have e1 : μ 22 27 - 1 = nI f := by rw [g1, ← nI_one, nI_sub (by omega)]; rfl
  have e2 : (nI f).toNatClampNeg = f := nI_c (by omega)
  have e3 : (nI p).toNatClampNeg = p := nI_c (by omega)
  have e4 : nI s + 1 = nI (s + 1) := by rw [← nI_one, nI_add]
  have bf : 0 ≤ (nI f).toInt ∧ (nI f).toInt < ((40 : Nat) : Int) := by rw [nI_t (by omega)]; omega
  have bp : 0 ≤ (nI p).toInt ∧ (nI p).toInt < ((560 : Nat) : Int) := by rw [nI_t (by omega)]; omega
  have fin : ∀ x : Int32, (x = 0 ∨ x = 1) → ((3 ≤ s → zO X (d - 1) 126 [.inr 22, .inl (μ 37 f)] (zm_up (zm_up μ 38 f (nI (s + 1))) 22 29 x) P) ∧ (s = 0 → zO X (d - 1) 127 [.inr 22, .inl (nI p), .inl (nI s), .inl 1] (zm_up (zm_up μ 38 f (nI (s + 1))) 22 29 x) P) ∧ (0 < s → s < 3 → zO X (d - 1) 127 [.inr 22, .inl (nI p), .inl (nI s), .inl (μ 37 f)] (zm_up (zm_up μ 38 f (nI (s + 1))) 22 29 x) P)) → zV X (d - 1) 136 230 [(0, .inr 22), (1, .inl (nI f)), (2, .inl (nI p)), (4, .inl (nI s))] [.inl x, .inr 22] (zm_up μ 38 f (nI (s + 1))) (zpo P) := by
    intro x hx hh
    have e37 : (zm_up μ 38 f (nI (s + 1))) 37 f = μ 37 f := by rw [zm_up_row (by decide)]
    have e3' : (3 : Int32) = nI 3 := rfl
    have e0' : (0 : Int32) = nI 0 := rfl
    refine k136_230 hx (fun _ => bf) (fun z => ⟨_, ?_, fun μ1 h1 => k136_274 (k136_415 h1)⟩) (fun _ _ => bf) (fun z z2 => k136_258 ⟨_, ?_, fun μ1 h1 => k136_261 (k136_415 h1)⟩) (fun z z2 => k136_258 ⟨_, ?_, fun μ1 h1 => k136_261 (k136_415 h1)⟩)
    · rw [e3', nI_leI (by omega) (by omega)] at z
      rw [e2, e37]
      exact hh.1 z
    · rw [e3', nI_leI (by omega) (by omega)] at z
      rw [e0', nI_inj (by omega) (by omega)] at z2
      rw [e2, e37]
      exact hh.2.2 (by omega) (by omega)
    · rw [e0', nI_inj (by omega) (by omega)] at z2
      exact hh.2.1 z2
  refine zO_at [0] hd rfl ?_
  have K := @k136_0 X (d - 1) μ P
  simp only [e1, e2, g3, e3, g7, g5, e4] at K
  exact K bf bp bf bf bf (by intros; contradiction) (by intros; contradiction) (by intros; contradiction) (by intros; contradiction) (by intros; contradiction) (by intros; contradiction) (by intros; contradiction) (by intros; exact bf) (by
    intros; rename_i z
    exact fin 0 (Or.inl rfl) (h0 0 (fun _ => rfl) (fun w => absurd z w) (Or.inl rfl))) (by
    intros; rename_i z
    exact fin 1 (Or.inr rfl) (h0 1 (fun w => absurd w z) (fun _ => rfl) (Or.inr rfl))) (by intros; contradiction) (by intros; contradiction) (by intros; contradiction) (by intros; contradiction) (by intros; contradiction) (by intros; contradiction) (by intros; contradiction) (by intros; contradiction) (by intros; contradiction) (by intros; contradiction) (by intros; contradiction) (by intros; contradiction) (by intros; contradiction) (by intros; contradiction) (by intros; contradiction) (by intros; contradiction) (by intros; contradiction) (by intros; contradiction)
theorem go_6 (hd : 1 ≤ d) (h : GF μ f p s 6) (h0 : zO X (d - 1) 140 [.inr 22, .inl (nI f), .inl (nI p), .inl (nI 6), .inl (nI s)] (zm_up μ 38 f (nI (s + 1))) P) : zO X d 136 [.inr 22] μ P := by
  obtain ⟨g1, g2, g3, g4, g5, g6, g7⟩ := h
  have e1 : μ 22 27 - 1 = nI f := by rw [g1, ← nI_one, nI_sub (by omega)]; rfl
  have e2 : (nI f).toNatClampNeg = f := nI_c (by omega)
  have e3 : (nI p).toNatClampNeg = p := nI_c (by omega)
  have e4 : nI s + 1 = nI (s + 1) := by rw [← nI_one, nI_add]
  have bf : 0 ≤ (nI f).toInt ∧ (nI f).toInt < ((40 : Nat) : Int) := by rw [nI_t (by omega)]; omega
  have bp : 0 ≤ (nI p).toInt ∧ (nI p).toInt < ((560 : Nat) : Int) := by rw [nI_t (by omega)]; omega
  refine zO_at [0] hd rfl ?_
  have K := @k136_0 X (d - 1) μ P
  simp only [e1, e2, g3, e3, g7, g5, e4] at K
  exact K bf bp bf bf bf (by intros; contradiction) (by intros; contradiction) (by intros; contradiction) (by intros; contradiction) (by intros; contradiction) (by intros; contradiction) (by intros; contradiction) (by intros; contradiction) (by intros; contradiction) (by intros; contradiction) (by intros; exact ⟨_, h0, fun μ1 h1 => k136_415 h1⟩) (by intros; contradiction) (by intros; contradiction) (by intros; contradiction) (by intros; contradiction) (by intros; contradiction) (by intros; contradiction) (by intros; contradiction) (by intros; contradiction) (by intros; contradiction) (by intros; contradiction) (by intros; contradiction) (by intros; contradiction) (by intros; contradiction) (by intros; contradiction) (by intros; contradiction) (by intros; contradiction) (by intros; contradiction)
theorem go_7 (hd : 1 ≤ d) (h : GF μ f p s 7) (h0 : zO X (d - 1) 140 [.inr 22, .inl (nI f), .inl (nI p), .inl (nI 7), .inl (nI s)] (zm_up μ 38 f (nI (s + 1))) P) : zO X d 136 [.inr 22] μ P := by
  obtain ⟨g1, g2, g3, g4, g5, g6, g7⟩ := h
  have e1 : μ 22 27 - 1 = nI f := by rw [g1, ← nI_one, nI_sub (by omega)]; rfl
  have e2 : (nI f).toNatClampNeg = f := nI_c (by omega)
  have e3 : (nI p).toNatClampNeg = p := nI_c (by omega)
  have e4 : nI s + 1 = nI (s + 1) := by rw [← nI_one, nI_add]
  have bf : 0 ≤ (nI f).toInt ∧ (nI f).toInt < ((40 : Nat) : Int) := by rw [nI_t (by omega)]; omega
  have bp : 0 ≤ (nI p).toInt ∧ (nI p).toInt < ((560 : Nat) : Int) := by rw [nI_t (by omega)]; omega
  refine zO_at [0] hd rfl ?_
  have K := @k136_0 X (d - 1) μ P
  simp only [e1, e2, g3, e3, g7, g5, e4] at K
  exact K bf bp bf bf bf (by intros; contradiction) (by intros; contradiction) (by intros; contradiction) (by intros; contradiction) (by intros; contradiction) (by intros; contradiction) (by intros; contradiction) (by intros; contradiction) (by intros; contradiction) (by intros; contradiction) (by intros; contradiction) (by intros; exact ⟨_, h0, fun μ1 h1 => k136_415 h1⟩) (by intros; contradiction) (by intros; contradiction) (by intros; contradiction) (by intros; contradiction) (by intros; contradiction) (by intros; contradiction) (by intros; contradiction) (by intros; contradiction) (by intros; contradiction) (by intros; contradiction) (by intros; contradiction) (by intros; contradiction) (by intros; contradiction) (by intros; contradiction) (by intros; contradiction) (by intros; contradiction)
theorem go_8 (hd : 1 ≤ d) (h : GF μ f p s 8) (h0 : zO X (d - 1) 140 [.inr 22, .inl (nI f), .inl (nI p), .inl (nI 8), .inl (nI s)] (zm_up μ 38 f (nI (s + 1))) P) : zO X d 136 [.inr 22] μ P := by
  obtain ⟨g1, g2, g3, g4, g5, g6, g7⟩ := h
  have e1 : μ 22 27 - 1 = nI f := by rw [g1, ← nI_one, nI_sub (by omega)]; rfl
  have e2 : (nI f).toNatClampNeg = f := nI_c (by omega)
  have e3 : (nI p).toNatClampNeg = p := nI_c (by omega)
  have e4 : nI s + 1 = nI (s + 1) := by rw [← nI_one, nI_add]
  have bf : 0 ≤ (nI f).toInt ∧ (nI f).toInt < ((40 : Nat) : Int) := by rw [nI_t (by omega)]; omega
  have bp : 0 ≤ (nI p).toInt ∧ (nI p).toInt < ((560 : Nat) : Int) := by rw [nI_t (by omega)]; omega
  refine zO_at [0] hd rfl ?_
  have K := @k136_0 X (d - 1) μ P
  simp only [e1, e2, g3, e3, g7, g5, e4] at K
  exact K bf bp bf bf bf (by intros; contradiction) (by intros; contradiction) (by intros; contradiction) (by intros; contradiction) (by intros; contradiction) (by intros; contradiction) (by intros; contradiction) (by intros; contradiction) (by intros; contradiction) (by intros; contradiction) (by intros; contradiction) (by intros; contradiction) (by intros; exact ⟨_, h0, fun μ1 h1 => k136_415 h1⟩) (by intros; contradiction) (by intros; contradiction) (by intros; contradiction) (by intros; contradiction) (by intros; contradiction) (by intros; contradiction) (by intros; contradiction) (by intros; contradiction) (by intros; contradiction) (by intros; contradiction) (by intros; contradiction) (by intros; contradiction) (by intros; contradiction) (by intros; contradiction) (by intros; contradiction)
theorem go_9 (hd : 1 ≤ d) (h : GF μ f p s 9) (h0 : zO X (d - 1) 140 [.inr 22, .inl (nI f), .inl (nI p), .inl (nI 9), .inl (nI s)] (zm_up μ 38 f (nI (s + 1))) P) : zO X d 136 [.inr 22] μ P := by
  obtain ⟨g1, g2, g3, g4, g5, g6, g7⟩ := h
  have e1 : μ 22 27 - 1 = nI f := by rw [g1, ← nI_one, nI_sub (by omega)]; rfl
  have e2 : (nI f).toNatClampNeg = f := nI_c (by omega)
  have e3 : (nI p).toNatClampNeg = p := nI_c (by omega)
  have e4 : nI s + 1 = nI (s + 1) := by rw [← nI_one, nI_add]
  have bf : 0 ≤ (nI f).toInt ∧ (nI f).toInt < ((40 : Nat) : Int) := by rw [nI_t (by omega)]; omega
  have bp : 0 ≤ (nI p).toInt ∧ (nI p).toInt < ((560 : Nat) : Int) := by rw [nI_t (by omega)]; omega
  refine zO_at [0] hd rfl ?_
  have K := @k136_0 X (d - 1) μ P
  simp only [e1, e2, g3, e3, g7, g5, e4] at K
  exact K bf bp bf bf bf (by intros; contradiction) (by intros; contradiction) (by intros; contradiction) (by intros; contradiction) (by intros; contradiction) (by intros; contradiction) (by intros; contradiction) (by intros; contradiction) (by intros; contradiction) (by intros; contradiction) (by intros; contradiction) (by intros; contradiction) (by intros; contradiction) (by intros; exact ⟨_, h0, fun μ1 h1 => k136_415 h1⟩) (by intros; contradiction) (by intros; contradiction) (by intros; contradiction) (by intros; contradiction) (by intros; contradiction) (by intros; contradiction) (by intros; contradiction) (by intros; contradiction) (by intros; contradiction) (by intros; contradiction) (by intros; contradiction) (by intros; contradiction) (by intros; contradiction) (by intros; contradiction)
theorem go_15 (hd : 1 ≤ d) (h : GF μ f p s 15) (h0 : zO X (d - 1) 140 [.inr 22, .inl (nI f), .inl (nI p), .inl (nI 15), .inl (nI s)] (zm_up μ 38 f (nI (s + 1))) P) : zO X d 136 [.inr 22] μ P := by
  obtain ⟨g1, g2, g3, g4, g5, g6, g7⟩ := h
  have e1 : μ 22 27 - 1 = nI f := by rw [g1, ← nI_one, nI_sub (by omega)]; rfl
  have e2 : (nI f).toNatClampNeg = f := nI_c (by omega)
  have e3 : (nI p).toNatClampNeg = p := nI_c (by omega)
  have e4 : nI s + 1 = nI (s + 1) := by rw [← nI_one, nI_add]
  have bf : 0 ≤ (nI f).toInt ∧ (nI f).toInt < ((40 : Nat) : Int) := by rw [nI_t (by omega)]; omega
  have bp : 0 ≤ (nI p).toInt ∧ (nI p).toInt < ((560 : Nat) : Int) := by rw [nI_t (by omega)]; omega
  refine zO_at [0] hd rfl ?_
  have K := @k136_0 X (d - 1) μ P
  simp only [e1, e2, g3, e3, g7, g5, e4] at K
  exact K bf bp bf bf bf (by intros; contradiction) (by intros; contradiction) (by intros; contradiction) (by intros; contradiction) (by intros; contradiction) (by intros; contradiction) (by intros; contradiction) (by intros; contradiction) (by intros; contradiction) (by intros; contradiction) (by intros; contradiction) (by intros; contradiction) (by intros; contradiction) (by intros; contradiction) (by intros; contradiction) (by intros; contradiction) (by intros; contradiction) (by intros; contradiction) (by intros; contradiction) (by intros; contradiction) (by intros; contradiction) (by intros; contradiction) (by intros; contradiction) (by intros; contradiction) (by intros; exact ⟨_, h0, fun μ1 h1 => k136_415 h1⟩) (by intros; contradiction) (by intros; contradiction) (by intros; contradiction)
theorem go_16 (hd : 1 ≤ d) (h : GF μ f p s 16) (h0 : zO X (d - 1) 140 [.inr 22, .inl (nI f), .inl (nI p), .inl (nI 16), .inl (nI s)] (zm_up μ 38 f (nI (s + 1))) P) : zO X d 136 [.inr 22] μ P := by
  obtain ⟨g1, g2, g3, g4, g5, g6, g7⟩ := h
  have e1 : μ 22 27 - 1 = nI f := by rw [g1, ← nI_one, nI_sub (by omega)]; rfl
  have e2 : (nI f).toNatClampNeg = f := nI_c (by omega)
  have e3 : (nI p).toNatClampNeg = p := nI_c (by omega)
  have e4 : nI s + 1 = nI (s + 1) := by rw [← nI_one, nI_add]
  have bf : 0 ≤ (nI f).toInt ∧ (nI f).toInt < ((40 : Nat) : Int) := by rw [nI_t (by omega)]; omega
  have bp : 0 ≤ (nI p).toInt ∧ (nI p).toInt < ((560 : Nat) : Int) := by rw [nI_t (by omega)]; omega
  refine zO_at [0] hd rfl ?_
  have K := @k136_0 X (d - 1) μ P
  simp only [e1, e2, g3, e3, g7, g5, e4] at K
  exact K bf bp bf bf bf (by intros; contradiction) (by intros; contradiction) (by intros; contradiction) (by intros; contradiction) (by intros; contradiction) (by intros; contradiction) (by intros; contradiction) (by intros; contradiction) (by intros; contradiction) (by intros; contradiction) (by intros; contradiction) (by intros; contradiction) (by intros; contradiction) (by intros; contradiction) (by intros; contradiction) (by intros; contradiction) (by intros; contradiction) (by intros; contradiction) (by intros; contradiction) (by intros; contradiction) (by intros; contradiction) (by intros; contradiction) (by intros; contradiction) (by intros; contradiction) (by intros; contradiction) (by intros; exact ⟨_, h0, fun μ1 h1 => k136_415 h1⟩) (by intros; contradiction) (by intros; contradiction)
theorem go_10 (hd : 1 ≤ d) (h : GF μ f p s 10) (h0 : s = 0 → zO X (d - 1) 127 [.inr 22, .inl (nI p), .inl 0, .inl (μ 28 p)] (zm_up μ 38 f (nI (s + 1))) P) (h1 : s ≠ 0 → zO X (d - 1) 126 [.inr 22, .inl (μ 28 p)] (zm_up μ 38 f (nI (s + 1))) P) : zO X d 136 [.inr 22] μ P := by
  obtain ⟨g1, g2, g3, g4, g5, g6, g7⟩ := h
  have e1 : μ 22 27 - 1 = nI f := by rw [g1, ← nI_one, nI_sub (by omega)]; rfl
  have e2 : (nI f).toNatClampNeg = f := nI_c (by omega)
  have e3 : (nI p).toNatClampNeg = p := nI_c (by omega)
  have e4 : nI s + 1 = nI (s + 1) := by rw [← nI_one, nI_add]
  have bf : 0 ≤ (nI f).toInt ∧ (nI f).toInt < ((40 : Nat) : Int) := by rw [nI_t (by omega)]; omega
  have bp : 0 ≤ (nI p).toInt ∧ (nI p).toInt < ((560 : Nat) : Int) := by rw [nI_t (by omega)]; omega
  refine zO_at [0] hd rfl ?_
  have K := @k136_0 X (d - 1) μ P
  simp only [e1, e2, g3, e3, g7, g5, e4] at K
  exact K bf bp bf bf bf (by intros; contradiction) (by intros; contradiction) (by intros; contradiction) (by intros; contradiction) (by intros; contradiction) (by intros; contradiction) (by intros; contradiction) (by intros; contradiction) (by intros; contradiction) (by intros; contradiction) (by intros; contradiction) (by intros; contradiction) (by intros; contradiction) (by intros; contradiction) (by intros; exact bp) (by
    intros; rename_i z
    exact ⟨_, h1 (fun w => z (by rw [w]; rfl)), fun μ1 h1 => k136_307 (k136_415 h1)⟩) (by intros; exact bp) (by
    intros; rename_i z
    exact ⟨_, h0 ((nI_inj (by omega) (by omega)).mp (z.trans (show (0 : Int32) = nI 0 from rfl))), fun μ1 h1 => k136_294 (k136_415 h1)⟩) (by intros; contradiction) (by intros; contradiction) (by intros; contradiction) (by intros; contradiction) (by intros; contradiction) (by intros; contradiction) (by intros; contradiction) (by intros; contradiction) (by intros; contradiction) (by intros; contradiction)
theorem go_11 (hd : 1 ≤ d) (h : GF μ f p s 11) (h0 : s = 0 → zO X (d - 1) 127 [.inr 22, .inl (nI p), .inl 0, .inl 0] (zm_up μ 38 f (nI (s + 1))) P) (h1 : s ≠ 0 → ∃ G : Int32 → zm_u → Prop, zI X (d - 1) 102 [.inr 22, .inl 0] (zm_up μ 38 f (nI (s + 1))) G ∧ ∀ r μ1, G r μ1 → zO X (d - 1) 126 [.inr 22, .inl r] μ1 P) : zO X d 136 [.inr 22] μ P := by
  obtain ⟨g1, g2, g3, g4, g5, g6, g7⟩ := h
  have e1 : μ 22 27 - 1 = nI f := by rw [g1, ← nI_one, nI_sub (by omega)]; rfl
  have e2 : (nI f).toNatClampNeg = f := nI_c (by omega)
  have e3 : (nI p).toNatClampNeg = p := nI_c (by omega)
  have e4 : nI s + 1 = nI (s + 1) := by rw [← nI_one, nI_add]
  have bf : 0 ≤ (nI f).toInt ∧ (nI f).toInt < ((40 : Nat) : Int) := by rw [nI_t (by omega)]; omega
  have bp : 0 ≤ (nI p).toInt ∧ (nI p).toInt < ((560 : Nat) : Int) := by rw [nI_t (by omega)]; omega
  refine zO_at [0] hd rfl ?_
  have K := @k136_0 X (d - 1) μ P
  simp only [e1, e2, g3, e3, g7, g5, e4] at K
  exact K bf bp bf bf bf (by intros; contradiction) (by intros; contradiction) (by intros; contradiction) (by intros; contradiction) (by intros; contradiction) (by intros; contradiction) (by intros; contradiction) (by intros; contradiction) (by intros; contradiction) (by intros; contradiction) (by intros; contradiction) (by intros; contradiction) (by intros; contradiction) (by intros; contradiction) (by intros; contradiction) (by intros; contradiction) (by intros; contradiction) (by intros; contradiction) (by
    intros; rename_i z
    obtain ⟨G, q1, q2⟩ := h1 (fun w => z (by rw [w]; rfl))
    exact ⟨G, q1, fun r μ1 hr => k136_331 ⟨_, q2 r μ1 hr, fun μ1 h1 => k136_334 (k136_415 h1)⟩⟩) (by
    intros; rename_i z
    exact ⟨_, h0 ((nI_inj (by omega) (by omega)).mp (z.trans (show (0 : Int32) = nI 0 from rfl))), fun μ1 h1 => k136_322 (k136_415 h1)⟩) (by intros; contradiction) (by intros; contradiction) (by intros; contradiction) (by intros; contradiction) (by intros; contradiction) (by intros; contradiction) (by intros; contradiction) (by intros; contradiction)
theorem go_12 (hd : 1 ≤ d) (h : GF μ f p s 12) (h0 : s = 0 → zO X (d - 1) 127 [.inr 22, .inl (nI p), .inl 0, .inl 1] (zm_up μ 38 f (nI (s + 1))) P) (h1 : s ≠ 0 → ∃ G : Int32 → zm_u → Prop, zI X (d - 1) 102 [.inr 22, .inl 1] (zm_up μ 38 f (nI (s + 1))) G ∧ ∀ r μ1, G r μ1 → zO X (d - 1) 126 [.inr 22, .inl r] μ1 P) : zO X d 136 [.inr 22] μ P := by
  obtain ⟨g1, g2, g3, g4, g5, g6, g7⟩ := h
  have e1 : μ 22 27 - 1 = nI f := by rw [g1, ← nI_one, nI_sub (by omega)]; rfl
  have e2 : (nI f).toNatClampNeg = f := nI_c (by omega)
  have e3 : (nI p).toNatClampNeg = p := nI_c (by omega)
  have e4 : nI s + 1 = nI (s + 1) := by rw [← nI_one, nI_add]
  have bf : 0 ≤ (nI f).toInt ∧ (nI f).toInt < ((40 : Nat) : Int) := by rw [nI_t (by omega)]; omega
  have bp : 0 ≤ (nI p).toInt ∧ (nI p).toInt < ((560 : Nat) : Int) := by rw [nI_t (by omega)]; omega
  refine zO_at [0] hd rfl ?_
  have K := @k136_0 X (d - 1) μ P
  simp only [e1, e2, g3, e3, g7, g5, e4] at K
  exact K bf bp bf bf bf (by intros; contradiction) (by intros; contradiction) (by intros; contradiction) (by intros; contradiction) (by intros; contradiction) (by intros; contradiction) (by intros; contradiction) (by intros; contradiction) (by intros; contradiction) (by intros; contradiction) (by intros; contradiction) (by intros; contradiction) (by intros; contradiction) (by intros; contradiction) (by intros; contradiction) (by intros; contradiction) (by intros; contradiction) (by intros; contradiction) (by intros; contradiction) (by intros; contradiction) (by
    intros; rename_i z
    obtain ⟨G, q1, q2⟩ := h1 (fun w => z (by rw [w]; rfl))
    exact ⟨G, q1, fun r μ1 hr => k136_358 ⟨_, q2 r μ1 hr, fun μ1 h1 => k136_361 (k136_415 h1)⟩⟩) (by
    intros; rename_i z
    exact ⟨_, h0 ((nI_inj (by omega) (by omega)).mp (z.trans (show (0 : Int32) = nI 0 from rfl))), fun μ1 h1 => k136_349 (k136_415 h1)⟩) (by intros; contradiction) (by intros; contradiction) (by intros; contradiction) (by intros; contradiction) (by intros; contradiction) (by intros; contradiction)
theorem go_13 (hd : 1 ≤ d) (h : GF μ f p s 13) (h0 : ∃ G : Int32 → zm_u → Prop, zI X (d - 1) 102 [.inr 22, .inl 0] (zm_up μ 38 f (nI (s + 1))) G ∧ ∀ r μ1, G r μ1 → ∃ G2 : Int32 → zm_u → Prop, zI X (d - 1) 102 [.inr 22, .inl 0] μ1 G2 ∧ ∀ r2 μ2, G2 r2 μ2 → zO X (d - 1) 137 [.inr 22, .inl (nI p), .inl (nI s), .inl r, .inl r2] μ2 P) : zO X d 136 [.inr 22] μ P := by
  obtain ⟨g1, g2, g3, g4, g5, g6, g7⟩ := h
  have e1 : μ 22 27 - 1 = nI f := by rw [g1, ← nI_one, nI_sub (by omega)]; rfl
  have e2 : (nI f).toNatClampNeg = f := nI_c (by omega)
  have e3 : (nI p).toNatClampNeg = p := nI_c (by omega)
  have e4 : nI s + 1 = nI (s + 1) := by rw [← nI_one, nI_add]
  have bf : 0 ≤ (nI f).toInt ∧ (nI f).toInt < ((40 : Nat) : Int) := by rw [nI_t (by omega)]; omega
  have bp : 0 ≤ (nI p).toInt ∧ (nI p).toInt < ((560 : Nat) : Int) := by rw [nI_t (by omega)]; omega
  refine zO_at [0] hd rfl ?_
  have K := @k136_0 X (d - 1) μ P
  simp only [e1, e2, g3, e3, g7, g5, e4] at K
  exact K bf bp bf bf bf (by intros; contradiction) (by intros; contradiction) (by intros; contradiction) (by intros; contradiction) (by intros; contradiction) (by intros; contradiction) (by intros; contradiction) (by intros; contradiction) (by intros; contradiction) (by intros; contradiction) (by intros; contradiction) (by intros; contradiction) (by intros; contradiction) (by intros; contradiction) (by intros; contradiction) (by intros; contradiction) (by intros; contradiction) (by intros; contradiction) (by intros; contradiction) (by intros; contradiction) (by intros; contradiction) (by intros; contradiction) (by
    intros
    obtain ⟨G, q1, q2⟩ := h0
    refine ⟨G, q1, fun r μ1 hr => ?_⟩
    obtain ⟨G2, q3, q4⟩ := q2 r μ1 hr
    exact k136_373 ⟨G2, q3, fun r2 μ2 hr2 => k136_378 ⟨_, q4 r2 μ2 hr2, fun μ1 h1 => k136_381 (k136_415 h1)⟩⟩) (by intros; contradiction) (by intros; contradiction) (by intros; contradiction) (by intros; contradiction) (by intros; contradiction)
theorem go_14 (hd : 1 ≤ d) (h : GF μ f p s 14) (h0 : zO X (d - 1) 138 [.inr 22, .inl (nI f), .inl (nI p), .inl (nI s)] (zm_up μ 38 f (nI (s + 1))) P) : zO X d 136 [.inr 22] μ P := by
  obtain ⟨g1, g2, g3, g4, g5, g6, g7⟩ := h
  have e1 : μ 22 27 - 1 = nI f := by rw [g1, ← nI_one, nI_sub (by omega)]; rfl
  have e2 : (nI f).toNatClampNeg = f := nI_c (by omega)
  have e3 : (nI p).toNatClampNeg = p := nI_c (by omega)
  have e4 : nI s + 1 = nI (s + 1) := by rw [← nI_one, nI_add]
  have bf : 0 ≤ (nI f).toInt ∧ (nI f).toInt < ((40 : Nat) : Int) := by rw [nI_t (by omega)]; omega
  have bp : 0 ≤ (nI p).toInt ∧ (nI p).toInt < ((560 : Nat) : Int) := by rw [nI_t (by omega)]; omega
  refine zO_at [0] hd rfl ?_
  have K := @k136_0 X (d - 1) μ P
  simp only [e1, e2, g3, e3, g7, g5, e4] at K
  exact K bf bp bf bf bf (by intros; contradiction) (by intros; contradiction) (by intros; contradiction) (by intros; contradiction) (by intros; contradiction) (by intros; contradiction) (by intros; contradiction) (by intros; contradiction) (by intros; contradiction) (by intros; contradiction) (by intros; contradiction) (by intros; contradiction) (by intros; contradiction) (by intros; contradiction) (by intros; contradiction) (by intros; contradiction) (by intros; contradiction) (by intros; contradiction) (by intros; contradiction) (by intros; contradiction) (by intros; contradiction) (by intros; contradiction) (by intros; contradiction) (by intros; exact ⟨_, h0, fun μ1 h1 => k136_392 (k136_415 h1)⟩) (by intros; contradiction) (by intros; contradiction) (by intros; contradiction) (by intros; contradiction)
theorem go_17 (hd : 1 ≤ d) (h : GF μ f p s 17) (h0 : zO X (d - 1) 139 [.inr 22, .inl (nI f), .inl (nI p), .inl (nI s)] (zm_up μ 38 f (nI (s + 1))) P) : zO X d 136 [.inr 22] μ P := by
  obtain ⟨g1, g2, g3, g4, g5, g6, g7⟩ := h
  have e1 : μ 22 27 - 1 = nI f := by rw [g1, ← nI_one, nI_sub (by omega)]; rfl
  have e2 : (nI f).toNatClampNeg = f := nI_c (by omega)
  have e3 : (nI p).toNatClampNeg = p := nI_c (by omega)
  have e4 : nI s + 1 = nI (s + 1) := by rw [← nI_one, nI_add]
  have bf : 0 ≤ (nI f).toInt ∧ (nI f).toInt < ((40 : Nat) : Int) := by rw [nI_t (by omega)]; omega
  have bp : 0 ≤ (nI p).toInt ∧ (nI p).toInt < ((560 : Nat) : Int) := by rw [nI_t (by omega)]; omega
  refine zO_at [0] hd rfl ?_
  have K := @k136_0 X (d - 1) μ P
  simp only [e1, e2, g3, e3, g7, g5, e4] at K
  exact K bf bp bf bf bf (by intros; contradiction) (by intros; contradiction) (by intros; contradiction) (by intros; contradiction) (by intros; contradiction) (by intros; contradiction) (by intros; contradiction) (by intros; contradiction) (by intros; contradiction) (by intros; contradiction) (by intros; contradiction) (by intros; contradiction) (by intros; contradiction) (by intros; contradiction) (by intros; contradiction) (by intros; contradiction) (by intros; contradiction) (by intros; contradiction) (by intros; contradiction) (by intros; contradiction) (by intros; contradiction) (by intros; contradiction) (by intros; contradiction) (by intros; contradiction) (by intros; contradiction) (by intros; contradiction) (by intros; exact ⟨_, h0, fun μ1 h1 => k136_403 (k136_415 h1)⟩) (by intros; contradiction)
end GD

section MM2
variable {X : zm_T} {d L : Nat} {μ : zm_u} {o a x t : Int32} {st : sT}
theorem m_fits (hd : 2 ≤ d) (hL : (μ 22 0).toInt = L) : zI X d 107 [.inr 22, .inl o, .inl a] μ (fun r μ' => μ' = μ ∧ (okop L o a ∧ r = 1 ∨ ¬ okop L o a ∧ r = 0)) := by
  have e0 : (0 : Int32).toInt = 0 := by decide
  have e1 : (1 : Int32).toInt = 1 := by decide
  have e11 : (11 : Int32).toInt = 11 := by decide
  have e17 : (17 : Int32).toInt = 17 := by decide
  have e63 : (63 : Int32).toInt = 63 := by decide
  have n21 : ¬ (2 : Int32) = 1 := by decide
  have n101 : ¬ (10 : Int32) = 1 := by decide
  have n102 : ¬ (10 : Int32) = 2 := by decide
  have n1017 : ¬ (10 : Int32) = 17 := by decide
  have n171 : ¬ (17 : Int32) = 1 := by decide
  have n172 : ¬ (17 : Int32) = 2 := by decide
  have n1710 : ¬ (17 : Int32) = 10 := by decide
  have n117 : ¬ (1 : Int32) = 17 := by decide
  have n12 : ¬ (1 : Int32) = 2 := by decide
  have n110 : ¬ (1 : Int32) = 10 := by decide
  have n217 : ¬ (2 : Int32) = 17 := by decide
  have n210 : ¬ (2 : Int32) = 10 := by decide
  refine zI_at [0, 1, 2] (by omega) rfl (k107_0 (fun z => ?_) (fun z1 z2 h1 h2 h3 h4 => ?_) (fun z1 z2 h1 h2 h3 h z => ?_) (fun z1 z2 h1 h2 h3 h z3 z4 => ?_) (fun z1 z2 h1 h2 h3 h z3 z4 => ?_) (fun z1 z2 h1 h2 h => ?_) (fun z1 z2 h1 h z => ?_) (fun z1 z2 h1 h z3 z4 => ?_) (fun z1 z2 h1 h z3 z4 => ?_) (fun z1 z2 h z => ?_) (fun z1 z2 h z3 z4 => ?_) (fun z1 z2 h z3 z4 => ?_) (fun z1 z2 => ?_))
  · rw [zi_lt e0] at z
    exact ⟨rfl, Or.inr ⟨fun q => by have := q.1; omega, rfl⟩⟩
  · rw [zi_lt e0] at z1
    rw [zi_le e17] at z2
    exact ⟨rfl, Or.inl ⟨⟨by omega, fun q => absurd q h4, fun q => absurd q h2, fun q => absurd q h1, fun q => absurd q h3⟩, rfl⟩⟩
  · subst h
    rw [zi_lt e1] at z
    exact ⟨rfl, Or.inr ⟨fun q => by have := q.2.1 rfl; omega, rfl⟩⟩
  · subst h
    rw [zi_gt e63] at z4
    exact ⟨rfl, Or.inr ⟨fun q => by have := q.2.1 rfl; omega, rfl⟩⟩
  · subst h
    rw [zi_lt e1] at z3
    rw [zi_gt e63] at z4
    exact ⟨rfl, Or.inl ⟨⟨by rw [e17]; omega, fun _ => by omega, fun q => absurd q n172, fun q => absurd q n171, fun q => absurd q n1710⟩, rfl⟩⟩
  · subst h
    refine ⟨_, m_isType (by omega), fun r μ1 hr => ?_⟩
    unfold mt_has at hr
    rw [hL] at hr
    obtain ⟨rfl, ⟨h, rfl⟩ | ⟨h, rfl⟩⟩ := hr
    · exact k107_68 (Or.inr rfl) ⟨rfl, Or.inl ⟨⟨by decide, fun q => absurd q n1017, fun q => absurd q n102, fun q => absurd q n101, fun _ => h⟩, rfl⟩⟩
    · exact k107_68 (Or.inl rfl) ⟨rfl, Or.inr ⟨fun q => h (q.2.2.2.2 rfl), rfl⟩⟩
  · subst h
    rw [zi_lt e0] at z
    exact ⟨rfl, Or.inr ⟨fun q => by have := q.2.2.1 rfl; omega, rfl⟩⟩
  · subst h
    rw [zi_gt e11] at z4
    exact ⟨rfl, Or.inr ⟨fun q => by have := q.2.2.1 rfl; omega, rfl⟩⟩
  · subst h
    rw [zi_lt e0] at z3
    rw [zi_gt e11] at z4
    exact ⟨rfl, Or.inl ⟨⟨by decide, fun q => absurd q n217, fun _ => by omega, fun q => absurd q n21, fun q => absurd q n210⟩, rfl⟩⟩
  · subst h
    exact ⟨rfl, Or.inl ⟨⟨by decide, fun q => absurd q n117, fun q => absurd q n12, fun _ => Or.inl z, fun q => absurd q n110⟩, rfl⟩⟩
  · subst h
    exact ⟨rfl, Or.inr ⟨fun q => (q.2.2.2.1 rfl).elim z3 z4, rfl⟩⟩
  · subst h
    exact ⟨rfl, Or.inl ⟨⟨by decide, fun q => absurd q n117, fun q => absurd q n12, fun _ => Or.inr z4, fun q => absurd q n110⟩, rfl⟩⟩
  · rw [zi_le e17] at z2
    exact ⟨rfl, Or.inr ⟨fun q => by have := q.1; omega, rfl⟩⟩
variable {P : Int32 → zm_u → Prop} {v3 v4 v5 : Int32}
theorem m_cp1 {t w n : Nat} (ht : t ≤ 11) (hw : w + n ≤ 40) : ∀ (j y : Nat) (μ : zm_u), y + j = n → μ 29 t = nI n → zV X d 108 147 [(0, .inr 22), (3, .inl v3), (4, .inl v4), (5, .inl v5), (6, .inl (nI (w + n))), (7, .inl (nI (t + 1)))] [] (mcp μ t w y n) (zpi P) →
    zV X d 108 159 [(0, .inr 22), (3, .inl v3), (4, .inl v4), (5, .inl v5), (6, .inl (nI (w + y))), (7, .inl (nI t)), (8, .inl (nI y))] [] μ (zpi P) := by
  intro j
  have et : (nI t).toInt = t := nI_t (by omega)
  have ct : (nI t).toNatClampNeg = t := nI_c (by omega)
  induction j with
  | zero =>
    intro y μ hy h29 hV
    have hy : y = n := by omega
    subst hy
    rw [mcp_end] at hV
    have hle : μ 29 (nI t).toNatClampNeg ≤ nI y := by rw [ct, h29]; exact Int32.le_refl _
    exact k108_159 (by rw [et]; omega) (fun _ => by rw [nI_1]; exact hV) (fun z => absurd hle z) (fun z => absurd hle z) (fun z => absurd hle z) (fun z => absurd hle z) (fun z => absurd hle z)
  | succ j ih =>
    intro y μ hy h29 hV
    have hle : ¬ μ 29 (nI t).toNatClampNeg ≤ nI y := by rw [ct, h29]; exact nI_ge (by omega) (by omega)
    have b1 : 0 ≤ ((40 : Int32) * nI t + nI y).toInt ∧ ((40 : Int32) * nI t + nI y).toInt < ((560 : Nat) : Int) := by rw [nI_40, nI_t (by omega)]; omega
    have b2 : 0 ≤ (nI (w + y)).toInt ∧ (nI (w + y)).toInt < ((40 : Nat) : Int) := by rw [nI_t (by omega)]; omega
    refine k108_159 (by rw [et]; omega) (fun z => absurd z hle) (fun _ => b1) (fun _ => b2) (fun _ => b1) (fun _ => b2) (fun _ => ?_)
    rw [nI_40, nI_c (by omega), nI_c (by omega), nI_1, nI_1, Nat.add_assoc]
    refine ih (y + 1) _ (by omega) (by rw [zm_up_row (by decide), zm_up_row (by decide)]; exact h29) ?_
    rw [mcp_step (by omega)]
    exact hV
theorem m_cpl {len : Nat} (hlen : len ≤ 12) : ∀ (r : sT) (i w : Nat) (μ : zm_u), i + r.length = len → μ 22 10 = nI len → (∀ (j n e : Nat), r[j]? = some (n, e) → μ 29 (i + j) = nI n) → w + su r ≤ 40 →
    zV X d 108 239 [(0, .inr 22), (4, .inl v4), (5, .inl v5), (7, .inl 0)] [] (zm_up (mcl μ i w r) 22 10 (nI len - v3)) (zpi P) →
    zV X d 108 147 [(0, .inr 22), (3, .inl v3), (4, .inl v4), (5, .inl v5), (6, .inl (nI w)), (7, .inl (nI i))] [] μ (zpi P) := by
  intro r
  induction r with
  | nil =>
    intro i w μ hi h10 h29 hw hV
    simp only [List.length_nil] at hi
    have hle : μ 22 10 ≤ nI i := by rw [h10]; exact nI_le (by omega) (by omega)
    refine k108_147 (fun _ => ?_) (fun z => absurd hle z)
    rw [h10]
    exact hV
  | cons q r ih =>
    obtain ⟨n, e⟩ := q
    intro i w μ hi h10 h29 hw hV
    simp only [List.length_cons] at hi
    rw [show su ((n, e) :: r) = n + su r by simp [su]] at hw
    have hle : ¬ μ 22 10 ≤ nI i := by rw [h10]; exact nI_ge (by omega) (by omega)
    refine k108_147 (fun z => absurd z hle) (fun _ => ?_)
    refine m_cp1 (t := i) (w := w) (n := n) (by omega) (by omega) n 0 μ (by omega) (h29 0 n e rfl) ?_
    refine ih (i + 1) (w + n) _ (by omega) (by rw [mcp_row (by decide) (by decide)]; exact h10) (fun j n' e' hj => ?_) (by omega) hV
    rw [mcp_row (by decide) (by decide), show i + 1 + j = i + (j + 1) by omega]
    exact h29 (j + 1) n' e' hj
theorem m_bk {b n : Nat} (hb : b ≤ 11) (hn : n ≤ 40) : ∀ (j y : Nat) (μ : zm_u), y + j = n → μ 22 10 = nI b → P (nI n) (zm_up (zm_up (zm_up (mbk μ (40 * b) y n) 29 b (nI n)) 30 b (v5 + 1)) 22 10 (nI (b + 1))) →
    zV X d 108 239 [(0, .inr 22), (4, .inl (nI n)), (5, .inl v5), (7, .inl (nI y))] [] μ (zpi P) := by
  intro j
  induction j with
  | zero =>
    intro y μ hy h10 hP
    have hy : y = n := by omega
    subst hy
    have hle : nI y ≤ nI y := Int32.le_refl _
    have b1 : 0 ≤ (μ 22 10).toInt ∧ (μ 22 10).toInt < ((14 : Nat) : Int) := by rw [h10, nI_t (by omega)]; omega
    rw [mbk_end] at hP
    refine k108_239 (fun _ => b1) (fun _ => b1) (fun _ => ?_) (fun z => absurd hle z) (fun z => absurd hle z) (fun z => absurd hle z) (fun z => absurd hle z) (fun z => absurd hle z)
    rw [h10, nI_c (by omega), nI_1]
    exact hP
  | succ j ih =>
    intro y μ hy h10 hP
    have hle : ¬ nI n ≤ nI y := nI_ge (by omega) (by omega)
    have b1 : 0 ≤ (nI y).toInt ∧ (nI y).toInt < ((40 : Nat) : Int) := by rw [nI_t (by omega)]; omega
    have b2 : 0 ≤ ((40 : Int32) * μ 22 10 + nI y).toInt ∧ ((40 : Int32) * μ 22 10 + nI y).toInt < ((560 : Nat) : Int) := by rw [h10, nI_40, nI_t (by omega)]; omega
    refine k108_239 (fun z => absurd z hle) (fun z => absurd z hle) (fun z => absurd z hle) (fun _ => b1) (fun _ => b2) (fun _ => b1) (fun _ => b2) (fun _ => ?_)
    rw [h10, nI_40, nI_c (by omega), nI_c (by omega), nI_1]
    refine ih (y + 1) _ (by omega) (by rw [zm_up_row (by decide), zm_up_row (by decide)]; exact h10) ?_
    rw [mbk_step (by omega)]
    exact hP
end MM2

section MK
variable {X : zm_T} {d L : Nat} {μ : zm_u} {o a x t : Int32} {st : sT}
theorem m_height (hd : 1 ≤ d) : zI X d 109 [.inr 22] μ (fun r μ' => μ' = μ ∧ r = μ 22 10) := zI_at [0] hd rfl (k109_0 ⟨rfl, rfl⟩)
theorem m_drop (hd : 1 ≤ d) (h : RS μ st) : zI X d 110 [.inr 22] μ (fun r μ' => (st = [] ∧ r = -1 ∧ μ' = μ) ∨ ∃ (n e : Nat) (s : sT), st = s ++ [(n, e)] ∧ r = nI s.length ∧ μ' = zm_up μ 22 10 (nI s.length)) := by
  have h1 := h.1
  have h10 := h.2.1
  rcases List.eq_nil_or_concat st with rfl | ⟨s, ⟨n, e⟩, rfl⟩
  · exact zI_at [0] hd rfl (k110_0 (fun z => absurd h10 z) (fun _ => Or.inl ⟨rfl, rfl, rfl⟩))
  · rw [List.concat_eq_append] at h h1 h10 ⊢
    have hlen : (s ++ [(n, e)]).length = s.length + 1 := by simp
    rw [hlen] at h1 h10
    refine zI_at [0] hd rfl (k110_0 (fun _ => Or.inr ⟨n, e, s, rfl, ?_, ?_⟩) (fun z => ?_))
    · rw [h10, nI_pr]
    · rw [h10, nI_pr]
    · rw [h10] at z
      exact absurd z (nI_ne0 (by omega) (by omega))

def mtk (μ : zm_u) (b w y n : Nat) : zm_u := fun c z => if c = 27 ∧ 40 * w + y ≤ z ∧ z < 40 * w + n then μ 27 (40 * b + (z - 40 * w)) else if c = 28 ∧ 40 * w + y ≤ z ∧ z < 40 * w + n then μ 28 (40 * b + (z - 40 * w)) else μ c z
theorem mtk_row {b w y n c : Nat} (h1 : c ≠ 27) (h2 : c ≠ 28) : mtk μ b w y n c = μ c := by
  funext z
  unfold mtk
  rw [if_neg (by omega), if_neg (by omega)]
theorem mtk_end {b w n : Nat} : mtk μ b w n n = μ := by
  funext c z
  unfold mtk
  rw [if_neg (by omega), if_neg (by omega)]
theorem mtk_step {b w y n : Nat} (hb : b < w) (hn : n ≤ 40) (hy : y < n) : mtk (zm_up (zm_up μ 27 (40 * w + y) (μ 27 (40 * b + y))) 28 (40 * w + y) (μ 28 (40 * b + y))) b w (y + 1) n = mtk μ b w y n := by
  funext c z
  unfold mtk
  rw [zm_up_at, zm_up_at, zm_up_at, zm_up_at, zm_up_at, zm_up_at]
  by_cases h31 : c = 27
  · subst h31
    by_cases hz : z = 40 * w + y
    · subst hz
      rw [if_neg (by omega), if_neg (by omega), if_neg (by omega), if_pos (by omega), if_pos (by omega), show 40 * w + y - 40 * w = y by omega]
    · by_cases hr : 40 * w + (y + 1) ≤ z ∧ z < 40 * w + n
      · rw [if_pos (by omega), if_neg (by omega), if_neg (by omega), if_pos (by omega)]
      · rw [if_neg (by omega), if_neg (by omega), if_neg (by omega), if_neg (by omega), if_neg (by omega), if_neg (by omega)]
  · by_cases h32 : c = 28
    · subst h32
      by_cases hz : z = 40 * w + y
      · subst hz
        rw [if_neg (by omega), if_neg (by omega), if_pos (by omega), if_neg (by omega), if_pos (by omega), show 40 * w + y - 40 * w = y by omega]
      · by_cases hr : 40 * w + (y + 1) ≤ z ∧ z < 40 * w + n
        · rw [if_neg (by omega), if_pos (by omega), if_neg (by omega), if_neg (by omega), if_neg (by omega), if_pos (by omega)]
        · rw [if_neg (by omega), if_neg (by omega), if_neg (by omega), if_neg (by omega), if_neg (by omega), if_neg (by omega)]
    · rw [if_neg (by omega), if_neg (by omega), if_neg (by omega), if_neg (by omega), if_neg (by omega), if_neg (by omega)]
theorem m_tk_loop {P : zm_u → Prop} {b w n : Nat} (hb : b ≤ 11) (hw : w = 12 ∨ w = 13) (hn : n ≤ 40) : ∀ (j y : Nat) (μ : zm_u), y + j = n → μ 22 10 = nI b → μ 29 w = nI n → P (mtk μ b w y n) → zV X d 111 27 [(0, .inr 22), (1, .inl (nI w)), (2, .inl (nI y))] [] μ (zpo P) := by
  intro j
  have cw : (nI w).toNatClampNeg = w := nI_c (by omega)
  have b0 : 0 ≤ (nI w).toInt ∧ (nI w).toInt < ((14 : Nat) : Int) := by rw [nI_t (by omega)]; omega
  induction j with
  | zero =>
    intro y μ hy h10 h29 hP
    have hy : y = n := by omega
    subst hy
    rw [mtk_end] at hP
    have hle : μ 29 (nI w).toNatClampNeg ≤ nI y := by rw [cw, h29]; exact Int32.le_refl _
    exact k111_27 b0 (fun _ => hP) (fun z => absurd hle z) (fun z => absurd hle z) (fun z => absurd hle z) (fun z => absurd hle z) (fun z => absurd hle z)
  | succ j ih =>
    intro y μ hy h10 h29 hP
    have hle : ¬ μ 29 (nI w).toNatClampNeg ≤ nI y := by rw [cw, h29]; exact nI_ge (by omega) (by omega)
    have b1 : 0 ≤ ((40 : Int32) * μ 22 10 + nI y).toInt ∧ ((40 : Int32) * μ 22 10 + nI y).toInt < ((560 : Nat) : Int) := by rw [h10, nI_40, nI_t (by omega)]; omega
    have b2 : 0 ≤ ((40 : Int32) * nI w + nI y).toInt ∧ ((40 : Int32) * nI w + nI y).toInt < ((560 : Nat) : Int) := by rw [nI_40, nI_t (by omega)]; omega
    refine k111_27 b0 (fun z => absurd z hle) (fun _ => b1) (fun _ => b2) (fun _ => b1) (fun _ => b2) (fun _ => ?_)
    rw [h10, nI_40, nI_40, nI_c (by omega), nI_c (by omega), nI_1]
    refine ih (y + 1) _ (by omega) (by rw [zm_up_row (by decide), zm_up_row (by decide)]; exact h10) (by rw [zm_up_row (by decide), zm_up_row (by decide)]; exact h29) ?_
    rw [mtk_step (by omega) hn (by omega)]
    exact hP
def ms_take (μ : zm_u) (b w n : Nat) : zm_u := mtk (zm_up (zm_up μ 22 10 (nI b)) 29 w (nI n)) b w 0 n
theorem m_takeLast (hd : 1 ≤ d) (h : RS μ st) {n e w : Nat} {r : sT} (hr : st = r ++ [(n, e)]) (hw : w = 12 ∨ w = 13) : zO X d 111 [.inr 22, .inl (nI w)] μ (fun μ' => μ' = ms_take μ r.length w n) := by
  have h1 := h.1
  have h10 := h.2.1
  have hl : st.length = r.length + 1 := by rw [hr]; simp
  have he : st[r.length]? = some (n, e) := by rw [hr]; simp
  obtain ⟨⟨g1, g2, _⟩, g3, _⟩ := h.2.2 _ _ _ he
  rw [hl] at h10
  have e1 : μ 22 10 - 1 = nI r.length := by rw [h10, nI_pr]
  refine zO_at [0, 1] hd rfl (k111_0 (by rw [e1, nI_t (by omega)]; omega) (by rw [nI_t (by omega)]; omega) ?_)
  rw [e1, nI_c (by omega), nI_c (by omega), g3]
  refine m_tk_loop (b := r.length) (w := w) (n := n) (by omega) hw (by omega) n 0 _ (by omega) ?_ ?_ rfl
  · rw [zm_up_row (by decide), zm_up_self]; simp [upd]
  · rw [zm_up_self]; simp [upd]
theorem m_function (hd : 2 ≤ d) (h : RS μ st) (hL : (μ 22 0).toInt = L) : zI X d 112 [.inr 22, .inl t] μ (fun x μ' => (¬ (st ≠ [] ∧ 0 ≤ t.toInt ∧ t.toInt < L) ∧ x = 0 ∧ μ' = μ) ∨ ((0 ≤ t.toInt ∧ t.toInt < L) ∧ ∃ (n e : Nat) (r : sT), st = r ++ [(n, e)] ∧ x = 1 ∧ μ' = zm_up (ms_take μ r.length 12 n) 22 11 t)) := by
  have h1 := h.1
  have h10 := h.2.1
  rcases List.eq_nil_or_concat st with rfl | ⟨s, ⟨n, e⟩, rfl⟩
  · exact zI_at [0, 1] (by omega) rfl (k112_0 (fun _ => Or.inl ⟨fun q => q.1 rfl, rfl, rfl⟩) (fun z => absurd h10 z))
  · rw [List.concat_eq_append] at h h1 h10 ⊢
    have hlen : (s ++ [(n, e)]).length = s.length + 1 := by simp
    rw [hlen] at h1 h10
    refine zI_at [0, 1] (by omega) rfl (k112_0 (fun z => ?_) (fun _ => ⟨_, m_isType (by omega), fun x μ2 hx => ?_⟩))
    · rw [h10] at z
      exact absurd z (nI_ne0 (by omega) (by omega))
    · unfold mt_has at hx
      rw [hL] at hx
      obtain ⟨rfl, ⟨ht, rfl⟩ | ⟨ht, rfl⟩⟩ := hx
      · refine k112_12 (fun _ => ⟨_, m_takeLast (w := 12) (by omega) h rfl (Or.inl rfl), fun μ3 hx => ?_⟩) (fun z => absurd z zn_10)
        obtain rfl := hx
        exact k112_23 (Or.inr ⟨ht, n, e, s, rfl, rfl, rfl⟩)
      · exact k112_12 (fun z => absurd rfl z) (fun _ => Or.inl ⟨fun q => ht q.2, rfl, rfl⟩)
theorem m_main (hd : 2 ≤ d) (h : RS μ st) (hL : (μ 22 0).toInt = L) : zI X d 113 [.inr 22, .inl t] μ (fun x μ' => (¬ (st ≠ [] ∧ 0 ≤ t.toInt ∧ t.toInt < L) ∧ x = 0 ∧ μ' = μ) ∨ ((0 ≤ t.toInt ∧ t.toInt < L) ∧ ∃ (n e : Nat) (r : sT), st = r ++ [(n, e)] ∧ x = 1 ∧ μ' = zm_up (ms_take μ r.length 13 n) 22 12 t)) := by
  have h1 := h.1
  have h10 := h.2.1
  rcases List.eq_nil_or_concat st with rfl | ⟨s, ⟨n, e⟩, rfl⟩
  · exact zI_at [0, 1] (by omega) rfl (k113_0 (fun _ => Or.inl ⟨fun q => q.1 rfl, rfl, rfl⟩) (fun z => absurd h10 z))
  · rw [List.concat_eq_append] at h h1 h10 ⊢
    have hlen : (s ++ [(n, e)]).length = s.length + 1 := by simp
    rw [hlen] at h1 h10
    refine zI_at [0, 1] (by omega) rfl (k113_0 (fun z => ?_) (fun _ => ⟨_, m_isType (by omega), fun x μ2 hx => ?_⟩))
    · rw [h10] at z
      exact absurd z (nI_ne0 (by omega) (by omega))
    · unfold mt_has at hx
      rw [hL] at hx
      obtain ⟨rfl, ⟨ht, rfl⟩ | ⟨ht, rfl⟩⟩ := hx
      · refine k113_12 (fun _ => ⟨_, m_takeLast (w := 13) (by omega) h rfl (Or.inr rfl), fun μ3 hx => ?_⟩) (fun z => absurd z zn_10)
        obtain rfl := hx
        exact k113_23 (Or.inr ⟨ht, n, e, s, rfl, rfl, rfl⟩)
      · exact k113_12 (fun z => absurd rfl z) (fun _ => Or.inl ⟨fun q => ht q.2, rfl, rfl⟩)
end MK

def RT (L : Nat) (μ : zm_u) (st : sT) : Prop := CS μ st ∧ RS μ st ∧ (∀ (i n e : Nat), st[i]? = some (n, e) → Tm L μ e (40 * i) (su (st.take i)) n) ∧
  (∃ n e : Nat, n ≤ 40 ∧ e ≤ 6 ∧ μ 2 6 = nI (480 + n - 1) ∧ Tm L μ e 480 480 n) ∧ ∃ n e : Nat, n ≤ 40 ∧ e ≤ 6 ∧ μ 2 7 = nI (520 + n - 1) ∧ Tm L μ e 520 520 n
section RTs
variable {L L' : Nat} {μ μ' : zm_u} {o a x t : Int32} {st : sT}
theorem RT_frame (hL : L ≤ L') (h : RT L μ st) (h2 : ∀ i, 4 ≤ i → i ≤ 7 → μ' 2 i = μ 2 i) (h9 : μ' 9 = μ 9) (h10 : μ' 10 = μ 10) (h11 : μ' 11 = μ 11) (h12 : μ' 12 = μ 12) (h27 : μ' 27 = μ 27) (h28 : μ' 28 = μ 28) (h29 : μ' 29 = μ 29) (h30 : μ' 30 = μ 30) (h22 : μ' 22 10 = μ 22 10) : RT L' μ' st := by
  have mv : ∀ {e p u n : Nat}, Tm L μ e p u n → Tm L' μ' e p u n := by
    intro e p u n hT
    have hp := Tm_pos hT
    exact Tm_move hL e p u p u n hp.2.2 hp.2.1 (fun i _ => by rw [h27, h28]; exact ⟨rfl, rfl⟩) (fun i _ => by rw [h9, h10, h11]; exact ⟨rfl, rfl, rfl⟩) hT
  obtain ⟨⟨a1, a2, a3, a4⟩, ⟨b1, b2, b3⟩, c1, ⟨n, e, d1, d2, d3, d4⟩, ⟨n', e', f1, f2, f3, f4⟩⟩ := h
  refine ⟨⟨a1, ?_, ?_, fun i n e hi => ?_⟩, ⟨b1, ?_, fun i n e hi => ?_⟩, fun i n e hi => mv (c1 i n e hi), ⟨n, e, d1, d2, ?_, mv d4⟩, ⟨n', e', f1, f2, ?_, mv f4⟩⟩
  · rw [h2 4 (by omega) (by omega)]; exact a2
  · rw [h2 5 (by omega) (by omega)]; exact a3
  · rw [h11, h12]; exact a4 i n e hi
  · rw [h22]; exact b2
  · rw [h29, h30]; exact b3 i n e hi
  · rw [h2 6 (by omega) (by omega)]; exact d3
  · rw [h2 7 (by omega) (by omega)]; exact f3
theorem ms_row {r : sT} {i n e c : Nat} (h22 : c ≠ 22) (h27 : c ≠ 27) (h28 : c ≠ 28) (h29 : c ≠ 29) (h30 : c ≠ 30) (h31 : c ≠ 31) (h32 : c ≠ 32) : ms_put μ o a r i n e c = μ c := by
  unfold ms_put
  rw [zm_up_row h22, zm_up_row h30, zm_up_row h29, mbk_row h27 h28, zm_up_row h22, mcl_row h31 h32, zm_up_row h32, zm_up_row h31]
theorem ms_22 {r : sT} {i n e : Nat} : ms_put μ o a r i n e 22 = upd (μ 22) 10 (nI (i + 1)) := by
  unfold ms_put
  rw [zm_up_self, zm_up_row (by decide), zm_up_row (by decide), mbk_row (by decide) (by decide), zm_up_self, mcl_row (by decide) (by decide), zm_up_row (by decide), zm_up_row (by decide)]
  funext z
  unfold upd
  by_cases h : z = 10
  · rw [if_pos h, if_pos h]
  · rw [if_neg h, if_neg h, if_neg h]
theorem ms_29 {r : sT} {i n e : Nat} : ms_put μ o a r i n e 29 = upd (μ 29) i (nI n) := by
  unfold ms_put
  rw [zm_up_row (by decide), zm_up_row (by decide), zm_up_self, mbk_row (by decide) (by decide), zm_up_row (by decide), mcl_row (by decide) (by decide), zm_up_row (by decide), zm_up_row (by decide)]
theorem ms_30 {r : sT} {i n e : Nat} : ms_put μ o a r i n e 30 = upd (μ 30) i (nI e) := by
  unfold ms_put
  rw [zm_up_row (by decide), zm_up_self, zm_up_row (by decide), mbk_row (by decide) (by decide), zm_up_row (by decide), mcl_row (by decide) (by decide), zm_up_row (by decide), zm_up_row (by decide)]
theorem ms_27 {r : sT} {i n e z : Nat} : ms_put μ o a r i n e 27 z = if 40 * i ≤ z ∧ z < 40 * i + n then mcl (zm_up (zm_up μ 31 0 o) 32 0 a) i 1 r 31 (z - 40 * i) else μ 27 z := by
  unfold ms_put
  rw [zm_up_row (by decide), zm_up_row (by decide), zm_up_row (by decide)]
  unfold mbk
  rw [zm_up_row (show 31 ≠ 22 by decide), zm_up_row (show 27 ≠ 22 by decide), mcl_row (c := 27) (by decide) (by decide), zm_up_row (show 27 ≠ 32 by decide), zm_up_row (show 27 ≠ 31 by decide)]
  by_cases h : 40 * i ≤ z ∧ z < 40 * i + n
  · rw [if_pos (by omega), if_pos h]
  · rw [if_neg (by omega), if_neg (by omega), if_neg h]
theorem ms_28 {r : sT} {i n e z : Nat} : ms_put μ o a r i n e 28 z = if 40 * i ≤ z ∧ z < 40 * i + n then mcl (zm_up (zm_up μ 31 0 o) 32 0 a) i 1 r 32 (z - 40 * i) else μ 28 z := by
  unfold ms_put
  rw [zm_up_row (by decide), zm_up_row (by decide), zm_up_row (by decide)]
  unfold mbk
  rw [zm_up_row (show 32 ≠ 22 by decide), zm_up_row (show 28 ≠ 22 by decide), mcl_row (c := 28) (by decide) (by decide), zm_up_row (show 28 ≠ 32 by decide), zm_up_row (show 28 ≠ 31 by decide)]
  by_cases h : 40 * i ≤ z ∧ z < 40 * i + n
  · rw [if_neg (by omega), if_pos (by omega), if_pos h]
  · rw [if_neg (by omega), if_neg (by omega), if_neg h]
theorem cs_row {w n e i c : Nat} (h2 : c ≠ 2) (h9 : c ≠ 9) (h10 : c ≠ 10) (h11 : c ≠ 11) (h12 : c ≠ 12) : cs_put μ o a w n e i c = μ c := by
  unfold cs_put
  rw [zm_up_row h2, zm_up_row h2, zm_up_row h12, zm_up_row h11, zm_up_row h10, zm_up_row h9]
theorem cs_9 {w n e i : Nat} : cs_put μ o a w n e i 9 = upd (μ 9) w o := by
  unfold cs_put
  rw [zm_up_row (by decide), zm_up_row (by decide), zm_up_row (by decide), zm_up_row (by decide), zm_up_row (by decide), zm_up_self]
theorem cs_10 {w n e i : Nat} : cs_put μ o a w n e i 10 = upd (μ 10) w a := by
  unfold cs_put
  rw [zm_up_row (by decide), zm_up_row (by decide), zm_up_row (by decide), zm_up_row (by decide), zm_up_self, zm_up_row (by decide)]
theorem cs_11 {w n e i : Nat} : cs_put μ o a w n e i 11 = upd (μ 11) w (nI n) := by
  unfold cs_put
  rw [zm_up_row (by decide), zm_up_row (by decide), zm_up_row (by decide), zm_up_self, zm_up_row (by decide), zm_up_row (by decide)]
theorem cs_12 {w n e i : Nat} : cs_put μ o a w n e i 12 = upd (μ 12) i (nI e) := by
  unfold cs_put
  rw [zm_up_row (by decide), zm_up_row (by decide), zm_up_self, zm_up_row (by decide), zm_up_row (by decide), zm_up_row (by decide)]
theorem cs_2 {w n e i z : Nat} : cs_put μ o a w n e i 2 z = if z = 5 then nI (i + 1) else if z = 4 then nI (w + 1) else μ 2 z := by
  unfold cs_put
  rw [zm_up_self, zm_up_self, zm_up_row (by decide), zm_up_row (by decide), zm_up_row (by decide), zm_up_row (by decide)]
  rfl
end RTs

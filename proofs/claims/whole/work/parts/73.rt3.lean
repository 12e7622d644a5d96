section RT3
variable {L : Nat} {μ μ' μ2 : zm_u} {o a x t : Int32} {st s : sT}

theorem RT_less {n e : Nat} (h : RT L μ (s ++ [(n, e)])) (h4 : μ2 2 4 = nI (su s)) (h5 : μ2 2 5 = nI s.length) (h22 : μ2 22 10 = nI s.length) (r11 : ∀ z, z < 480 → μ2 11 z = μ 11 z) (r12 : μ2 12 = μ 12) (r29 : ∀ z, z < 12 → μ2 29 z = μ 29 z) (r30 : μ2 30 = μ 30)
    (stay : ∀ (e' p u n' : Nat), Tm L μ e' p u n' → p + n' ≤ 480 → u + n' ≤ 480 → Tm L μ2 e' p u n')
    (hb : ∃ n e : Nat, n ≤ 40 ∧ e ≤ 6 ∧ μ2 2 6 = nI (480 + n - 1) ∧ Tm L μ2 e 480 480 n) (hm : ∃ n e : Nat, n ≤ 40 ∧ e ≤ 6 ∧ μ2 2 7 = nI (520 + n - 1) ∧ Tm L μ2 e 520 520 n) : RT L μ2 s := by
  obtain ⟨hC, hR, hT, -, -⟩ := h
  have hsu := CS_su hC
  have hl : (s ++ [(n, e)]).length = s.length + 1 := by simp
  have h12 := hC.1
  rw [hl] at h12
  have ent : ∀ (i n' e' : Nat), s[i]? = some (n', e') → i < s.length ∧ (s ++ [(n, e)])[i]? = some (n', e') ∧ (s ++ [(n, e)]).take i = s.take i := by
    intro i n' e' hi
    have := (List.getElem?_eq_some_iff.mp hi).1
    exact ⟨this, by rw [List.getElem?_append_left this]; exact hi, List.take_append_of_le_length (by omega)⟩
  have seg : ∀ (i n' e' : Nat), s[i]? = some (n', e') → su (s.take i) + n' ≤ 480 := by
    intro i n' e' hi
    obtain ⟨q1, q2, q3⟩ := ent i n' e' hi
    have q4 := su_tk q2
    have q5 := su_td (s ++ [(n, e)]) (i + 1)
    rw [q3] at q4
    omega
  refine ⟨⟨by omega, h4, h5, fun i n' e' hi => ?_⟩, ⟨by omega, h22, fun i n' e' hi => ?_⟩, fun i n' e' hi => ?_, hb, hm⟩
  · obtain ⟨q1, q2, q3⟩ := ent i n' e' hi
    obtain ⟨g1, g2, g3⟩ := hC.2.2.2 i n' e' q2
    have := seg i n' e' hi
    rw [q3] at g2
    exact ⟨g1, by rw [r11 _ (by omega)]; exact g2, by rw [r12]; exact g3⟩
  · obtain ⟨q1, q2, q3⟩ := ent i n' e' hi
    obtain ⟨g1, g2, g3⟩ := hR.2.2 i n' e' q2
    exact ⟨g1, by rw [r29 _ (by omega)]; exact g2, by rw [r30]; exact g3⟩
  · obtain ⟨q1, q2, q3⟩ := ent i n' e' hi
    have g1 := (hR.2.2 i n' e' q2).1
    have := seg i n' e' hi
    have hT2 := hT i n' e' q2
    rw [q3] at hT2
    exact stay _ _ _ _ hT2 (by omega) this
theorem RT_drop {n e : Nat} (h : RT L μ (s ++ [(n, e)])) : RT L (zm_up (cs_drop μ (su s) s.length) 22 10 (nI s.length)) s := by
  have hr : ∀ c, c ≠ 2 → c ≠ 22 → zm_up (cs_drop μ (su s) s.length) 22 10 (nI s.length) c = μ c := by
    intro c h2 h22
    unfold cs_drop
    rw [zm_up_row h22, zm_up_row h2, zm_up_row h2]
  have stay : ∀ (e' p u n' : Nat), Tm L μ e' p u n' → Tm L (zm_up (cs_drop μ (su s) s.length) 22 10 (nI s.length)) e' p u n' := by
    intro e' p u n' hT
    have hpos := Tm_pos hT
    refine Tm_move (Nat.le_refl L) e' p u p u n' hpos.2.2 hpos.2.1 (fun j hj => ?_) (fun j hj => ?_) hT
    · rw [hr 27 (by decide) (by decide), hr 28 (by decide) (by decide)]
      exact ⟨rfl, rfl⟩
    · rw [hr 9 (by decide) (by decide), hr 10 (by decide) (by decide), hr 11 (by decide) (by decide)]
      exact ⟨rfl, rfl, rfl⟩
  have h0 := h
  obtain ⟨hC, hR, hT, ⟨nb, eb, d1, d2, d3, d4⟩, ⟨nm, em, f1, f2, f3, f4⟩⟩ := h
  refine RT_less h0 ?_ ?_ ?_ (fun z _ => by rw [hr 11 (by decide) (by decide)]) (hr 12 (by decide) (by decide)) (fun z _ => by rw [hr 29 (by decide) (by decide)]) (hr 30 (by decide) (by decide)) (fun _ _ _ _ q _ _ => stay _ _ _ _ q) ⟨nb, eb, d1, d2, ?_, stay _ _ _ _ d4⟩ ⟨nm, em, f1, f2, ?_, stay _ _ _ _ f4⟩
  · rw [zm_up_row (by decide)]
    unfold cs_drop
    rw [zm_up_self, zm_up_self]
    simp [upd]
  · rw [zm_up_row (by decide)]
    unfold cs_drop
    rw [zm_up_self, zm_up_self]
    simp [upd]
  · rw [zm_up_self]
    simp [upd]
  · rw [zm_up_row (by decide)]
    unfold cs_drop
    rw [zm_up_self, zm_up_self]
    simp only [upd]
    rw [if_neg (by decide), if_neg (by decide)]
    exact d3
  · rw [zm_up_row (by decide)]
    unfold cs_drop
    rw [zm_up_self, zm_up_self]
    simp only [upd]
    rw [if_neg (by decide), if_neg (by decide)]
    exact f3

theorem RT_take {n e w f g g' : Nat} (hw : w = 12 ∧ f = 6 ∨ w = 13 ∧ f = 7) (hg' : g' ≠ 10) (hg : g < 6) (h : RT L μ (s ++ [(n, e)])) :
    RT L (zm_up (ms_take (zm_up (zm_up (cs_take μ (su s) (40 * w) n s.length) 2 f (nI (40 * w + n - 1))) 0 g t) s.length w n) 22 g' t) s := by
  have h0 := h
  obtain ⟨hC, hR, hT, ⟨nb, eb, d1, d2, d3, d4⟩, ⟨nm, em, f1, f2, f3, f4⟩⟩ := h
  have hsu := CS_su hC
  have hl : (s ++ [(n, e)]).length = s.length + 1 := by simp
  have h12 := hC.1
  rw [hl] at h12
  have he : (s ++ [(n, e)])[s.length]? = some (n, e) := by simp
  have htk : (s ++ [(n, e)]).take s.length = s := by simp
  have hlast := hT _ _ _ he
  rw [htk] at hlast
  obtain ⟨⟨g1, g2, g3⟩, _⟩ := hC.2.2.2 _ _ _ he
  have hsu2 : su (s ++ [(n, e)]) = su s + n := by simp [su]
  generalize hμ2 : zm_up (ms_take (zm_up (zm_up (cs_take μ (su s) (40 * w) n s.length) 2 f (nI (40 * w + n - 1))) 0 g t) s.length w n) 22 g' t = μ2
  have rc : ∀ c z, c = 9 ∨ c = 10 ∨ c = 11 → μ2 c z = if 40 * w ≤ z ∧ z < 40 * w + n then μ c (su s + (z - 40 * w)) else μ c z := by
    intro c z hc
    rw [← hμ2, zm_up_row (by omega)]
    unfold ms_take
    rw [mtk_row (by omega) (by omega), zm_up_row (by omega), zm_up_row (by omega), zm_up_row (by omega), zm_up_row (by omega)]
    unfold cs_take cs_drop
    rw [zm_up_row (by omega), zm_up_row (by omega)]
    unfold cs_cp
    by_cases hz : 40 * w ≤ z ∧ z < 40 * w + n
    · rw [if_pos ⟨hc, hz⟩, if_pos hz]
    · rw [if_neg (fun q => hz q.2), if_neg hz]
  have rr : ∀ c z, c = 27 ∨ c = 28 → μ2 c z = if 40 * w ≤ z ∧ z < 40 * w + n then μ c (40 * s.length + (z - 40 * w)) else μ c z := by
    intro c z hc
    have base : ∀ c', c' = 27 ∨ c' = 28 → (zm_up (zm_up (zm_up (zm_up (cs_take μ (su s) (40 * w) n s.length) 2 f (nI (40 * w + n - 1))) 0 g t) 22 10 (nI s.length)) 29 w (nI n)) c' = μ c' := by
      intro c' hc'
      funext y
      rw [zm_up_row (by omega), zm_up_row (by omega), zm_up_row (by omega), zm_up_row (by omega)]
      unfold cs_take cs_drop
      rw [zm_up_row (by omega), zm_up_row (by omega)]
      unfold cs_cp
      rw [if_neg (by omega)]
    rw [← hμ2, zm_up_row (by omega)]
    unfold ms_take
    unfold mtk
    rw [base 27 (Or.inl rfl), base 28 (Or.inr rfl), base c hc]
    by_cases hz : 40 * w ≤ z ∧ z < 40 * w + n
    · rcases hc with rfl | rfl
      · rw [if_pos (by omega), if_pos hz]
      · rw [if_neg (by omega), if_pos (by omega), if_pos hz]
    · rw [if_neg (by omega), if_neg (by omega), if_neg hz]
  have ro : ∀ c, c = 12 ∨ c = 30 → μ2 c = μ c := by
    intro c hc
    funext z
    rw [← hμ2, zm_up_row (by omega)]
    unfold ms_take
    rw [mtk_row (by omega) (by omega), zm_up_row (by omega), zm_up_row (by omega), zm_up_row (by omega), zm_up_row (by omega)]
    unfold cs_take cs_drop
    rw [zm_up_row (by omega), zm_up_row (by omega)]
    unfold cs_cp
    rw [if_neg (by omega)]
  have r29 : ∀ z, z < 12 → μ2 29 z = μ 29 z := by
    intro z hz
    rw [← hμ2, zm_up_row (by decide)]
    unfold ms_take
    rw [mtk_row (by decide) (by decide), zm_up_self, zm_up_row (by decide), zm_up_row (by decide), zm_up_row (by decide)]
    simp only [upd]
    rw [if_neg (by omega)]
    unfold cs_take cs_drop
    rw [zm_up_row (by decide), zm_up_row (by decide)]
    unfold cs_cp
    rw [if_neg (by omega)]
  have r2 : ∀ z, μ2 2 z = if z = f then nI (40 * w + n - 1) else if z = 5 then nI s.length else if z = 4 then nI (su s) else μ 2 z := by
    intro z
    rw [← hμ2, zm_up_row (by decide)]
    unfold ms_take
    rw [mtk_row (by decide) (by decide), zm_up_row (by decide), zm_up_row (by decide), zm_up_row (by decide), zm_up_self]
    unfold cs_take cs_drop
    rw [zm_up_self, zm_up_self]
    simp only [upd]
    have : cs_cp μ (su s) (40 * w) n 2 z = μ 2 z := by
      unfold cs_cp
      rw [if_neg (by omega)]
    rw [this]
  have r22 : μ2 22 10 = nI s.length := by
    rw [← hμ2, zm_up_self]
    unfold ms_take
    rw [mtk_row (by decide) (by decide), zm_up_row (by decide), zm_up_self]
    simp only [upd]
    rw [if_neg (fun q => hg' q.symm)]
    simp
  clear hμ2
  have stay : ∀ (e' p u n' : Nat), Tm L μ e' p u n' → (p + n' ≤ 40 * w ∨ 40 * w + n ≤ p) → (u + n' ≤ 40 * w ∨ 40 * w + n ≤ u) → Tm L μ2 e' p u n' := by
    intro e' p u n' hT' hp hu
    have hpos := Tm_pos hT'
    refine Tm_move (Nat.le_refl L) e' p u p u n' hpos.2.2 hpos.2.1 (fun j hj => ?_) (fun j hj => ?_) hT'
    · rw [rr 27 _ (Or.inl rfl), rr 28 _ (Or.inr rfl), if_neg (by omega), if_neg (by omega)]
      exact ⟨rfl, rfl⟩
    · rw [rc 9 _ (Or.inl rfl), rc 10 _ (Or.inr (Or.inl rfl)), rc 11 _ (Or.inr (Or.inr rfl)), if_neg (by omega), if_neg (by omega), if_neg (by omega)]
      exact ⟨rfl, rfl, rfl⟩
  have moved : Tm L μ2 e (40 * w) (40 * w) n := by
    refine Tm_move (Nat.le_refl L) e (40 * s.length) (su s) (40 * w) (40 * w) n (by omega) (by omega) (fun j hj => ?_) (fun j hj => ?_) hlast
    · rw [rr 27 _ (Or.inl rfl), rr 28 _ (Or.inr rfl), if_pos (by omega), if_pos (by omega), show 40 * w + j - 40 * w = j by omega]
      exact ⟨rfl, rfl⟩
    · rw [rc 9 _ (Or.inl rfl), rc 10 _ (Or.inr (Or.inl rfl)), rc 11 _ (Or.inr (Or.inr rfl)), if_pos (by omega), if_pos (by omega), if_pos (by omega), show 40 * w + j - 40 * w = j by omega]
      exact ⟨rfl, rfl, rfl⟩
  refine RT_less h0 ?_ ?_ r22 (fun z hz => ?_) (ro 12 (Or.inl rfl)) r29 (ro 30 (Or.inr rfl)) (fun _ _ _ _ q q1 q2 => stay _ _ _ _ q (Or.inl (by omega)) (Or.inl (by omega))) ?_ ?_
  · rw [r2, if_neg (by omega), if_neg (by omega), if_pos rfl]
  · rw [r2, if_neg (by omega), if_pos rfl]
  · rw [rc 11 _ (Or.inr (Or.inr rfl)), if_neg (by omega)]
  · rcases hw with ⟨rfl, rfl⟩ | ⟨rfl, rfl⟩
    · exact ⟨n, e, g2, g3, by rw [r2, if_pos rfl], moved⟩
    · exact ⟨nb, eb, d1, d2, by rw [r2, if_neg (by omega), if_neg (by omega), if_neg (by omega)]; exact d3, stay _ _ _ _ d4 (Or.inl (by omega)) (Or.inl (by omega))⟩
  · rcases hw with ⟨rfl, rfl⟩ | ⟨rfl, rfl⟩
    · exact ⟨nm, em, f1, f2, by rw [r2, if_neg (by omega), if_neg (by omega), if_neg (by omega)]; exact f3, stay _ _ _ _ f4 (Or.inr (by omega)) (Or.inr (by omega))⟩
    · exact ⟨n, e, g2, g3, by rw [r2, if_pos rfl], moved⟩
end RT3

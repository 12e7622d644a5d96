section RT2
variable {L L' : Nat} {μ μ' : zm_u} {o a x t : Int32} {st : sT}

theorem Tl_rows {R : Nat → Nat → Nat → Prop} : ∀ (r : sT) (p u : Nat), (∀ (j n e : Nat), r[j]? = some (n, e) → R (p + su (r.take j)) (u + su (r.take j)) n) → Tl R p u (r.map (·.1)) := by
  intro r
  induction r with
  | nil => intro p u _; trivial
  | cons q r ih =>
    obtain ⟨n, e⟩ := q
    intro p u h
    refine ⟨?_, ih (p + n) (u + n) (fun j n' e' hj => ?_)⟩
    · have := h 0 n e rfl
      simpa [su] using this
    · have := h (j + 1) n' e' hj
      rw [List.take_succ_cons, show su ((n, e) :: r.take j) = n + su (r.take j) by simp [su], ← Nat.add_assoc, ← Nat.add_assoc] at this
      exact this
theorem md_ge : ∀ (r : sT) (j n e : Nat), r[j]? = some (n, e) → e ≤ md r := by
  intro r
  induction r with
  | nil => intro j n e h; simp at h
  | cons q r ih =>
    obtain ⟨n0, e0⟩ := q
    intro j n e h
    rw [show md ((n0, e0) :: r) = max e0 (md r) by simp [md]]
    cases j with
    | zero =>
      simp only [List.getElem?_cons_zero, Option.some.injEq, Prod.mk.injEq] at h
      omega
    | succ j =>
      have := ih j n e (by simpa using h)
      omega
theorem su_take_drop (st : sT) (i j : Nat) : su (st.take (i + j)) = su (st.take i) + su ((st.drop i).take j) := by
  unfold su
  rw [List.take_add, List.map_append, List.sum_append]
theorem RT_make (h : RT L μ st) (hok : okop L o a) (hk : ar o a ≤ st.length) (hroom : ¬ s_room st (ar o a)) :
    RT L (ms_put (cs_put μ o a (su st) (1 + su (st.drop (st.length - ar o a))) (1 + md (st.drop (st.length - ar o a))) (st.length - ar o a)) o a (st.drop (st.length - ar o a)) (st.length - ar o a) (1 + su (st.drop (st.length - ar o a))) (1 + md (st.drop (st.length - ar o a))))
      (st.take (st.length - ar o a) ++ [(1 + su (st.drop (st.length - ar o a)), 1 + md (st.drop (st.length - ar o a)))]) := by
  obtain ⟨hC, hR, hT, ⟨nb, eb, d1, d2, d3, d4⟩, ⟨nm, em, f1, f2, f3, f4⟩⟩ := h
  have hsu := CS_su hC
  have h12 := hC.1
  have hr2 : st.length - ar o a < 12 ∧ 1 + su (st.drop (st.length - ar o a)) ≤ 40 ∧ 1 + md (st.drop (st.length - ar o a)) ≤ 6 := by
    unfold s_room at hroom
    omega
  have hkk : (st.drop (st.length - ar o a)).length = ar o a := by rw [List.length_drop]; omega
  generalize hat : st.length - ar o a = i at *
  have hil : i ≤ st.length := by omega
  have htd := su_td st i
  generalize hn : 1 + su (st.drop i) = n at *
  generalize he : 1 + md (st.drop i) = e at *
  have h40 : su (st.take i) ≤ 40 * i := by
    have q4 := su_40 (st.take i) (fun j n e hj => by
      have hj2 : st[j]? = some (n, e) := by
        rw [List.getElem?_take] at hj
        split at hj
        · exact hj
        · cases hj
      exact (hC.2.2.2 j n e hj2).1.2.1)
    rw [List.length_take] at q4
    omega
  have hst480 : su st < 480 := by omega
  generalize hμ2 : ms_put (cs_put μ o a (su st) n e i) o a (st.drop i) i n e = μ2
  have r9 : μ2 9 = upd (μ 9) (su st) o := by rw [← hμ2, ms_row (by decide) (by decide) (by decide) (by decide) (by decide) (by decide) (by decide), cs_9]
  have r10 : μ2 10 = upd (μ 10) (su st) a := by rw [← hμ2, ms_row (by decide) (by decide) (by decide) (by decide) (by decide) (by decide) (by decide), cs_10]
  have r11 : μ2 11 = upd (μ 11) (su st) (nI n) := by rw [← hμ2, ms_row (by decide) (by decide) (by decide) (by decide) (by decide) (by decide) (by decide), cs_11]
  have r12 : μ2 12 = upd (μ 12) i (nI e) := by rw [← hμ2, ms_row (by decide) (by decide) (by decide) (by decide) (by decide) (by decide) (by decide), cs_12]
  have r2 : ∀ z, μ2 2 z = if z = 5 then nI (i + 1) else if z = 4 then nI (su st + 1) else μ 2 z := by
    intro z
    rw [← hμ2, ms_row (by decide) (by decide) (by decide) (by decide) (by decide) (by decide) (by decide), cs_2]
  have r22 : μ2 22 10 = nI (i + 1) := by
    rw [← hμ2, ms_22]
    simp [upd]
  have r29 : μ2 29 = upd (μ 29) i (nI n) := by rw [← hμ2, ms_29, cs_row (by decide) (by decide) (by decide) (by decide) (by decide)]
  have r30 : μ2 30 = upd (μ 30) i (nI e) := by rw [← hμ2, ms_30, cs_row (by decide) (by decide) (by decide) (by decide) (by decide)]
  have r27 : ∀ z, μ2 27 z = if 40 * i ≤ z ∧ z < 40 * i + n then mcl (zm_up (zm_up (cs_put μ o a (su st) n e i) 31 0 o) 32 0 a) i 1 (st.drop i) 31 (z - 40 * i) else μ 27 z := by
    intro z
    rw [← hμ2, ms_27, cs_row (c := 27) (by decide) (by decide) (by decide) (by decide) (by decide)]
  have r28 : ∀ z, μ2 28 z = if 40 * i ≤ z ∧ z < 40 * i + n then mcl (zm_up (zm_up (cs_put μ o a (su st) n e i) 31 0 o) 32 0 a) i 1 (st.drop i) 32 (z - 40 * i) else μ 28 z := by
    intro z
    rw [← hμ2, ms_28, cs_row (c := 28) (by decide) (by decide) (by decide) (by decide) (by decide)]
  clear hμ2

  have stay : ∀ {e' p u n' : Nat}, Tm L μ e' p u n' → (p + n' ≤ 40 * i ∨ 40 * i + n ≤ p) → (u + n' ≤ su st ∨ su st < u) → Tm L μ2 e' p u n' := by
    intro e' p u n' hT' hp hu
    have hpos := Tm_pos hT'
    refine Tm_move (Nat.le_refl L) e' p u p u n' hpos.2.2 hpos.2.1 (fun j hj => ?_) (fun j hj => ?_) hT'
    · rw [r27, r28, if_neg (by omega), if_neg (by omega)]
      exact ⟨rfl, rfl⟩
    · rw [r9, r10, r11]
      simp only [upd]
      rw [if_neg (by omega), if_neg (by omega), if_neg (by omega)]
      exact ⟨rfl, rfl, rfl⟩
  have hlen : (st.take i ++ [(n, e)]).length = i + 1 := by
    rw [List.length_append, List.length_take, Nat.min_eq_left hil]
    rfl
  have hsu' : su (st.take i ++ [(n, e)]) = su st + 1 := by
    have : su (st.take i ++ [(n, e)]) = su (st.take i) + n := by simp [su]
    omega

  have ent : ∀ (j n' e' : Nat), (st.take i ++ [(n, e)])[j]? = some (n', e') → (j < i ∧ st[j]? = some (n', e')) ∨ (j = i ∧ n' = n ∧ e' = e) := by
    intro j n' e' hj
    have hjl := (List.getElem?_eq_some_iff.mp hj).1
    rw [hlen] at hjl
    have hti : (st.take i).length = i := by rw [List.length_take, Nat.min_eq_left hil]
    by_cases hji : j < i
    · rw [List.getElem?_append_left (by rw [hti]; exact hji), List.getElem?_take, if_pos hji] at hj
      exact Or.inl ⟨hji, hj⟩
    · have hji : j = i := by omega
      rw [List.getElem?_append_right (by rw [hti]; omega), hti, hji, Nat.sub_self] at hj
      simp only [List.getElem?_cons_zero, Option.some.injEq, Prod.mk.injEq] at hj
      exact Or.inr ⟨hji, hj.1.symm, hj.2.symm⟩
  have tk : ∀ j, j ≤ i → (st.take i ++ [(n, e)]).take j = st.take j := by
    intro j hj
    rw [List.take_append_of_le_length (by rw [List.length_take, Nat.min_eq_left hil]; exact hj), List.take_take, Nat.min_eq_left hj]
  have hlast : su (st.take i) + n - 1 = su st := by omega
  have hsegs : ∀ (j n' e' : Nat), st[j]? = some (n', e') → su (st.take j) + n' ≤ su st := by
    intro j n' e' hj
    have q1 := su_tk hj
    have q2 := su_td st (j + 1)
    omega
  refine ⟨⟨by rw [hlen]; omega, ?_, ?_, fun j n' e' hj => ?_⟩, ⟨by rw [hlen]; omega, ?_, fun j n' e' hj => ?_⟩, fun j n' e' hj => ?_, ⟨nb, eb, d1, d2, ?_, ?_⟩, ⟨nm, em, f1, f2, ?_, ?_⟩⟩
  · rw [r2, hsu']; simp
  · rw [r2, hlen]; simp
  · rcases ent j n' e' hj with ⟨h1, h2⟩ | ⟨rfl, rfl, rfl⟩
    · obtain ⟨g1, g2, g3⟩ := hC.2.2.2 j n' e' h2
      have := hsegs j n' e' h2
      refine ⟨g1, ?_, ?_⟩
      · rw [tk j (by omega), r11]
        simp only [upd]
        rw [if_neg (by omega)]
        exact g2
      · rw [r12]
        simp only [upd]
        rw [if_neg (by omega)]
        exact g3
    · refine ⟨by omega, ?_, ?_⟩
      · rw [tk j (Nat.le_refl j), r11, hlast]
        simp [upd]
      · rw [r12]
        simp [upd]
  · rw [r22, hlen]
  · rcases ent j n' e' hj with ⟨h1, h2⟩ | ⟨rfl, rfl, rfl⟩
    · obtain ⟨g1, g2, g3⟩ := hR.2.2 j n' e' h2
      rw [r29, r30]
      simp only [upd]
      rw [if_neg (by omega), if_neg (by omega)]
      exact ⟨g1, g2, g3⟩
    · rw [r29, r30]
      simp only [upd, if_true]
      exact ⟨by omega, trivial, trivial⟩
  · rcases ent j n' e' hj with ⟨h1, h2⟩ | ⟨rfl, rfl, rfl⟩
    · have := hsegs j n' e' h2
      have g1 := (hC.2.2.2 j n' e' h2).1
      rw [tk j (by omega)]
      exact stay (hT j n' e' h2) (Or.inl (by omega)) (Or.inl this)
    · rw [tk j (Nat.le_refl j)]

      obtain ⟨em', rfl⟩ : ∃ z, e' = z + 1 := ⟨e' - 1, by omega⟩
      have b9 : μ2 9 (su (st.take j) + n' - 1) = o := by rw [r9, hlast]; simp [upd]
      have b10 : μ2 10 (su (st.take j) + n' - 1) = a := by rw [r10, hlast]; simp [upd]
      refine ⟨by omega, ?_, ?_, ?_, ?_, (st.drop j).map (·.1), ?_, ?_, ?_⟩
      · rw [b9, r27, if_pos (by omega), Nat.sub_self, mcl_low _ _ _ _ _ _ (by omega), zm_up_row (by decide), zm_up_self]
        simp [upd]
      · rw [b10, r28, if_pos (by omega), Nat.sub_self, mcl_low _ _ _ _ _ _ (by omega), zm_up_self]
        simp [upd]
      · rw [r11, hlast]
        simp [upd]
      · rw [b9, b10]
        exact hok
      · rw [b9, b10, List.length_map]
        exact hkk
      · rw [← hn]
        rfl
      · refine Tl_rows (st.drop j) (40 * j + 1) (su (st.take j)) (fun y n2 e2 hy => ?_)
        have hy2 : st[j + y]? = some (n2, e2) := by rw [List.getElem?_drop] at hy; exact hy
        have hme := md_ge _ _ _ _ hy
        have hseg := hsegs _ _ _ hy2
        have htd2 := su_take_drop st j y
        have hpos := Tm_pos (hT _ _ _ hy2)
        have hg := (hC.2.2.2 _ _ _ hy2).1
        have hsy := su_tk hy
        have hsy2 := su_td (st.drop j) (y + 1)
        refine Tm_ge (d := e2) ?_ (by omega)
        have h9 := hT _ _ _ hy2
        rw [htd2] at h9 hseg
        refine Tm_move (Nat.le_refl L) e2 _ _ _ _ n2 (by omega) (by omega) (fun z hz => ?_) (fun z hz => ?_) h9
        · have hm := mcl_at (st.drop j) (zm_up (zm_up (cs_put μ o a (su st) n' (em' + 1) j) 31 0 o) 32 0 a) j 1 y n2 e2 z hy hz
          rw [r27, r28, if_pos (by omega), if_pos (by omega), show 40 * j + 1 + su ((st.drop j).take y) + z - 40 * j = 1 + su ((st.drop j).take y) + z by omega, hm.1, hm.2, zm_up_row (by decide), zm_up_row (by decide), zm_up_row (by decide), zm_up_row (by decide), cs_row (by decide) (by decide) (by decide) (by decide) (by decide), cs_row (by decide) (by decide) (by decide) (by decide) (by decide)]
          exact ⟨rfl, rfl⟩
        · rw [r9, r10, r11]
          simp only [upd]
          rw [if_neg (by omega), if_neg (by omega), if_neg (by omega)]
          exact ⟨rfl, rfl, rfl⟩
  · rw [r2, if_neg (by decide), if_neg (by decide)]; exact d3
  · exact stay d4 (Or.inr (by omega)) (Or.inr (by omega))
  · rw [r2, if_neg (by decide), if_neg (by decide)]; exact f3
  · exact stay f4 (Or.inr (by omega)) (Or.inr (by omega))
end RT2

section ST2
variable {X : zm_T} {d L : Nat} {μ : zm_u} {o a x : Int32} {st : sT}
def cs_put (μ : zm_u) (o a : Int32) (w n e i : Nat) : zm_u := zm_up (zm_up (zm_up (zm_up (zm_up (zm_up μ 9 w o) 10 w a) 11 w (nI n)) 12 i (nI e)) 2 4 (nI (w + 1))) 2 5 (nI (i + 1))
def s_room (st : sT) (k : Nat) : Prop := 12 ≤ st.length - k ∨ 40 < 1 + su (st.drop (st.length - k)) ∨ 6 < 1 + md (st.drop (st.length - k))
theorem nI_sub {a b : Nat} (h : b ≤ a) : nI a - nI b = nI (a - b) := by
  have := nI_add (a - b) b
  rw [show a - b + b = a by omega] at this
  rw [← this, Int32.add_sub_cancel]
theorem CS_md (h : CS μ st) (i : Nat) : md (st.drop i) ≤ 6 := by
  obtain ⟨h1, h2, h3, h4⟩ := h
  by_cases hi : i ≤ st.length
  · obtain ⟨j, hj⟩ : ∃ j, j + i = st.length := ⟨st.length - i, by omega⟩
    clear hi
    induction j generalizing i with
    | zero =>
      rw [List.drop_eq_nil_of_le (by omega)]
      exact Nat.zero_le _
    | succ j ih =>
      obtain ⟨n, e, he⟩ := st_at (st := st) (i := i) (by omega)
      rw [md_dr he]
      have := ih (i + 1) (by omega)
      have := (h4 i n e he).1.2.2
      omega
  · rw [List.drop_eq_nil_of_le (by omega)]
    exact Nat.zero_le _
theorem c_put (hd : 3 ≤ d) (h : CS μ st) (hok : okop L o a) (hk : ar o a ≤ st.length) : zI X d 36 [.inr 2, .inl o, .inl a] μ (fun r μ' =>
    (s_room st (ar o a) ∧ r = -2 ∧ μ' = μ) ∨ (¬ s_room st (ar o a) ∧ r = nI (1 + su (st.drop (st.length - ar o a))) ∧ μ' = cs_put μ o a (su st) (1 + su (st.drop (st.length - ar o a))) (1 + md (st.drop (st.length - ar o a))) (st.length - ar o a))) := by
  have h0 := h
  obtain ⟨h1, h2, h3, h4⟩ := h
  have hs := CS_su h0
  generalize hkk : ar o a = k at hk ⊢
  have hsd : ∀ i, su (st.drop i) ≤ su st := fun i => by have := su_td st i; omega
  refine zI_at [0, 1, 2] (by omega) rfl (k36_0 ⟨_, c_partsOf (by omega) (okop_ar hok).1 (okop_ar hok).2, fun r μ1 hr => ?_⟩)
  obtain ⟨rfl, rfl⟩ := hr
  rw [hkk]
  refine k36_5 ?_

  have tail : zV X (d - 1) 36 12 [(0, .inr 2), (1, .inl o), (2, .inl a), (3, .inl (nI k)), (4, .inl (nI (1 + su (st.drop (st.length - k))))), (5, .inl (nI k))] [] μ1 (zpi (fun r μ' =>
    (s_room st k ∧ r = -2 ∧ μ' = μ1) ∨ (¬ s_room st k ∧ r = nI (1 + su (st.drop (st.length - k))) ∧ μ' = cs_put μ1 o a (su st) (1 + su (st.drop (st.length - k))) (1 + md (st.drop (st.length - k))) (st.length - k)))) := by
    refine k36_12 (fun _ => ⟨_, c_deepest (by omega) h0 hk, fun r μ2 hr => ?_⟩) (fun z => absurd (Int32.le_refl _) z)
    obtain ⟨rfl, rfl⟩ := hr
    have hmd := CS_md h0 (st.length - k)
    have hsz := hsd (st.length - k)
    have e40 : (40 : Int32) = nI 40 := rfl
    have e6 : (6 : Int32) = nI 6 := rfl
    have e480 : (480 : Int32) = nI 480 := rfl
    have e12 : (12 : Int32) = nI 12 := rfl
    have no : s_room st k → zV X (d - 1) 36 85 [(0, .inr 2), (1, .inl o), (2, .inl a), (4, .inl (nI (1 + su (st.drop (st.length - k))))), (5, .inl (nI (1 + md (st.drop (st.length - k))))), (6, .inl (nI (st.length - k)))] [] μ2 (zpi (fun r μ' =>
    (s_room st k ∧ r = -2 ∧ μ' = μ2) ∨ (¬ s_room st k ∧ r = nI (1 + su (st.drop (st.length - k))) ∧ μ' = cs_put μ2 o a (su st) (1 + su (st.drop (st.length - k))) (1 + md (st.drop (st.length - k))) (st.length - k)))) := by
      intro hroom
      refine k36_85 (k36_86 (fun _ => Or.inl ⟨hroom, rfl, rfl⟩) (fun _ _ => Or.inl ⟨hroom, rfl, rfl⟩) (fun _ _ z => absurd rfl z) (fun _ _ z => absurd rfl z) (fun _ _ z => absurd rfl z) (fun _ _ z => absurd rfl z) (fun _ _ z => absurd rfl z) (fun _ _ _ => Or.inl ⟨hroom, rfl, rfl⟩))
    have e11 : (1 : Int32) + nI (md (st.drop (st.length - k))) = nI (1 + md (st.drop (st.length - k))) := nI_1p _
    have hbig : 1 + su (st.drop (st.length - k)) ≤ 40 → st.length - k < 12 → su st < 480 := by
      intro q1 q2
      have q3 := su_td st (st.length - k)
      have q4 := su_40 (st.take (st.length - k)) (fun i n e hi => by
        have hi2 : st[i]? = some (n, e) := by
          rw [List.getElem?_take] at hi
          split at hi
          · exact hi
          · cases hi
        exact (h4 i n e hi2).1.2.1)
      rw [List.length_take] at q4
      omega
    have hnr : ¬ s_room st k → st.length - k < 12 ∧ 1 + su (st.drop (st.length - k)) ≤ 40 ∧ 1 + md (st.drop (st.length - k)) ≤ 6 := by
      intro q
      unfold s_room at q
      omega
    refine k36_46 (fun z => ?_) (fun _ z => ?_) (fun _ _ z => ?_) (fun z1 z2 z3 => ?_)
    · rw [e11, h3, nI_sub hk]
      rw [e40, nI_ltI (by omega) (by omega)] at z
      exact no (Or.inr (Or.inl z))
    · rw [e11, h3, nI_sub hk]
      rw [e11, e6, nI_ltI (by omega) (by omega)] at z
      exact no (Or.inr (Or.inr z))
    · rw [e11, h3, nI_sub hk]
      rw [h2, e480, nI_leI (by omega) (by omega)] at z
      refine no (Classical.byContradiction fun q => ?_)
      have q2 := hnr q
      have := hbig q2.2.1 q2.1
      omega
    · rw [e11, h3, nI_sub hk]
      rw [e40, nI_ltI (by omega) (by omega)] at z1
      rw [e11, e6, nI_ltI (by omega) (by omega)] at z2
      rw [h2, e480, nI_leI (by omega) (by omega)] at z3
      have hb : 0 ≤ (μ2 2 4).toInt ∧ (μ2 2 4).toInt < ((560 : Nat) : Int) := by rw [h2, nI_t (by omega)]; omega
      refine k36_86 (fun z => absurd z (nI_pos (by omega))) (fun _ z => ?_) (fun _ _ _ => hb) (fun _ _ _ => hb) (fun _ _ _ => hb) (fun _ z _ => ?_) (fun _ z _ => ?_) (fun _ _ z => absurd z zn_10)
      · rw [e12, nI_leI (by omega) (by omega)] at z
        exact Or.inl ⟨Or.inl z, rfl, rfl⟩
      · rw [e12, nI_leI (by omega) (by omega)] at z
        rw [nI_t (by omega)]
        omega
      · rw [e12, nI_leI (by omega) (by omega)] at z
        refine Or.inr ⟨by unfold s_room; omega, rfl, ?_⟩
        unfold cs_put
        rw [h2, nI_c (by omega), nI_c (by omega), nI_1, nI_1]
  have loop : ∀ (j i : Nat), i + j = k → zV X (d - 1) 36 12 [(0, .inr 2), (1, .inl o), (2, .inl a), (3, .inl (nI k)), (4, .inl (nI (1 + su (st.drop (st.length - i))))), (5, .inl (nI i))] [] μ1 (zpi (fun r μ' =>
    (s_room st k ∧ r = -2 ∧ μ' = μ1) ∨ (¬ s_room st k ∧ r = nI (1 + su (st.drop (st.length - k))) ∧ μ' = cs_put μ1 o a (su st) (1 + su (st.drop (st.length - k))) (1 + md (st.drop (st.length - k))) (st.length - k)))) := by
    intro j
    induction j with
    | zero =>
      intro i hi
      have hi : i = k := by omega
      subst hi
      exact tail
    | succ j ih =>
      intro i hi
      obtain ⟨n, e, he⟩ := st_at (st := st) (i := st.length - (i + 1)) (by omega)
      obtain ⟨⟨g1, g2, _⟩, g3, _⟩ := h4 _ n e he
      have q1 := su_dr he
      rw [show st.length - (i + 1) + 1 = st.length - i by omega] at q1
      have q2 := su_td st (st.length - (i + 1))
      have q3 := hsd (st.length - i)
      have q4 := hsd (st.length - (i + 1))
      refine k36_12 (fun z => ?_) (fun _ => ?_)
      · rw [nI_leI (by omega) (by omega)] at z
        omega
      · rw [h2, nI_sub (by omega), show su st - (1 + su (st.drop (st.length - i))) = su (st.take (st.length - (i + 1))) + n - 1 by omega]
        refine ⟨_, c_sizeOf (by omega) (by omega), fun r μ2 hr => ?_⟩
        obtain ⟨rfl, rfl⟩ := hr
        rw [g3]
        refine k36_31 ?_
        rw [nI_add, nI_1, show 1 + su (st.drop (st.length - i)) + n = 1 + su (st.drop (st.length - (i + 1))) by omega]
        exact ih (i + 1) (by omega)
  have h9 := loop k 0 (by omega)
  rw [Nat.sub_zero, List.drop_length] at h9
  exact h9
end ST2

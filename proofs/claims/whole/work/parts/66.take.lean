section ST4
variable {X : zm_T} {d L : Nat} {μ : zm_u} {o a x t : Int32} {st : sT}
def cs_cp (μ : zm_u) (u w n : Nat) : zm_u := fun c i => if (c = 9 ∨ c = 10 ∨ c = 11) ∧ w ≤ i ∧ i < w + n then μ c (u + (i - w)) else μ c i
theorem zm_cp_nI {f u w n c i : Nat} (hu : u < 1000) (hw : w < 1000) (hn : n < 1000) : zm_cp μ f f (nI u) (nI w) (nI n) c i = if c = f ∧ w ≤ i ∧ i < w + n then μ c (u + (i - w)) else μ c i := by
  unfold zm_cp
  rw [nI_c (by omega), nI_c (by omega), nI_c (by omega)]
  by_cases hc : c = f
  · subst hc
    rw [Nat.beq_refl]
    simp
  · rw [zb_ne hc]
    simp [hc]
theorem cs_cp3 {u w n : Nat} (hu : u < 1000) (hw : w < 1000) (hn : n < 1000) : zm_cp (zm_cp (zm_cp μ 9 9 (nI u) (nI w) (nI n)) 10 10 (nI u) (nI w) (nI n)) 11 11 (nI u) (nI w) (nI n) = cs_cp μ u w n := by
  funext c i
  rw [zm_cp_nI hu hw hn, zm_cp_nI hu hw hn, zm_cp_nI hu hw hn, zm_cp_nI hu hw hn, zm_cp_nI hu hw hn, zm_cp_nI hu hw hn, zm_cp_nI hu hw hn]
  unfold cs_cp
  by_cases h9 : c = 9
  · subst h9; simp
  · by_cases h10 : c = 10
    · subst h10; simp
    · by_cases h11 : c = 11
      · subst h11; simp
      · simp [h9, h10, h11]
def cs_take (μ : zm_u) (u w n l : Nat) : zm_u := cs_drop (cs_cp μ u w n) u l
theorem CS_cp (h : CS μ st) {u w n : Nat} (hw : 480 ≤ w) : CS (cs_cp μ u w n) st := by
  have hs := CS_su h
  obtain ⟨h1, h2, h3, h4⟩ := h
  refine ⟨h1, ?_, ?_, fun i n' e hi => ?_⟩
  · unfold cs_cp; simp; exact h2
  · unfold cs_cp; simp; exact h3
  · obtain ⟨g1, g2, g3⟩ := h4 i n' e hi
    have q1 := su_tk hi
    have q2 := su_td st (i + 1)
    refine ⟨g1, ?_, ?_⟩
    · unfold cs_cp
      rw [if_neg (by omega)]
      exact g2
    · unfold cs_cp
      simp
      exact g3
theorem c_moveLast (hd : 5 ≤ d) (h : CS μ st) {n e w : Nat} {r : sT} (hr : st = r ++ [(n, e)]) (hw : w = 480 ∨ w = 520) : zI X d 41 [.inr 2, .inl (nI w)] μ (fun x μ' => x = nI (w + n - 1) ∧ μ' = cs_take μ (su r) w n r.length) := by
  have hs := CS_su h
  have h0 := h
  obtain ⟨h1, h2, h3, h4⟩ := h
  have hl : st.length = r.length + 1 := by rw [hr]; simp
  have he : st[r.length]? = some (n, e) := by rw [hr]; simp
  have htk : st.take r.length = r := by rw [hr]; simp
  have hsu : su st = su r + n := by
    have := su_tk he
    rw [htk, ← hl, List.take_length] at this
    exact this
  obtain ⟨⟨g1, g2, _⟩, g3, _⟩ := h4 _ _ _ he
  rw [htk] at g3
  refine zI_at [0, 1] (by omega) rfl (k41_0 ?_)
  rw [h2, show nI (su st) - 1 = nI (su r + n - 1) by rw [hsu, ← nI_one, nI_sub (by omega)]]
  refine ⟨_, c_sizeOf (by omega) (by omega), fun x μ1 hx => ?_⟩
  obtain ⟨rfl, rfl⟩ := hx
  rw [g3]
  have e1 : μ1 2 4 - nI n = nI (su r) := by rw [h2, hsu, nI_sub (by omega), show su r + n - n = su r by omega]
  have hb : 0 ≤ (nI n).toInt ∧ 0 ≤ (nI w).toInt ∧ 0 ≤ (μ1 2 4 - nI n).toInt ∧ (μ1 2 4 - nI n).toInt + (nI n).toInt ≤ ((560 : Nat) : Int) ∧ (nI w).toInt + (nI n).toInt ≤ ((560 : Nat) : Int) := by
    rw [e1, nI_t (by omega), nI_t (by omega), nI_t (by omega)]
    omega
  refine k41_10 hb hb hb ?_
  rw [e1, cs_cp3 (by omega) (by omega) (by omega)]
  refine ⟨_, c_dropLast (by omega) (CS_cp h0 (by omega)) hr, fun μ2 hx => ?_⟩
  obtain rfl := hx
  refine k41_64 ⟨?_, rfl⟩
  rw [nI_add, ← nI_one, nI_sub (by omega)]
theorem c_function (hd : 8 ≤ d) (h : CS μ st) (hL : (μ 1 3).toInt = L) : zI X d 4 [.inr 0, .inl t] μ (fun x μ' => (¬ (st ≠ [] ∧ 0 ≤ t.toInt ∧ t.toInt < L) ∧ x = 0 ∧ μ' = μ) ∨ ((0 ≤ t.toInt ∧ t.toInt < L) ∧ ∃ (n e : Nat) (r : sT), st = r ++ [(n, e)] ∧ x = 1 ∧ μ' = zm_up (zm_up (cs_take μ (su r) 480 n r.length) 2 6 (nI (480 + n - 1))) 0 4 t)) := by
  have h1 := h.1
  have h3 := h.2.2.1
  refine zI_at [0, 1] (by omega) rfl (k4_0 ⟨_, c_onStack (by omega), fun x μ1 hx => ?_⟩)
  obtain ⟨rfl, rfl⟩ := hx
  rw [h3]
  rcases List.eq_nil_or_concat st with rfl | ⟨s, ⟨n, e⟩, rfl⟩
  · exact k4_7 (fun _ => Or.inl ⟨fun q => q.1 rfl, rfl, rfl⟩) (fun z => absurd rfl z)
  · rw [List.concat_eq_append] at h h1 h3 ⊢
    have hlen : (s ++ [(n, e)]).length = s.length + 1 := by simp
    rw [hlen] at h1 ⊢
    refine k4_7 (fun z => absurd z (nI_ne0 (by omega) (by omega))) (fun _ => ⟨_, c_has (by omega), fun x μ2 hx => ?_⟩)
    unfold ty_has at hx
    rw [hL] at hx
    obtain ⟨rfl, ⟨ht, rfl⟩ | ⟨ht, rfl⟩⟩ := hx
    · refine k4_18 (fun _ => ⟨fun μ' => μ' = zm_up (cs_take μ2 (su s) 480 n s.length) 2 6 (nI (480 + n - 1)), ?_, fun μ3 hx => ?_⟩) (fun z => absurd z zn_10)
      · refine zO_at [0] (by omega) rfl (k39_0 ⟨_, c_moveLast (w := 480) (by omega) h rfl (Or.inl rfl), fun x μ3 hx => ?_⟩)
        obtain ⟨rfl, rfl⟩ := hx
        exact k39_8 rfl
      · obtain rfl := hx
        exact k4_30 (Or.inr ⟨ht, n, e, s, rfl, rfl, rfl⟩)
    · exact k4_18 (fun z => absurd rfl z) (fun _ => Or.inl ⟨fun q => ht q.2, rfl, rfl⟩)
theorem c_main (hd : 8 ≤ d) (h : CS μ st) (hL : (μ 1 3).toInt = L) : zI X d 5 [.inr 0, .inl t] μ (fun x μ' => (¬ (st ≠ [] ∧ 0 ≤ t.toInt ∧ t.toInt < L) ∧ x = 0 ∧ μ' = μ) ∨ ((0 ≤ t.toInt ∧ t.toInt < L) ∧ ∃ (n e : Nat) (r : sT), st = r ++ [(n, e)] ∧ x = 1 ∧ μ' = zm_up (zm_up (cs_take μ (su r) 520 n r.length) 2 7 (nI (520 + n - 1))) 0 5 t)) := by
  have h1 := h.1
  have h3 := h.2.2.1
  refine zI_at [0, 1] (by omega) rfl (k5_0 ⟨_, c_onStack (by omega), fun x μ1 hx => ?_⟩)
  obtain ⟨rfl, rfl⟩ := hx
  rw [h3]
  rcases List.eq_nil_or_concat st with rfl | ⟨s, ⟨n, e⟩, rfl⟩
  · exact k5_7 (fun _ => Or.inl ⟨fun q => q.1 rfl, rfl, rfl⟩) (fun z => absurd rfl z)
  · rw [List.concat_eq_append] at h h1 h3 ⊢
    have hlen : (s ++ [(n, e)]).length = s.length + 1 := by simp
    rw [hlen] at h1 ⊢
    refine k5_7 (fun z => absurd z (nI_ne0 (by omega) (by omega))) (fun _ => ⟨_, c_has (by omega), fun x μ2 hx => ?_⟩)
    unfold ty_has at hx
    rw [hL] at hx
    obtain ⟨rfl, ⟨ht, rfl⟩ | ⟨ht, rfl⟩⟩ := hx
    · refine k5_18 (fun _ => ⟨fun μ' => μ' = zm_up (cs_take μ2 (su s) 520 n s.length) 2 7 (nI (520 + n - 1)), ?_, fun μ3 hx => ?_⟩) (fun z => absurd z zn_10)
      · refine zO_at [0] (by omega) rfl (k40_0 ⟨_, c_moveLast (w := 520) (by omega) h rfl (Or.inr rfl), fun x μ3 hx => ?_⟩)
        obtain ⟨rfl, rfl⟩ := hx
        exact k40_8 rfl
      · obtain rfl := hx
        exact k5_30 (Or.inr ⟨ht, n, e, s, rfl, rfl, rfl⟩)
    · exact k5_18 (fun z => absurd rfl z) (fun _ => Or.inl ⟨fun q => ht q.2, rfl, rfl⟩)
end ST4

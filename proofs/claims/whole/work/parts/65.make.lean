section ST3
variable {X : zm_T} {d L : Nat} {μ : zm_u} {o a x : Int32} {st : sT}
theorem zi_lt {x : Int32} {n : Int32} {k : Int} (hn : n.toInt = k) : x < n ↔ x.toInt < k := by rw [Int32.lt_iff_toInt_lt, hn]
theorem zi_gt {x : Int32} {n : Int32} {k : Int} (hn : n.toInt = k) : n < x ↔ k < x.toInt := by rw [Int32.lt_iff_toInt_lt, hn]
theorem zi_le {x : Int32} {n : Int32} {k : Int} (hn : n.toInt = k) : x ≤ n ↔ x.toInt ≤ k := by rw [Int32.le_iff_toInt_le, hn]
theorem zi_ge {x : Int32} {n : Int32} {k : Int} (hn : n.toInt = k) : n ≤ x ↔ k ≤ x.toInt := by rw [Int32.le_iff_toInt_le, hn]
theorem c_isAsSaid (hd : 2 ≤ d) (hL : (μ 1 3).toInt = L) (ho : 0 ≤ o.toInt ∧ o.toInt ≤ 17) : zI X d 11 [.inr 0, .inl o, .inl a] μ (fun r μ' => μ' = μ ∧ (okop L o a ∧ r = 1 ∨ ¬ okop L o a ∧ r = 0)) := by
  have e0 : (0 : Int32).toInt = 0 := by decide
  have e1 : (1 : Int32).toInt = 1 := by decide
  have e12 : (12 : Int32).toInt = 12 := by decide
  have e63 : (63 : Int32).toInt = 63 := by decide
  have n21 : ¬ (2 : Int32) = 1 := by decide
  have n101 : ¬ (10 : Int32) = 1 := by decide
  have n102 : ¬ (10 : Int32) = 2 := by decide
  have n1017 : ¬ (10 : Int32) = 17 := by decide
  have n171 : ¬ (17 : Int32) = 1 := by decide
  have n172 : ¬ (17 : Int32) = 2 := by decide
  have n1710 : ¬ (17 : Int32) = 10 := by decide
  have n117 : ¬ (1 : Int32) = 17 := by decide
  have n12 : ¬ (1 : Int32) = 2 := by decide
  have n110 : ¬ (1 : Int32) = 10 := by decide
  have n217 : ¬ (2 : Int32) = 17 := by decide
  have n210 : ¬ (2 : Int32) = 10 := by decide
  refine zI_at [0, 1, 2] (by omega) rfl (k11_0 (fun h z => ?_) (fun h z1 z2 => ?_) (fun h z1 z2 => ?_) (fun h1 h z => ?_) (fun h1 h z1 z2 => ?_) (fun h1 h z1 z2 => ?_) (fun h1 h2 h => ?_) (fun h1 h2 h3 h z => ?_) (fun h1 h2 h3 h z1 z2 => ?_) (fun h1 h2 h3 h z1 z2 => ?_) (fun h1 h2 h3 h4 => ?_))
  · subst h
    exact ⟨rfl, Or.inl ⟨⟨ho, fun q => absurd q n117, fun q => absurd q n12, fun _ => Or.inl z, fun q => absurd q n110⟩, rfl⟩⟩
  · subst h
    exact ⟨rfl, Or.inr ⟨fun q => (q.2.2.2.1 rfl).elim z1 z2, rfl⟩⟩
  · subst h
    exact ⟨rfl, Or.inl ⟨⟨ho, fun q => absurd q n117, fun q => absurd q n12, fun _ => Or.inr z2, fun q => absurd q n110⟩, rfl⟩⟩
  · subst h
    rw [zi_lt e0] at z
    exact ⟨rfl, Or.inr ⟨fun q => by have := q.2.2.1 rfl; omega, rfl⟩⟩
  · subst h
    rw [zi_ge e12] at z2
    exact ⟨rfl, Or.inr ⟨fun q => by have := q.2.2.1 rfl; omega, rfl⟩⟩
  · subst h
    rw [zi_lt e0] at z1
    rw [zi_ge e12] at z2
    exact ⟨rfl, Or.inl ⟨⟨ho, fun q => absurd q n217, fun _ => by omega, fun q => absurd q n21, fun q => absurd q n210⟩, rfl⟩⟩
  · subst h
    refine ⟨_, c_has (by omega), fun r μ1 hr => ?_⟩
    unfold ty_has at hr
    rw [hL] at hr
    obtain ⟨rfl, ⟨h, rfl⟩ | ⟨h, rfl⟩⟩ := hr
    · exact k11_83 (Or.inr rfl) ⟨rfl, Or.inl ⟨⟨ho, fun q => absurd q n1017, fun q => absurd q n102, fun q => absurd q n101, fun _ => h⟩, rfl⟩⟩
    · exact k11_83 (Or.inl rfl) ⟨rfl, Or.inr ⟨fun q => h (q.2.2.2.2 rfl), rfl⟩⟩
  · subst h
    rw [zi_lt e1] at z
    exact ⟨rfl, Or.inr ⟨fun q => by have := q.2.1 rfl; omega, rfl⟩⟩
  · subst h
    rw [zi_gt e63] at z2
    exact ⟨rfl, Or.inr ⟨fun q => by have := q.2.1 rfl; omega, rfl⟩⟩
  · subst h
    rw [zi_lt e1] at z1
    rw [zi_gt e63] at z2
    exact ⟨rfl, Or.inl ⟨⟨ho, fun _ => by omega, fun q => absurd q n172, fun q => absurd q n171, fun q => absurd q n1710⟩, rfl⟩⟩
  · exact ⟨rfl, Or.inl ⟨⟨ho, fun q => absurd q h4, fun q => absurd q h2, fun q => absurd q h1, fun q => absurd q h3⟩, rfl⟩⟩
theorem c_onStack (hd : 1 ≤ d) : zI X d 29 [.inr 2] μ (fun r μ' => μ' = μ ∧ r = μ 2 5) := zI_at [0] hd rfl (k29_0 ⟨rfl, rfl⟩)
theorem c_make (hd : 5 ≤ d) (h : CS μ st) (hL : (μ 1 3).toInt = L) : zI X d 1 [.inr 0, .inl o, .inl a] μ (fun r μ' =>
    (¬ (okop L o a ∧ ar o a ≤ st.length) ∧ r = -1 ∧ μ' = μ) ∨ (okop L o a ∧ ar o a ≤ st.length ∧ s_room st (ar o a) ∧ r = -2 ∧ μ' = μ) ∨
    (okop L o a ∧ ar o a ≤ st.length ∧ ¬ s_room st (ar o a) ∧ r = nI (1 + su (st.drop (st.length - ar o a))) ∧ μ' = cs_put μ o a (su st) (1 + su (st.drop (st.length - ar o a))) (1 + md (st.drop (st.length - ar o a))) (st.length - ar o a))) := by
  have e0 : (0 : Int32).toInt = 0 := by decide
  have e17 : (17 : Int32).toInt = 17 := by decide
  have hal := ar_le o a
  refine zI_at [0, 1, 2] (by omega) rfl (k1_0 (fun z => ?_) (fun _ z => ?_) (fun z1 z2 => ?_))
  · rw [zi_lt e0] at z
    exact Or.inl ⟨fun q => by have := q.1.1; omega, rfl, rfl⟩
  · rw [zi_gt e17] at z
    exact Or.inl ⟨fun q => by have := q.1.1; omega, rfl, rfl⟩
  · rw [zi_lt e0] at z1
    rw [zi_gt e17] at z2
    refine ⟨_, c_isAsSaid (by omega) hL (by omega), fun r μ1 hr => ?_⟩
    obtain ⟨rfl, ⟨hok, rfl⟩ | ⟨hok, rfl⟩⟩ := hr
    · refine k1_16 (fun z => absurd z zn_10) (fun _ => ⟨_, c_onStack (by omega), fun r μ2 hr => ?_⟩)
      obtain ⟨rfl, rfl⟩ := hr
      refine k1_26 ⟨_, c_partsOf (by omega) (okop_ar hok).1 (okop_ar hok).2, fun r μ3 hr => ?_⟩
      obtain ⟨rfl, rfl⟩ := hr
      have h1 := h.1
      rw [h.2.2.1]
      refine k1_31 (fun z => ?_) (fun z => ?_)
      · rw [nI_leI (by omega) (by omega)] at z
        refine ⟨_, c_put (by omega) h hok z, fun r μ4 hr => k1_45 ?_⟩
        rcases hr with ⟨q1, q2, q3⟩ | ⟨q1, q2, q3⟩
        · exact Or.inr (Or.inl ⟨hok, z, q1, q2, q3⟩)
        · exact Or.inr (Or.inr ⟨hok, z, q1, q2, q3⟩)
      · rw [nI_leI (by omega) (by omega)] at z
        exact Or.inl ⟨fun q => z q.2, rfl, rfl⟩
    · exact k1_16 (fun _ => Or.inl ⟨fun q => hok q.1, rfl, rfl⟩) (fun z => absurd rfl z)
theorem c_height (hd : 2 ≤ d) : zI X d 2 [.inr 0] μ (fun r μ' => μ' = μ ∧ r = μ 2 5) := by
  refine zI_at [0] (by omega) rfl (k2_0 ⟨_, c_onStack (by omega), fun r μ1 hr => k2_7 hr⟩)
def cs_drop (μ : zm_u) (w i : Nat) : zm_u := zm_up (zm_up μ 2 4 (nI w)) 2 5 (nI i)
theorem c_dropLast (hd : 3 ≤ d) (h : CS μ st) {n e : Nat} {r : sT} (hr : st = r ++ [(n, e)]) : zO X d 38 [.inr 2] μ (fun μ' => μ' = cs_drop μ (su r) r.length) := by
  have hs := CS_su h
  obtain ⟨h1, h2, h3, h4⟩ := h
  have hl : st.length = r.length + 1 := by rw [hr]; simp
  have he : st[r.length]? = some (n, e) := by rw [hr]; simp
  have htk : st.take r.length = r := by rw [hr]; simp
  have hsu : su st = su r + n := by
    have := su_tk he
    rw [htk, ← hl, List.take_length] at this
    exact this
  obtain ⟨⟨g1, g2, _⟩, g3, _⟩ := h4 _ _ _ he
  rw [htk] at g3
  refine zO_at [0] (by omega) rfl (k38_0 (fun z => ?_) (fun _ z => ?_) (fun _ _ => ?_))
  · rw [h3] at z
    exact absurd z (nI_nle (by omega) (by omega))
  · rw [h2] at z
    exact absurd z (nI_nle (by omega) (by omega))
  · rw [h2, show nI (su st) - 1 = nI (su r + n - 1) by rw [hsu, ← nI_one, nI_sub (by omega)]]
    refine ⟨_, c_sizeOf (by omega) (by omega), fun x μ1 hx => ?_⟩
    obtain ⟨rfl, rfl⟩ := hx
    refine k38_29 ?_
    unfold cs_drop
    rw [g3, hsu, nI_sub (by omega), h3, hl, nI_pr, show su r + n - n = su r by omega]
theorem c_drop (hd : 5 ≤ d) (h : CS μ st) : zI X d 3 [.inr 0] μ (fun r μ' => (st = [] ∧ r = -1 ∧ μ' = μ) ∨ ∃ (n e : Nat) (s : sT), st = s ++ [(n, e)] ∧ r = nI s.length ∧ μ' = cs_drop μ (su s) s.length) := by
  have h1 := h.1
  have h3 := h.2.2.1
  refine zI_at [0] (by omega) rfl (k3_0 ⟨_, c_onStack (by omega), fun x μ1 hx => ?_⟩)
  obtain ⟨rfl, rfl⟩ := hx
  rw [h3]
  rcases List.eq_nil_or_concat st with rfl | ⟨s, ⟨n, e⟩, rfl⟩
  · exact k3_7 (fun z => absurd rfl z) (fun _ => Or.inl ⟨rfl, rfl, rfl⟩)
  · rw [List.concat_eq_append] at h h1 h3 ⊢
    rw [List.length_append] at h1 ⊢
    simp only [List.length_cons, List.length_nil] at h1 ⊢
    refine k3_7 (fun _ => ⟨_, c_dropLast (by omega) h rfl, fun μ2 hx => ?_⟩) (fun z => absurd z (nI_ne0 (by omega) (by omega)))
    obtain rfl := hx
    refine k3_19 ⟨_, c_onStack (by omega), fun x μ3 hx => ?_⟩
    obtain ⟨rfl, rfl⟩ := hx
    refine k3_26 (Or.inr ⟨n, e, s, rfl, ?_, rfl⟩)
    unfold cs_drop
    rw [zm_up_self]
    simp [upd]
end ST3

section MM3
variable {X : zm_T} {d L : Nat} {μ : zm_u} {o a x t : Int32} {st : sT} {P : Int32 → zm_u → Prop}
theorem m_lp1 {len : Nat} {v3 : Int32} (hlen : len ≤ 12) (h10 : μ 22 10 = nI len) : ∀ (r : sT) (i w m : Nat), i + r.length = len → (∀ (j n e : Nat), r[j]? = some (n, e) → (1 ≤ n ∧ n ≤ 40 ∧ e ≤ 6) ∧ μ 29 (i + j) = nI n ∧ μ 30 (i + j) = nI e) → m ≤ 6 →
    zV X d 108 41 [(0, .inr 22), (1, .inl o), (2, .inl a), (3, .inl v3), (4, .inl (nI (w + su r))), (5, .inl (nI (max m (md r)))), (6, .inl (nI len))] [] μ (zpi P) →
    zV X d 108 41 [(0, .inr 22), (1, .inl o), (2, .inl a), (3, .inl v3), (4, .inl (nI w)), (5, .inl (nI m)), (6, .inl (nI i))] [] μ (zpi P) := by
  intro r
  induction r with
  | nil =>
    intro i w m hi _ hm hV
    simp only [List.length_nil] at hi
    have hi : i = len := by omega
    subst hi
    simpa [su, md] using hV
  | cons q r ih =>
    obtain ⟨n, e⟩ := q
    intro i w m hi hr hm hV
    simp only [List.length_cons] at hi
    obtain ⟨⟨g1, g2, g3⟩, g4, g5⟩ := hr 0 n e rfl
    simp only [Nat.add_zero] at g4 g5
    have hle : ¬ μ 22 10 ≤ nI i := by rw [h10]; exact nI_ge (by omega) (by omega)
    have ci : (nI i).toNatClampNeg = i := nI_c (by omega)
    have b1 : 0 ≤ (nI i).toInt ∧ (nI i).toInt < ((14 : Nat) : Int) := by rw [nI_t (by omega)]; omega
    have next : zV X d 108 41 [(0, .inr 22), (1, .inl o), (2, .inl a), (3, .inl v3), (4, .inl (nI (w + n))), (5, .inl (nI (max m e))), (6, .inl (nI (i + 1)))] [] μ (zpi P) := by
      refine ih (i + 1) (w + n) (max m e) (by omega) (fun j n' e' hj => ?_) (by omega) ?_
      · rw [show i + 1 + j = i + (j + 1) by omega]
        exact hr (j + 1) n' e' hj
      · rw [show su ((n, e) :: r) = n + su r by simp [su], show md ((n, e) :: r) = max e (md r) by simp [md], ← Nat.add_assoc, ← Nat.max_assoc] at hV
        exact hV
    refine k108_41 (fun z => absurd z hle) (fun z => absurd z hle) (fun z => absurd z hle) (fun z => absurd z hle) (fun z => absurd z hle) (fun z => absurd z hle) (fun _ => b1) (fun _ => b1) (fun _ z => ?_) (fun _ _ => b1) (fun _ z => ?_)
    · rw [ci, g5, nI_leI (by omega) (by omega)] at z
      refine k108_86 ?_
      rw [ci, g4, nI_add, nI_1]
      rw [Nat.max_eq_left z] at next
      exact next
    · rw [ci, g5, nI_leI (by omega) (by omega)] at z
      refine k108_86 ?_
      rw [ci, g4, g5, nI_add, nI_1]
      rw [Nat.max_eq_right (by omega)] at next
      exact next
def ms_put (μ : zm_u) (o a : Int32) (r : sT) (i n e : Nat) : zm_u :=
  zm_up (zm_up (zm_up (mbk (zm_up (mcl (zm_up (zm_up μ 31 0 o) 32 0 a) i 1 r) 22 10 (nI i)) (40 * i) 0 n) 29 i (nI n)) 30 i (nI e)) 22 10 (nI (i + 1))
theorem RS_dr (h : RS μ st) {i : Nat} : ∀ (j n e : Nat), (st.drop i)[j]? = some (n, e) → (1 ≤ n ∧ n ≤ 40 ∧ e ≤ 6) ∧ μ 29 (i + j) = nI n ∧ μ 30 (i + j) = nI e := by
  intro j n e hj
  rw [List.getElem?_drop] at hj
  exact h.2.2 _ _ _ hj
theorem RS_su (h : RS μ st) (i : Nat) : su (st.drop i) ≤ 480 := by
  have h1 := su_40 st (fun i n e hi => (h.2.2 i n e hi).1.2.1)
  have h2 := h.1
  have h3 := su_td st i
  omega
theorem RS_md (h : RS μ st) (i : Nat) : md (st.drop i) ≤ 6 := by
  obtain ⟨h1, h2, h4⟩ := h
  by_cases hi : i ≤ st.length
  · obtain ⟨j, hj⟩ : ∃ j, j + i = st.length := ⟨st.length - i, by omega⟩
    clear hi
    induction j generalizing i with
    | zero =>
      rw [List.drop_eq_nil_of_le (by omega)]
      exact Nat.zero_le _
    | succ j ih =>
      obtain ⟨n, e, he⟩ := st_at (st := st) (i := i) (by omega)
      rw [md_dr he]
      have := ih (i + 1) (by omega)
      have := (h4 i n e he).1.2.2
      omega
  · rw [List.drop_eq_nil_of_le (by omega)]
    exact Nat.zero_le _
theorem m_make (hd : 4 ≤ d) (h : RS μ st) (hL : (μ 22 0).toInt = L) : zI X d 108 [.inr 22, .inl o, .inl a] μ (fun r μ' =>
    (¬ (okop L o a ∧ ar o a ≤ st.length) ∧ r = -1 ∧ μ' = μ) ∨ (okop L o a ∧ ar o a ≤ st.length ∧ s_room st (ar o a) ∧ r = -2 ∧ μ' = μ) ∨
    (okop L o a ∧ ar o a ≤ st.length ∧ ¬ s_room st (ar o a) ∧ r = nI (1 + su (st.drop (st.length - ar o a))) ∧ μ' = ms_put μ o a (st.drop (st.length - ar o a)) (st.length - ar o a) (1 + su (st.drop (st.length - ar o a))) (1 + md (st.drop (st.length - ar o a))))) := by
  have h1 := h.1
  have h10 := h.2.1
  have hal := ar_le o a
  refine zI_at [0, 1, 2] (by omega) rfl (k108_0 ⟨_, m_fits (by omega) hL, fun r μ1 hr => ?_⟩)
  obtain ⟨rfl, ⟨hok, rfl⟩ | ⟨hok, rfl⟩⟩ := hr
  · refine k108_6 (fun _ => ⟨_, m_arity (by omega) (okop_ar hok).1 (okop_ar hok).2, fun r μ2 hr => ?_⟩) (fun z => absurd z zn_10)
    obtain ⟨rfl, rfl⟩ := hr
    refine k108_16 (fun z => ?_) (fun z => ?_)
    · rw [h10, nI_leI (by omega) (by omega)] at z
      generalize hkk : ar o a = k at *
      rw [h10, nI_sub z]
      have hsu := RS_su h (st.length - k)
      have hmd := RS_md h (st.length - k)
      have hV := m_lp1 (X := X) (d := d - 1) (o := o) (a := a) (v3 := nI k) (P := fun r μ' =>
        (¬ (okop L o a ∧ k ≤ st.length) ∧ r = -1 ∧ μ' = μ2) ∨ (okop L o a ∧ k ≤ st.length ∧ s_room st k ∧ r = -2 ∧ μ' = μ2) ∨
        (okop L o a ∧ k ≤ st.length ∧ ¬ s_room st k ∧ r = nI (1 + su (st.drop (st.length - k))) ∧ μ' = ms_put μ2 o a (st.drop (st.length - k)) (st.length - k) (1 + su (st.drop (st.length - k))) (1 + md (st.drop (st.length - k))))) h1 h10 (st.drop (st.length - k)) (st.length - k) 1 0 (by rw [List.length_drop]; omega) (RS_dr h) (by omega)
      refine hV ?_
      rw [Nat.zero_max]
      have e12 : (12 : Int32) = nI 12 := rfl
      have e40 : (40 : Int32) = nI 40 := rfl
      have e6 : (6 : Int32) = nI 6 := rfl
      have hle : μ2 22 10 ≤ nI st.length := by rw [h10]; exact Int32.le_refl _
      have b0 : 0 ≤ ((0 : Int32)).toInt ∧ ((0 : Int32)).toInt < ((40 : Nat) : Int) := by decide
      refine k108_41 (fun _ z2 => ?_) (fun _ _ z2 => ?_) (fun _ _ _ _ => b0) (fun _ _ _ _ => b0) (fun _ z2 z3 z4 => ?_) (fun _ _ _ z2 => ?_) (fun q => absurd hle q) (fun q => absurd hle q) (fun q => absurd hle q) (fun q => absurd hle q) (fun q => absurd hle q)
      · rw [h10, nI_sub z, e12, nI_inj (by omega) (by omega)] at z2
        exact Or.inr (Or.inl ⟨hok, z, Or.inl (by omega), rfl, rfl⟩)
      · rw [e40, nI_ltI (by omega) (by omega)] at z2
        exact Or.inr (Or.inl ⟨hok, z, Or.inr (Or.inl z2), rfl, rfl⟩)
      · rw [h10, nI_sub z, e12, nI_inj (by omega) (by omega)] at z2
        rw [e40, nI_ltI (by omega) (by omega)] at z3
        rw [e6, nI_inj (by omega) (by omega)] at z4
        rw [h10, nI_sub z]
        refine m_cpl (len := st.length) h1 (st.drop (st.length - k)) (st.length - k) 1 _ (by rw [List.length_drop]; omega) (by rw [zm_up_row (by decide), zm_up_row (by decide)]; exact h10) (fun j n e hj => ?_) (by omega) ?_
        · rw [zm_up_row (by decide), zm_up_row (by decide)]
          exact (RS_dr h j n e hj).2.1
        · rw [nI_sub z]
          refine m_bk (b := st.length - k) (n := 1 + su (st.drop (st.length - k))) (by omega) (by omega) (1 + su (st.drop (st.length - k))) 0 _ (by omega) (by rw [zm_up_self]; simp [upd]) ?_
          refine Or.inr (Or.inr ⟨hok, z, ?_, rfl, ?_⟩)
          · unfold s_room
            omega
          · unfold ms_put
            rw [nI_1, Nat.add_comm 1 (md _)]
            rfl
      · rw [e6, nI_inj (by omega) (by omega)] at z2
        exact Or.inr (Or.inl ⟨hok, z, Or.inr (Or.inr (by omega)), rfl, rfl⟩)
    · rw [h10, nI_leI (by omega) (by omega)] at z
      exact Or.inl ⟨fun q => z q.2, rfl, rfl⟩
  · exact k108_6 (fun z => absurd rfl z) (fun _ => Or.inl ⟨fun q => hok q.1, rfl, rfl⟩)
end MM3

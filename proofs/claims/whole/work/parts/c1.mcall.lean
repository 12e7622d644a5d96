def MK (T0 : tT) (res : Nat) (mk : Nat → Prop) : Prop := mk res ∧ ∀ i, i ≤ res → mk i → (kd T0 i = 2 → mk (k1 T0 i) ∧ mk (k2 T0 i)) ∧ (kd T0 i = 3 → mk (k1 T0 i)) ∧ (kd T0 i = 2 ∨ kd T0 i = 3 → i ∈ rl T0 3 res)
def cnt (R : List Nat) (t : Nat) : Nat := (R.filter (fun j => decide (t ≤ j))).length
section CL1
variable {X : zm_T} {d L n i j k a b e h hh p u q res m c r l : Nat} {μ μ' μ0 μ1 μs : zm_u} {T T' T1 T0 Tb : tT} {S S' : Nat → Tr} {N : Nat → Prop} {ν ν' : Nat → Tr} {R : List Nat} {v x : Int32} {tt : Tr} {mk : Nat → Prop}
theorem ad_m1 (x : Int32) : x + (-1) = x - 1 := by rw [Int32.sub_eq_add_neg]
theorem cnt_le : cnt R (i + 1) ≤ cnt R i := by
  unfold cnt
  induction R with
  | nil => simp
  | cons a R ih =>
    simp only [List.filter_cons]
    by_cases h1 : i + 1 ≤ a
    · have h2 : i ≤ a := by omega
      simp only [h1, h2, decide_true, if_true, List.length_cons]
      omega
    · by_cases h2 : i ≤ a
      · simp only [h1, h2, decide_true, decide_false, if_true, List.length_cons]
        simp
        omega
      · simp only [h1, h2, decide_false]
        simpa using ih
theorem cnt_lt (h : i ∈ R) : cnt R (i + 1) + 1 ≤ cnt R i := by
  unfold cnt
  induction R with
  | nil => simp at h
  | cons a R ih =>
    simp only [List.filter_cons]
    have hle := cnt_le (R := R) (i := i)
    unfold cnt at hle
    rcases List.mem_cons.mp h with rfl | h
    · have h1 : ¬ i + 1 ≤ i := by omega
      simp only [h1, decide_false, Nat.le_refl, decide_true, if_true, List.length_cons]
      simp
      omega
    · have ih := ih h
      by_cases h1 : i + 1 ≤ a
      · have h2 : i ≤ a := by omega
        simp only [h1, h2, decide_true, if_true, List.length_cons]
        omega
      · by_cases h2 : i ≤ a
        · simp only [h1, h2, decide_true, decide_false, if_true, List.length_cons]
          simp
          omega
        · simp only [h1, h2, decide_false]
          simpa using ih
theorem cnt_0 : cnt R i ≤ R.length := by
  unfold cnt
  exact List.length_filter_le _ _
theorem Tf_48 : Tf L μ (zm_up μ 48 i v) := ⟨fun c a b d => zm_up_row (by omega), fun j _ c c1 c2 => by rw [zm_up_row (by omega)], fun j _ _ => by rw [zm_up_row (by decide)]⟩
theorem RP_48 (h : RP μ T) : RP (zm_up μ 48 i v) T := by
  obtain ⟨h1, h2, h3, h4⟩ := h
  refine ⟨by rw [zm_up_row (by decide)]; exact h1, h2, h3, ?_⟩
  rw [zm_up_row (by decide), zm_up_row (by decide), zm_up_row (by decide)]
  exact h4
theorem up48 (hi : j ≠ i) : (zm_up μ 48 i v) 48 j = μ 48 j := by rw [zm_up_at, if_neg (by omega)]
theorem up48' : (zm_up μ 48 i v) 48 i = v := by rw [zm_up_at, if_pos ⟨rfl, rfl⟩]
theorem m_typeOfX (hd : 3 ≤ d) (h : RP μ T) (hL : L ≤ T.length) (hl : T.length < 600) {kk aa bb : Nat} (hk : 2 ≤ kk ∧ kk ≤ 4) (hq : kk = 2 ∧ aa < T.length ∧ bb < T.length ∨ kk = 3 ∧ aa < T.length ∧ bb = 0 ∨ kk = 4) (ha : aa < 10000) (hb : bb < 10000) :
    zI X d 101 [.inr 22, .inl (nI kk), .inl (nI aa), .inl (nI bb)] μ (fun r μ' => r = nI (tput T (kk, aa, bb)).2 ∧ RP μ' (tput T (kk, aa, bb)).1 ∧ Tf L μ μ' ∧ μ' 48 = μ 48) := by
  have h1 := h.1
  have hok : mt_ok μ := by unfold mt_ok; rw [h1, nI_t (by omega)]; omega
  refine zI_at [0, 1, 2, 3] (by omega) rfl (k101_0 ⟨_, m_seek (by omega) hok, fun r μ1 hr => ?_⟩)
  obtain ⟨rfl, ⟨rfl, hn⟩ | ⟨i, hi, rfl, hy, hb'⟩⟩ := hr
  · have e : t_find T (kk, aa, bb) = none := t_find_none (fun j hj z => hn j (by rw [h1, nI_t (by omega)]; omega) ((RP_at h hj hk.2 ha hb).mpr z))
    have n6 : ¬ μ1 22 1 = (600 : Int32) := by rw [h1, show (600 : Int32) = nI 600 from rfl, nI_inj (by omega) (by omega)]; omega
    refine k101_7 (fun z => absurd z (by decide)) (fun _ _ => ⟨_, m_define (by omega) (by rw [h1, nI_t (by omega)]; omega), fun r μ2 hr => k101_37 ?_⟩) (fun _ z => absurd z n6)
    obtain ⟨rfl, rfl⟩ := hr
    unfold tput
    rw [e]
    exact ⟨h1, RP_put (q := (kk, aa, bb)) h hl (tw_put h.2.2.1 hq ha hb), Tf_put h hL, mt_put_row (by decide) (by decide) (by decide) (by decide) (by decide)⟩
  · rw [h1, nI_t (by omega)] at hi
    have hi' : i < T.length := by omega
    have e : t_find T (kk, aa, bb) = some i := t_find_some ((RP_at h hi' hk.2 ha hb).mp hy) (fun j hj z => hb' j hj ((RP_at h (by omega) hk.2 ha hb).mpr z))
    have h0 : (0 : Int32) ≤ nI i := nI_ge0 (by omega)
    refine k101_7 (fun _ => k101_37 ?_) (fun z => absurd h0 z) (fun z => absurd h0 z)
    unfold tput
    rw [e]
    exact ⟨rfl, h, Tf_rf, rfl⟩
theorem m_typeOf2 {aa bb : Nat} (hd : 3 ≤ d) (h : RP μ T) (hL : L ≤ T.length) (hl : T.length < 600) (ha : aa < T.length) (hb : bb < T.length) :
    zI X d 101 [.inr 22, .inl 2, .inl (nI aa), .inl (nI bb)] μ (fun r μ' => r = nI (tput T (2, aa, bb)).2 ∧ RP μ' (tput T (2, aa, bb)).1 ∧ Tf L μ μ' ∧ μ' 48 = μ 48) := m_typeOfX (kk := 2) hd h hL hl (by omega) (Or.inl ⟨rfl, ha, hb⟩) (by omega) (by omega)
theorem m_exp2 {aa : Nat} (hd : 4 ≤ d) (h : RP μ T) (hL : L ≤ T.length) (hl : T.length < 600) (ha : aa < T.length) :
    zI X d 102 [.inr 22, .inl (nI aa)] μ (fun r μ' => r = nI (tput T (3, aa, 0)).2 ∧ RP μ' (tput T (3, aa, 0)).1 ∧ Tf L μ μ' ∧ μ' 48 = μ 48) :=
  zI_at [0, 1] (by omega) rfl (k102_0 ⟨_, m_typeOfX (kk := 3) (aa := aa) (bb := 0) (by omega) h hL hl (by omega) (Or.inr (Or.inl ⟨rfl, ha, rfl⟩)) (by omega) (by omega), fun r μ1 hr => k102_7 hr⟩)

theorem m_settle (hd : 5 ≤ d) (hR : RP μ T) (hT6 : T.length < 600) (hL : L ≤ T.length) (hL24 : L ≤ 24) (hw0 : tw T0) (h0L : T0.length = L) (hpre : ∀ i, i < L → T[i]? = T0[i]?) (hN : ∀ i a b, T0[i]? = some (4, a, b) → N i) (hi : i < L) (le : Lv T N e) (ee : tJ T ν e = tt)
    (h2 : kd T0 i = 2 → (∃ r, μ 48 (k1 T0 i) = nI r ∧ Lv T N r ∧ tJ T ν r = tJ T0 (sg T0 tt ν) (k1 T0 i)) ∧ ∃ r, μ 48 (k2 T0 i) = nI r ∧ Lv T N r ∧ tJ T ν r = tJ T0 (sg T0 tt ν) (k2 T0 i))
    (h3 : kd T0 i = 3 → ∃ r, μ 48 (k1 T0 i) = nI r ∧ Lv T N r ∧ tJ T ν r = tJ T0 (sg T0 tt ν) (k1 T0 i)) :
    zO X d 130 [.inr 22, .inl (nI i), .inl (nI e)] μ (fun μ' => ∃ T1 r, RP μ' T1 ∧ Rn (if kd T0 i = 2 ∨ kd T0 i = 3 then 1 else 0) T T1 ∧ Tf L μ μ' ∧ (∀ j, j ≠ i → μ' 48 j = μ 48 j) ∧ μ' 48 i = nI r ∧ Lv T1 N r ∧ tJ T1 ν r = tJ T0 (sg T0 tt ν) i) := by
  have hw := hR.2.2.1
  have hi0 : i < T0.length := by omega
  have hiT : i < T.length := by omega
  have hat := (hpre i hi).trans (at_kd hi0)
  obtain ⟨q1, q2, q3⟩ := kd_at hat
  obtain ⟨p23, p24, p25⟩ := hR.2.2.2 i hiT
  rw [q1] at p23
  rw [q2] at p24
  rw [q3] at p25
  have wi := kd_w hw0 hi0
  have ci : (nI i).toNatClampNeg = i := nI_c (by omega)
  have bi : 0 ≤ (nI i).toInt ∧ (nI i).toInt < ((600 : Nat) : Int) := by rw [nI_t (by omega)]; omega
  have e2 : (2 : Int32) = nI 2 := rfl
  have e3 : (3 : Int32) = nI 3 := rfl
  have e4 : (4 : Int32) = nI 4 := rfl
  have c23 : ∀ z : Nat, z ≤ 4 → (μ 23 (nI i).toNatClampNeg = nI z ↔ kd T0 i = z) := fun z hz => by rw [ci, p23, nI_inj (by omega) (by omega)]
  have self : kd T0 i ≠ 2 → kd T0 i ≠ 3 → (kd T0 i = 4 → k1 T0 i ≠ 0) → Lv T N i ∧ tJ T ν i = tJ T0 (sg T0 tt ν) i := by
    intro n2 n3 n4
    rcases kd_cases hw0 hi0 with ⟨k, e⟩ | ⟨k, e⟩ | ⟨k, x1, x2, e⟩ | ⟨k, x1, e⟩ | ⟨k, e⟩
    · rw [k] at hat
      exact ⟨⟨hiT, by rw [tJ_0 hat]; trivial⟩, by rw [tJ_0 hat, e]⟩
    · rw [k] at hat
      exact ⟨⟨hiT, by rw [tJ_1 hat]; trivial⟩, by rw [tJ_1 hat, e]⟩
    · exact absurd k n2
    · exact absurd k n3
    · have hq := at_kd hi0
      rw [k] at hat hq
      refine ⟨⟨hiT, by rw [tJ_4 hat]; exact hN i _ _ hq⟩, ?_⟩
      rw [tJ_4 hat, e]
      unfold sg
      rw [if_neg (n4 k)]
  refine zO_at [0, 1, 2] (by omega) rfl ?_
  have fin0 : ∀ (r : Nat) (v : Int32), v = nI r → kd T0 i ≠ 2 → kd T0 i ≠ 3 → Lv T N r → tJ T ν r = tJ T0 (sg T0 tt ν) i → zV X (d - 1) 130 117 [] [.inl v, .inl (nI i), .inr 48] μ (zpo (fun μ' => ∃ T1 r, RP μ' T1 ∧ Rn (if kd T0 i = 2 ∨ kd T0 i = 3 then 1 else 0) T T1 ∧ Tf L μ μ' ∧ (∀ j, j ≠ i → μ' 48 j = μ 48 j) ∧ μ' 48 i = nI r ∧ Lv T1 N r ∧ tJ T1 ν r = tJ T0 (sg T0 tt ν) i)) := by
    intro r v hv n2 n3 l1 m1
    refine k130_117 bi ?_
    rw [ci]
    exact ⟨T, r, RP_48 hR, Rn_rf hw, Tf_48, fun j hj => up48 hj, by rw [up48', hv], l1, m1⟩
  have fin1 : ∀ (μ1 : zm_u) (T1 : tT) (r : Nat), RP μ1 T1 → Rn 1 T T1 → Tf L μ μ1 → μ1 48 = μ 48 → kd T0 i = 2 ∨ kd T0 i = 3 → Lv T1 N r → tJ T1 ν r = tJ T0 (sg T0 tt ν) i → zV X (d - 1) 130 117 [] [.inl (nI r), .inl (nI i), .inr 48] μ1 (zpo (fun μ' => ∃ T1 r, RP μ' T1 ∧ Rn (if kd T0 i = 2 ∨ kd T0 i = 3 then 1 else 0) T T1 ∧ Tf L μ μ' ∧ (∀ j, j ≠ i → μ' 48 j = μ 48 j) ∧ μ' 48 i = nI r ∧ Lv T1 N r ∧ tJ T1 ν r = tJ T0 (sg T0 tt ν) i)) := by
    intro μ1 T1 r hR1 hn hf h48 hk l1 m1
    refine k130_117 bi ?_
    rw [ci, if_pos hk]
    exact ⟨T1, r, RP_48 hR1, hn, Tf_tr hf Tf_48, fun j hj => by rw [up48 hj, h48], up48', l1, m1⟩
  by_cases hk2 : kd T0 i = 2
  · obtain ⟨⟨ra, ea, la, ma⟩, ⟨rb, eb, lb, mb⟩⟩ := h2 hk2
    have wk := wi.2.1 hk2
    have t2 := (c23 2 (by omega)).mpr hk2
    have n4 : ¬ μ 23 (nI i).toNatClampNeg = (4 : Int32) := fun z => by have := (c23 4 (by omega)).mp z; omega
    have la1 := la.1
    have lb1 := lb.1
    obtain ⟨y1, y2, y3⟩ := r_pair (ν := ν) hw hT6 la lb
    have hE : tJ T0 (sg T0 tt ν) i = tP (tJ T0 (sg T0 tt ν) (k1 T0 i)) (tJ T0 (sg T0 tt ν) (k2 T0 i)) := by
      rcases kd_cases hw0 hi0 with ⟨k, e⟩ | ⟨k, e⟩ | ⟨k, x1, x2, e⟩ | ⟨k, x1, e⟩ | ⟨k, e⟩ <;> first | omega | exact e _
    refine k130_0 bi (fun _ => k130_20 bi (by rw [ci, p24, nI_t (by omega)]; omega) ?_) (fun z => absurd t2 z) (fun z => absurd t2 z) (fun z => absurd t2 z)
    rw [ci, p24, nI_c (by omega), ea]
    refine k130_35 bi (fun _ => bi) (fun _ z => absurd t2 z) (fun _ z => absurd t2 z) (fun _ z => absurd t2 z) (fun _ _ => bi) (fun _ _ => by rw [ci, p25, nI_t (by omega)]; omega) (fun _ _ => ?_) (fun z => absurd z n4) (fun z => absurd z n4) (fun z => absurd z n4)
    rw [ci, p25, nI_c (show k2 T0 i < 100000 by omega), eb]
    refine ⟨_, m_typeOf2 (by omega) hR hL hT6 la1 lb1, fun r' μ3 hr => k130_95 ?_⟩
    obtain ⟨rfl, hR3, hf3, h48⟩ := hr
    exact fin1 μ3 _ _ hR3 y1 hf3 h48 (Or.inl hk2) y2 (by rw [y3, ma, mb, hE])
  · by_cases hk3 : kd T0 i = 3
    · obtain ⟨ra, ea, la, ma⟩ := h3 hk3
      have wk := wi.2.2.1 hk3
      have t3 := (c23 3 (by omega)).mpr hk3
      have n2 : ¬ μ 23 (nI i).toNatClampNeg = (2 : Int32) := fun z => hk2 ((c23 2 (by omega)).mp z)
      have n4 : ¬ μ 23 (nI i).toNatClampNeg = (4 : Int32) := fun z => by have := (c23 4 (by omega)).mp z; omega
      have la1 := la.1
      obtain ⟨y1, y2, y3⟩ := r_exp (ν := ν) hw hT6 la
      have hE : tJ T0 (sg T0 tt ν) i = tE (tJ T0 (sg T0 tt ν) (k1 T0 i)) := by
        rcases kd_cases hw0 hi0 with ⟨k, e⟩ | ⟨k, e⟩ | ⟨k, x1, x2, e⟩ | ⟨k, x1, e⟩ | ⟨k, e⟩ <;> first | omega | exact e _
      refine k130_0 bi (fun z => absurd z n2) (fun _ => bi) (fun _ z => absurd t3 z) (fun _ _ => k130_20 bi (by rw [ci, p24, nI_t (by omega)]; omega) ?_)
      rw [ci, p24, nI_c (by omega), ea]
      refine k130_35 bi (fun _ => bi) (fun _ _ => bi) (fun _ _ z => absurd t3 z) (fun _ _ _ => ?_) (fun _ z => absurd z n2) (fun _ z => absurd z n2) (fun _ z => absurd z n2) (fun z => absurd z n4) (fun z => absurd z n4) (fun z => absurd z n4)
      refine ⟨_, m_exp2 (by omega) hR hL hT6 la1, fun r' μ3 hr => k130_113 ?_⟩
      obtain ⟨rfl, hR3, hf3, h48⟩ := hr
      exact fin1 μ3 _ _ hR3 y1 hf3 h48 (Or.inr hk3) y2 (by rw [y3, ma, hE])
    · have n2 : ¬ μ 23 (nI i).toNatClampNeg = (2 : Int32) := fun z => hk2 ((c23 2 (by omega)).mp z)
      have n3 : ¬ μ 23 (nI i).toNatClampNeg = (3 : Int32) := fun z => hk3 ((c23 3 (by omega)).mp z)
      refine k130_0 bi (fun z => absurd z n2) (fun _ => bi) (fun _ _ => ?_) (fun _ z => absurd z n3)
      refine k130_35 bi (fun _ => bi) (fun _ _ => bi) (fun z _ _ => ?_) (fun _ _ z => absurd z n3) (fun _ z => absurd z n2) (fun _ z => absurd z n2) (fun _ z => absurd z n2) (fun _ => bi) (fun z z0 => ?_) (fun z z0 => ?_)
      · obtain ⟨s1, s2⟩ := self hk2 hk3 (fun k4 => absurd ((c23 4 (by omega)).mpr k4) z)
        exact fin0 i _ rfl hk2 hk3 s1 s2
      · have k4 := (c23 4 (by omega)).mp z
        rw [ci, p24, show (0 : Int32) = nI 0 from rfl, nI_inj (by omega) (by omega)] at z0
        obtain ⟨s1, s2⟩ := self hk2 hk3 (fun _ => z0)
        exact fin0 i _ rfl hk2 hk3 s1 s2
      · have k4 := (c23 4 (by omega)).mp z
        rw [ci, p24, show (0 : Int32) = nI 0 from rfl, nI_inj (by omega) (by omega)] at z0
        refine fin0 e _ rfl hk2 hk3 le ?_
        rcases kd_cases hw0 hi0 with ⟨k, e⟩ | ⟨k, e⟩ | ⟨k, x1, x2, e⟩ | ⟨k, x1, e⟩ | ⟨k, e⟩ <;> first | omega | skip
        rw [e, ee]
        unfold sg
        rw [if_pos z0]
end CL1

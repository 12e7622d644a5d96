def bl (μ : zm_u) (T : tT) (rt : Nat → Nat) (t : Nat) : Prop := ∀ p, p < T.length → μ 44 t = nI p → (kd T p = 2 → μ 47 (rt (k1 T p)) ≠ 0 ∧ μ 47 (rt (k2 T p)) ≠ 0) ∧ (kd T p = 3 → μ 47 (rt (k1 T p)) ≠ 0)
def cu (rt : Nat → Nat) (f : Nat → Int32) : Nat → Nat
  | 0 => 0
  | n + 1 => cu rt f n + if rt n = n ∧ f n = 0 then 1 else 0
def Hts (T : tT) (rt ht : Nat → Nat) : Prop := (∀ i j, i < T.length → j < T.length → rt i = rt j → ht i = ht j) ∧ ∀ i, i < T.length → (kd T i = 2 → ht (k1 T i) < ht i ∧ ht (k2 T i) < ht i) ∧ (kd T i = 3 → ht (k1 T i) < ht i)
section FI
variable {X : zm_T} {d n i j p q x y a b t : Nat} {μ μ' μ1 : zm_u} {T : tT} {rt dep ht : Nat → Nat} {f f' : Nat → Int32}
theorem cu_le : ∀ n, (∀ i, i < n → f i ≠ 0 → f' i ≠ 0) → cu rt f' n ≤ cu rt f n := by
  intro n
  induction n with
  | zero => intro _; exact Nat.le_refl _
  | succ n ih =>
    intro h
    unfold cu
    have := ih (fun i hi => h i (by omega))
    have h2 := h n (by omega)
    by_cases z : rt n = n ∧ f n = 0
    · rw [if_pos z]; split <;> omega
    · rw [if_neg z, if_neg]
      · omega
      · intro w
        refine z ⟨w.1, ?_⟩
        by_cases z2 : f n = 0
        · exact z2
        · exact absurd w.2 (h2 z2)
theorem cu_lt : ∀ n, (∀ i, i < n → f i ≠ 0 → f' i ≠ 0) → x < n → rt x = x → f x = 0 → f' x ≠ 0 → cu rt f' n < cu rt f n := by
  intro n
  induction n with
  | zero => intro _ h; omega
  | succ n ih =>
    intro h hx rx h1 h2
    unfold cu
    by_cases e : x = n
    · subst e
      have := cu_le (rt := rt) x (fun i hi => h i (by omega))
      rw [if_neg (show ¬ (rt x = x ∧ f' x = 0) from fun w => h2 w.2), if_pos (show rt x = x ∧ f x = 0 from ⟨rx, h1⟩)]
      omega
    · have := ih (fun i hi => h i (by omega)) (by omega) rx h1 h2
      have h3 := h n (by omega)
      by_cases z : rt n = n ∧ f n = 0
      · rw [if_pos z]; split <;> omega
      · rw [if_neg z, if_neg]
        · omega
        · intro w
          refine z ⟨w.1, ?_⟩
          by_cases z2 : f n = 0
          · exact z2
          · exact absurd w.2 (h3 z2)
theorem m_isBelow (hd : 3 ≤ d) (hR : RP μ T) (hU : UF μ T.length rt dep) (hs : Us μ T rt) (ht : t < T.length) (rt' : rt t = t) : zI X d 119 [.inr 22, .inl (nI t)] μ (fun r μ' => μ' = μ ∧ (bl μ T rt t ∧ r = 1 ∨ ¬ bl μ T rt t ∧ r = 0)) := by
  have hl6 := hR.2.1
  have bt : 0 ≤ (nI t).toInt ∧ (nI t).toInt < ((600 : Nat) : Int) := by rw [nI_t (by omega)]; omega
  have ct : (nI t).toNatClampNeg = t := nI_c (by omega)
  have e2 : (2 : Int32) = nI 2 := rfl
  have e3 : (3 : Int32) = nI 3 := rfl
  refine zI_at [0, 1] (by omega) rfl ?_
  rcases hs t ht rt' with ⟨s1, s2⟩ | ⟨p, hp, s1, s2, s3⟩
  · refine k119_0 bt (fun _ => ⟨rfl, Or.inl ⟨fun p hp e => ?_, rfl⟩⟩) (fun z => absurd (by rw [ct, s1]; decide) z) (fun z => absurd (by rw [ct, s1]; decide) z) (fun z => absurd (by rw [ct, s1]; decide) z) (fun z => absurd (by rw [ct, s1]; decide) z)
    rw [s1] at e
    exact absurd e.symm (nI_m1 (by omega))
  · have np := nI_pos (n := p) (by omega)
    have bp : 0 ≤ (nI p).toInt ∧ (nI p).toInt < ((600 : Nat) : Int) := by rw [nI_t (by omega)]; omega
    have cp : (nI p).toNatClampNeg = p := nI_c (by omega)
    obtain ⟨p23, p24, p25⟩ := hR.2.2.2 p hp
    have wp := kd_w hR.2.2.1 hp
    have hbl : bl μ T rt t ↔ (kd T p = 2 → μ 47 (rt (k1 T p)) ≠ 0 ∧ μ 47 (rt (k2 T p)) ≠ 0) ∧ (kd T p = 3 → μ 47 (rt (k1 T p)) ≠ 0) := by
      constructor
      · exact fun z => z p hp s1
      · intro z p' hp' e
        rw [s1, nI_inj (by omega) (by omega)] at e
        subst e
        exact z
    refine k119_0 bt (fun z => absurd z (by rw [ct, s1]; exact np)) (fun _ => by rw [ct, s1]; exact bp) (fun _ _ => by rw [ct, s1]; exact bp) (fun _ z => ?_) (fun _ z => ⟨rfl, Or.inl ⟨?_, rfl⟩⟩)
    · rw [ct, s1, cp, p23, e2, nI_leI (by omega) (by omega)] at z
      rw [ct, s1, cp, p24]
      have hk1 : k1 T p < T.length := by omega
      refine ⟨_, m_top (by omega) hU hl6 hk1, fun r μ1 hr => ?_⟩
      obtain ⟨rfl, rfl⟩ := hr
      have hr1 := (hU _ hk1).1
      have c1 : (nI (rt (k1 T p))).toNatClampNeg = rt (k1 T p) := nI_c (by omega)
      refine k119_37 (by rw [nI_t (by omega)]; omega) (fun z1 => ⟨rfl, Or.inr ⟨fun w => ?_, rfl⟩⟩) (fun _ => bp) (fun z1 z2 => ⟨rfl, Or.inl ⟨?_, rfl⟩⟩) (fun _ _ => bp) (fun z1 z2 => ?_)
      · rw [c1] at z1
        rw [hbl] at w
        rcases (show kd T p = 2 ∨ kd T p = 3 by omega) with k | k
        · exact (w.1 k).1 z1
        · exact w.2 k z1
      · rw [c1] at z1
        rw [cp, p23, e3, nI_inj (by omega) (by omega)] at z2
        rw [hbl]
        exact ⟨fun k => by omega, fun _ => z1⟩
      · rw [c1] at z1
        rw [cp, p23, e3, nI_inj (by omega) (by omega)] at z2
        have k : kd T p = 2 := by omega
        have hk2 : k2 T p < T.length := by omega
        rw [cp, p25]
        refine ⟨_, m_top (by omega) hU hl6 hk2, fun r μ2 hr => ?_⟩
        obtain ⟨rfl, rfl⟩ := hr
        have hr2 := (hU _ hk2).1
        have c2 : (nI (rt (k2 T p))).toNatClampNeg = rt (k2 T p) := nI_c (by omega)
        refine k119_65 (by rw [nI_t (by omega)]; omega) (fun z3 => ⟨rfl, Or.inr ⟨fun w => ?_, rfl⟩⟩) (fun z3 => ⟨rfl, Or.inl ⟨?_, rfl⟩⟩)
        · rw [c2] at z3
          rw [hbl] at w
          exact (w.1 k).2 z3
        · rw [c2] at z3
          rw [hbl]
          exact ⟨fun _ => ⟨z1, z3⟩, fun k' => by omega⟩
    · rw [ct, s1, cp, p23, e2, nI_leI (by omega) (by omega)] at z
      rw [hbl]
      exact ⟨fun k => by omega, fun k => by omega⟩
theorem bl_eq (e1 : μ' 44 = μ 44) (e2 : ∀ i, μ' 47 i = μ 47 i) : bl μ' T rt t ↔ bl μ T rt t := by
  unfold bl
  rw [e1]
  simp only [e2]

theorem all_set (hl6 : T.length ≤ 600) (hU : UF μ T.length rt dep) (hs : Us μ T rt) (hH : Hts T rt ht) (hw : tw T) (h : ∀ i, i < T.length → rt i = i → μ 47 i = 0 → ¬ bl μ T rt i) : ∀ (m i : Nat), ht i < m → i < T.length → rt i = i → μ 47 i ≠ 0 := by
  intro m
  induction m with
  | zero => intro i hm; omega
  | succ m ih =>
    intro i hm hi hr z
    refine h i hi hr z (fun p hp e => ?_)
    have hpp : rt p = i := by
      rcases hs i hi hr with ⟨s1, _⟩ | ⟨p', hp', s1, s2, _⟩
      · rw [s1] at e
        exact absurd e.symm (nI_m1 (by omega))
      · rw [s1, nI_inj (by omega) (by omega)] at e
        subst e
        exact s2
    have hht : ht p = ht i := hH.1 p i hp hi (by rw [hpp, hr])
    have wp := kd_w hw hp
    have go : ∀ c, c < T.length → ht c < ht p → μ 47 (rt c) ≠ 0 := by
      intro c hc hlt
      obtain ⟨u1, u2, _⟩ := hU c hc
      exact ih (rt c) (by have := hH.1 (rt c) c u1 hc u2; omega) u1 u2
    refine ⟨fun k => ?_, fun k => ?_⟩
    · have := (hH.2 p hp).1 k
      exact ⟨go _ (by omega) this.1, go _ (by omega) this.2⟩
    · exact go _ (by omega) ((hH.2 p hp).2 k)
def F47 (μ μ' : zm_u) : Prop := ∀ c, c ≠ 47 → μ' c = μ c
theorem F47_SF (h : F47 μ μ') : SF μ μ' := ⟨fun c _ b => h c (by omega), fun i _ => by rw [h 22 (by decide)]⟩
theorem m_fin_inner (hd : 5 ≤ d) (hR : RP μ T) (hU : UF μ T.length rt dep) (hs : Us μ T rt) {P : Int32 → zm_u → Prop}
    (hP : ∀ (μ' : zm_u) (m o : Nat), F47 μ μ' → (∀ i, μ 47 i ≠ 0 → μ' 47 i ≠ 0) → m ≤ 1 → o ≤ 600 → (m = 0 → (∀ i, μ' 47 i = μ 47 i) ∧ ∀ i, i < T.length → rt i = i → μ 47 i = 0 → ¬ bl μ T rt i) → (m = 1 → ∃ x, x < T.length ∧ rt x = x ∧ μ 47 x = 0 ∧ μ' 47 x ≠ 0) → (o ≠ 0 → ∃ i, i < T.length ∧ rt i = i ∧ μ' 47 i = 0) → zV X d 120 27 [(0, .inr 22), (1, .inl (nI m)), (2, .inl (nI o))] [] μ' (zpi P)) :
    ∀ (r t : Nat), t + r = T.length → ∀ (μ1 : zm_u) (m o : Nat), F47 μ μ1 → (∀ i, μ 47 i ≠ 0 → μ1 47 i ≠ 0) → m ≤ 1 → o ≤ t → (m = 0 → (∀ i, μ1 47 i = μ 47 i) ∧ ∀ i, i < t → rt i = i → μ 47 i = 0 → ¬ bl μ T rt i) → (m = 1 → ∃ x, x < T.length ∧ rt x = x ∧ μ 47 x = 0 ∧ μ1 47 x ≠ 0) → (o ≠ 0 → ∃ i, i < t ∧ rt i = i ∧ μ1 47 i = 0) →
      zV X d 120 37 [(0, .inr 22), (1, .inl (nI m)), (2, .inl (nI o)), (3, .inl (nI t))] [] μ1 (zpi P) := by
  have hl6 := hR.2.1
  intro r
  induction r with
  | zero =>
    intro t ht μ1 m o hf hm m1 ho h0 h1 h2
    obtain rfl : t = T.length := by omega
    have hall : μ1 22 1 = nI T.length := by rw [hf 22 (by decide)]; exact hR.1
    have hle : μ1 22 1 ≤ nI T.length := by rw [hall, nI_leI (by omega) (by omega)]; omega
    exact k120_37 (fun _ => hP μ1 m o hf hm m1 (by omega) h0 h1 h2) (fun z => absurd hle z) (fun z => absurd hle z) (fun z => absurd hle z) (fun z => absurd hle z) (fun z => absurd hle z)
  | succ r ih =>
    intro t ht μ1 m o hf hm m1 ho h0 h1 h2
    have hall : μ1 22 1 = nI T.length := by rw [hf 22 (by decide)]; exact hR.1
    have hle : ¬ μ1 22 1 ≤ nI t := by rw [hall, nI_leI (by omega) (by omega)]; omega
    have bt : 0 ≤ (nI t).toInt ∧ (nI t).toInt < ((600 : Nat) : Int) := by rw [nI_t (by omega)]; omega
    have ct : (nI t).toNatClampNeg = t := nI_c (by omega)
    have hR1 : RP μ1 T := RP_SF hR (F47_SF hf)
    have hU1 : UF μ1 T.length rt dep := UF_43 hU (hf 43 (by decide))
    have hs1 : Us μ1 T rt := Us_44 hs (hf 44 (by decide))
    obtain ⟨u1, u2, p, hp, e, u3, u4, u4', u5⟩ := hU1 t (by omega)
    have nx : nI t + 1 = nI (t + 1) := by rw [← nI_one, nI_add]
    have skip : (rt t ≠ t ∨ μ1 47 t ≠ 0) → zV X d 120 111 [(0, .inr 22), (1, .inl (nI m)), (2, .inl (nI o)), (3, .inl (nI t))] [] μ1 (zpi P) := by
      intro hsk
      refine k120_111 ?_
      rw [nx]
      refine ih (t + 1) (by omega) μ1 m o hf hm m1 (by omega) (fun z => ⟨(h0 z).1, fun i hi hr hz => ?_⟩) h1 (fun z => ?_)
      · by_cases ei : i = t
        · subst ei
          rcases hsk with q | q
          · exact absurd hr q
          · rw [(h0 z).1 i] at q
            exact absurd hz q
        · exact (h0 z).2 i (by omega) hr hz
      · obtain ⟨i, q1, q2, q3⟩ := h2 z
        exact ⟨i, by omega, q2, q3⟩
    refine k120_37 (fun z => absurd z hle) (fun _ => bt) (fun _ z => ?_) (fun _ _ => bt) (fun _ _ z => ?_) (fun _ z1 z2 => ?_)
    · rw [ct, e, nI_inj (by omega) (by omega)] at z
      exact skip (Or.inl (fun q => z (u4' q)))
    · rw [ct] at z
      exact skip (Or.inr z)
    · rw [ct, e, nI_inj (by omega) (by omega)] at z1
      rw [ct] at z2
      have hrt := u4 z1
      have hst : μ 47 t = 0 := by
        by_cases q : μ 47 t = 0
        · exact q
        · exact absurd z2 (hm t q)
      refine ⟨_, m_isBelow (by omega) hR1 hU1 hs1 (by omega) hrt, fun r' μ2 hr => ?_⟩
      obtain ⟨rfl, ⟨hb, rfl⟩ | ⟨hb, rfl⟩⟩ := hr
      ·
        have hf3 : F47 μ (zm_up μ2 47 t 1) := fun c hc => (zm_up_row hc).trans (hf c hc)
        have h47 : ∀ i, (zm_up μ2 47 t 1) 47 i = if i = t then 1 else μ2 47 i := by
          intro i
          rw [zm_up_at]
          by_cases ei : i = t
          · rw [if_pos ⟨rfl, ei⟩, if_pos ei]
          · rw [if_neg (by omega), if_neg ei]
        have g88 : zV X d 120 88 [(0, .inr 22), (2, .inl (nI o)), (3, .inl (nI t))] [] (zm_up μ2 47 t 1) (zpi P) := by
          refine k120_88 (k120_93 bt (fun z => ?_) (fun _ => k120_109 (k120_111 ?_)))
          · rw [ct, h47, if_pos rfl] at z
            exact absurd z zn_10
          · rw [nx, Int32.add_zero]
            refine ih (t + 1) (by omega) _ 1 o hf3 (fun i hi => ?_) (by omega) (by omega) (fun z => absurd z (by omega)) (fun _ => ⟨t, by omega, hrt, hst, ?_⟩) (fun z => ?_)
            · rw [h47]; split
              · exact zn_10
              · exact hm i hi
            · rw [h47, if_pos rfl]; exact zn_10
            · obtain ⟨i, q1, q2, q3⟩ := h2 z
              exact ⟨i, by omega, q2, by rw [h47, if_neg (by omega)]; exact q3⟩
        refine k120_74 bt (Or.inr rfl) (fun _ => ?_) (fun _ => bt) (fun _ z => ?_) (fun _ _ => ?_)
        · rw [ct]; exact g88
        · rw [ct, h47, if_pos rfl] at z
          exact absurd z zn_10
        · rw [ct]; exact g88
      ·
        have hf3 : F47 μ (zm_up μ2 47 t 0) := fun c hc => (zm_up_row hc).trans (hf c hc)
        have h47 : ∀ i, (zm_up μ2 47 t 0) 47 i = μ2 47 i := by
          intro i
          rw [zm_up_at]
          by_cases ei : i = t
          · rw [if_pos ⟨rfl, ei⟩, ei, z2]
          · rw [if_neg (by omega)]
        have g93 : ∀ m' : Nat, m' = m → zV X d 120 93 [(0, .inr 22), (2, .inl (nI o)), (3, .inl (nI t))] [.inl (nI m')] (zm_up μ2 47 t 0) (zpi P) := by
          intro m' hm'
          subst hm'
          refine k120_93 bt (fun _ => k120_109 (k120_111 ?_)) (fun z => absurd (by rw [ct, h47]; exact z2) z)
          rw [nx, ← nI_one, nI_add]
          refine ih (t + 1) (by omega) _ m' (o + 1) hf3 (fun i hi => by rw [h47]; exact hm i hi) m1 (by omega) (fun z => ⟨fun i => (h47 i).trans ((h0 z).1 i), fun i hi hr hz => ?_⟩) (fun z => ?_) (fun _ => ⟨t, by omega, hrt, by rw [h47]; exact z2⟩)
          · by_cases ei : i = t
            · subst ei
              intro w
              exact hb ((bl_eq (hf 44 (by decide)) (h0 z).1).mpr w)
            · exact (h0 z).2 i (by omega) hr hz
          · obtain ⟨x, q1, q2, q3, q4⟩ := h1 z
            exact ⟨x, q1, q2, q3, by rw [h47]; exact q4⟩
        refine k120_74 bt (Or.inl rfl) (fun z => ?_) (fun _ => bt) (fun z _ => ?_) (fun _ z => absurd (by rw [ct, h47]; exact z2) z)
        · have : m = 1 := by
            by_cases q : m = 0
            · subst q; exact absurd rfl z
            · omega
          rw [ct]
          exact k120_88 (g93 1 this.symm)
        · have : m = 0 := by
            by_cases q : m = 0
            · exact q
            · have : m = 1 := by omega
              subst this
              exact absurd z zn_10
          rw [ct]
          exact g93 0 this.symm
theorem m_isFinite (hd : 6 ≤ d) (hR : RP μ T) (hU : UF μ T.length rt dep) (hs : Us μ T rt) (hH : Hts T rt ht) : zI X d 120 [.inr 22] μ (fun r μ' => r = 1 ∧ F47 μ μ') := by
  have hl6 := hR.2.1
  have rounds : ∀ (c : Nat) (μ1 : zm_u), F47 μ μ1 → cu rt (μ1 47) T.length ≤ c → ∀ o : Nat, zV X (d - 1) 120 27 [(0, .inr 22), (1, .inl (nI 1)), (2, .inl (nI o))] [] μ1 (zpi (fun r μ' => r = 1 ∧ F47 μ μ')) := by
    intro c
    induction c with
    | zero =>
      intro μ1 hf hc o
      have hR1 : RP μ1 T := RP_SF hR (F47_SF hf)
      have hU1 : UF μ1 T.length rt dep := UF_43 hU (hf 43 (by decide))
      have hs1 : Us μ1 T rt := Us_44 hs (hf 44 (by decide))
      refine k120_27 (fun z => absurd z zn_10) (fun z => absurd z zn_10) (fun _ => ?_)
      refine m_fin_inner (by omega) hR1 hU1 hs1 (fun μ2 m o' hf2 hm m1 ho h0 h1 h2 => ?_) T.length 0 (by omega) μ1 0 0 (fun _ _ => rfl) (fun _ z => z) (by omega) (by omega) (fun _ => ⟨fun _ => rfl, fun i hi => by omega⟩) (fun z => absurd z (by omega)) (fun z => absurd rfl z)
      by_cases hm0 : m = 0
      · subst hm0
        have ho0 : o' = 0 := by
          by_cases q : o' = 0
          · exact q
          · obtain ⟨i, q1, q2, q3⟩ := h2 q
            rw [(h0 rfl).1 i] at q3
            exact absurd q3 (all_set hl6 hU1 hs1 hH hR.2.2.1 (h0 rfl).2 (ht i + 1) i (by omega) q1 q2)
        subst ho0
        exact k120_27 (fun _ z => absurd rfl z) (fun _ _ => ⟨rfl, fun c hc => (hf2 c hc).trans (hf c hc)⟩) (fun z => absurd rfl z)
      · obtain ⟨x, x1, x2, x3, x4⟩ := h1 (by omega)
        have := cu_lt (rt := rt) (f := μ1 47) (f' := μ2 47) T.length (fun i _ => hm i) x1 x2 x3 x4
        omega
    | succ c ih =>
      intro μ1 hf hc o
      have hR1 : RP μ1 T := RP_SF hR (F47_SF hf)
      have hU1 : UF μ1 T.length rt dep := UF_43 hU (hf 43 (by decide))
      have hs1 : Us μ1 T rt := Us_44 hs (hf 44 (by decide))
      refine k120_27 (fun z => absurd z zn_10) (fun z => absurd z zn_10) (fun _ => ?_)
      refine m_fin_inner (by omega) hR1 hU1 hs1 (fun μ2 m o' hf2 hm m1 ho h0 h1 h2 => ?_) T.length 0 (by omega) μ1 0 0 (fun _ _ => rfl) (fun _ z => z) (by omega) (by omega) (fun _ => ⟨fun _ => rfl, fun i hi => by omega⟩) (fun z => absurd z (by omega)) (fun z => absurd rfl z)
      by_cases hm0 : m = 0
      · subst hm0
        have ho0 : o' = 0 := by
          by_cases q : o' = 0
          · exact q
          · obtain ⟨i, q1, q2, q3⟩ := h2 q
            rw [(h0 rfl).1 i] at q3
            exact absurd q3 (all_set hl6 hU1 hs1 hH hR.2.2.1 (h0 rfl).2 (ht i + 1) i (by omega) q1 q2)
        subst ho0
        exact k120_27 (fun _ z => absurd rfl z) (fun _ _ => ⟨rfl, fun c hc => (hf2 c hc).trans (hf c hc)⟩) (fun z => absurd rfl z)
      · obtain ⟨x, x1, x2, x3, x4⟩ := h1 (by omega)
        have := cu_lt (rt := rt) (f := μ1 47) (f' := μ2 47) T.length (fun i _ => hm i) x1 x2 x3 x4
        obtain rfl : m = 1 := by omega
        exact ih μ2 (fun c hc => (hf2 c hc).trans (hf c hc)) (by omega) o'
  have init : ∀ (r t : Nat), t + r = T.length → ∀ μ1, F47 μ μ1 → zV X (d - 1) 120 2 [(0, .inr 22), (1, .inl (nI t))] [] μ1 (zpi (fun r μ' => r = 1 ∧ F47 μ μ')) := by
    intro r
    induction r with
    | zero =>
      intro t htr μ1 hf
      have hall : μ1 22 1 = nI T.length := by rw [hf 22 (by decide)]; exact hR.1
      have hle : μ1 22 1 ≤ nI t := by rw [hall, nI_leI (by omega) (by omega)]; omega
      exact k120_2 (fun _ => rounds _ μ1 hf (Nat.le_refl _) 0) (fun z => absurd hle z) (fun z => absurd hle z) (fun z => absurd hle z)
    | succ r ih =>
      intro t htr μ1 hf
      have hall : μ1 22 1 = nI T.length := by rw [hf 22 (by decide)]; exact hR.1
      have hle : ¬ μ1 22 1 ≤ nI t := by rw [hall, nI_leI (by omega) (by omega)]; omega
      refine k120_2 (fun z => absurd z hle) (fun _ => by rw [nI_t (by omega)]; omega) (fun _ => Or.inl rfl) (fun _ => ?_)
      rw [← nI_one, nI_add]
      exact ih (t + 1) (by omega) _ (fun c hc => (zm_up_row hc).trans (hf c hc))
  exact zI_at [0] (by omega) rfl (k120_0 (init T.length 0 (by omega) μ (fun _ _ => rfl)))
end FI

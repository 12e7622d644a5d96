section MT2
variable {X : zm_T} {d : Nat} {μ : zm_u} {x y k a b rk sec : Int32} {T : tT}
theorem t_R_all (h : t_R μ T) : t_R (zm_up μ 22 1 (μ 22 0)) T := by
  refine ⟨?_, fun i k a b e => ?_⟩
  · rw [zm_up_self]
    exact h.1
  · rw [zm_up_row (by decide), zm_up_row (by decide), zm_up_row (by decide), zm_up_row (by decide)]
    exact h.2 i k a b e
theorem t_R_put (h : t_R μ T) (hw : t_wf T) (hall : μ 22 1 = μ 22 0) (hl : T.length < 24) {kk aa bb g : Nat} (ek : rk = nI kk) (ea : a = nI aa) (eb : sec = nI bb) (hg : t_h (T ++ [(kk, aa, bb)]) 4 T.length = g) :
    t_R (zm_up (mt_put μ rk a sec (nI g)) 22 0 (mt_put μ rk a sec (nI g) 22 1)) (T ++ [(kk, aa, bb)]) := by
  have hn : (μ 22 1).toNatClampNeg = T.length := by rw [hall, h.1, nI_c (by omega)]
  refine ⟨?_, fun i k' a' b' e => ?_⟩
  · rw [zm_up_self, mt_put_22]
    simp only [upd, if_true]
    rw [hall, h.1, nI_1, List.length_append]
    rfl
  · rw [zm_up_row (by decide), zm_up_row (by decide), zm_up_row (by decide), zm_up_row (by decide), mt_put_23, mt_put_24, mt_put_25, mt_put_26, hn]
    by_cases hi : i = T.length
    · subst hi
      rw [List.getElem?_append_right (Nat.le_refl _), Nat.sub_self] at e
      cases e
      subst ek; subst ea; subst eb
      simp only [upd, if_true]
      rw [hg]
      exact ⟨trivial, trivial, trivial, rfl⟩
    · have hlt : i < T.length := by
        have := (List.getElem?_eq_some_iff.mp e).1
        rw [List.length_append] at this
        simp only [List.length_cons, List.length_nil] at this
        omega
      rw [List.getElem?_append_left hlt] at e
      simp only [upd, if_neg hi]
      rw [t_h_app hw _ 4 i hlt]
      exact h.2 i k' a' b' e
def mt_fr (μ μ' : zm_u) : Prop := (∀ c, c ≠ 22 → c ≠ 23 → c ≠ 24 → c ≠ 25 → c ≠ 26 → μ' c = μ c) ∧ ∀ i, i ≠ 0 → i ≠ 1 → μ' 22 i = μ 22 i
theorem mt_fr_all : mt_fr μ (zm_up μ 22 1 (μ 22 0)) := by
  refine ⟨fun c h _ _ _ _ => zm_up_row h, fun i _ h1 => ?_⟩
  rw [zm_up_self]
  simp only [upd, if_neg h1]
theorem mt_fr_put {h : Int32} : mt_fr μ (zm_up (mt_put μ k a b h) 22 0 (mt_put μ k a b h 22 1)) := by
  refine ⟨fun c h1 h2 h3 h4 h5 => ?_, fun i h0 h1 => ?_⟩
  · rw [zm_up_row h1, mt_put_row h1 h2 h3 h4 h5]
  · rw [zm_up_self, mt_put_22]
    simp only [upd, if_neg h0, if_neg h1]
theorem mt_fr_tr {μ1 μ2 : zm_u} (h1 : mt_fr μ μ1) (h2 : mt_fr μ1 μ2) : mt_fr μ μ2 :=
  ⟨fun c a b d e f => (h2.1 c a b d e f).trans (h1.1 c a b d e f), fun i a b => (h2.2 i a b).trans (h1.2 i a b)⟩
theorem m_type_end (hd : 2 ≤ d) (h : t_R μ T) (hw : t_wf T) (hall : μ 22 1 = μ 22 0) (hl : T.length ≤ 24) {kk aa bb g : Nat} (ek : rk = nI kk) (ea : a = nI aa) (eb : sec = nI bb) (hg : T.length ≠ 24 → g ≤ 4 → t_h (T ++ [(kk, aa, bb)]) 4 T.length = g) (hg9 : g < 100) {P : Int32 → zm_u → Prop}
    (hP : ∀ (r : Int32) (T' : tT) (μ' : zm_u), (r, T') = (if T.length = 24 ∨ 4 < g then ((-2 : Int32), T) else (nI T.length, T ++ [(kk, aa, bb)])) → t_R μ' T' → mt_fr μ μ' → P r μ') :
    zV X d 104 172 [(0, .inr 22), (2, .inl a), (5, .inl rk), (6, .inl sec)] [.inl (nI g)] μ (zpi P) := by
  have hn : (μ 22 0).toInt = T.length := by rw [h.1, nI_t (by omega)]
  have e24 : (24 : Int32).toInt = 24 := by decide
  have e4 : (4 : Int32).toInt = 4 := by decide
  refine k104_172 (fun z => ?_) (fun z z2 => ⟨_, m_define (by omega) (by rw [hall]; omega), fun r μ1 hr => ?_⟩) (fun z z2 => ?_)
  · rw [← Int32.toInt_inj, e24, hn] at z
    exact hP _ _ _ (by rw [if_pos (Or.inl (by omega))]) h ⟨fun _ _ _ _ _ _ => rfl, fun _ _ _ => rfl⟩
  · obtain ⟨rfl, rfl⟩ := hr
    rw [← Int32.toInt_inj, e24, hn] at z
    rw [Int32.le_iff_toInt_le, e4, nI_t (by omega)] at z2
    refine k104_203 (hP _ _ _ ?_ (t_R_put h hw hall (by omega) ek ea eb (hg (by omega) (by omega))) mt_fr_put)
    rw [if_neg (by omega), hall, h.1]
  · rw [← Int32.toInt_inj, e24, hn] at z
    rw [Int32.le_iff_toInt_le, e4, nI_t (by omega)] at z2
    exact hP _ _ _ (by rw [if_pos (Or.inr (by omega))]) h ⟨fun _ _ _ _ _ _ => rfl, fun _ _ _ => rfl⟩
theorem t_h_new4 {aa bb : Nat} : t_h (T ++ [(4, aa, bb)]) 4 T.length = 1 := by
  rw [t_h, List.getElem?_append_right (Nat.le_refl _), Nat.sub_self]
  rfl
theorem t_h_new3 {aa bb : Nat} (hw : t_wf T) (ha : aa < T.length) (hg : 1 + t_h T 4 aa ≤ 4) : t_h (T ++ [(3, aa, bb)]) 4 T.length = 1 + t_h T 4 aa := by
  rw [t_h, List.getElem?_append_right (Nat.le_refl _), Nat.sub_self]
  show 1 + t_h (T ++ [(3, aa, bb)]) 3 aa = _
  rw [t_h_app hw _ 3 aa ha, t_h_dn T 3 aa (by show t_h T 4 aa ≤ 3; omega)]
theorem t_h_new2 {aa bb : Nat} (hw : t_wf T) (ha : aa < T.length) (hb : bb < T.length) (hg : 1 + max (t_h T 4 aa) (t_h T 4 bb) ≤ 4) : t_h (T ++ [(2, aa, bb)]) 4 T.length = 1 + max (t_h T 4 aa) (t_h T 4 bb) := by
  rw [t_h, List.getElem?_append_right (Nat.le_refl _), Nat.sub_self]
  show 1 + max (t_h (T ++ [(2, aa, bb)]) 3 aa) (t_h (T ++ [(2, aa, bb)]) 3 bb) = _
  rw [t_h_app hw _ 3 aa ha, t_h_app hw _ 3 bb hb, t_h_dn T 3 aa (by show t_h T 4 aa ≤ 3; omega), t_h_dn T 3 bb (by show t_h T 4 bb ≤ 3; omega)]
theorem nI_1p (n : Nat) : (1 : Int32) + nI n = nI (1 + n) := nI_add 1 n
theorem t_R_h (h : t_R μ T) {i : Nat} (hi : i < T.length) : μ 26 i = nI (t_h T 4 i) := by
  obtain ⟨k, a, b, e⟩ := t_at hi
  exact (h.2 i k a b e).2.2.2
theorem m_type (hd : 5 ≤ d) (h : t_R μ T) (hw : t_wf T) (hl : T.length ≤ 24) : zI X d 104 [.inr 22, .inl k, .inl a, .inl b] μ (fun r μ' => ∃ T', t_make T k a b = (r, T') ∧ t_R μ' T' ∧ mt_fr μ μ') := by
  have hbad : ¬ ((k = 0 ∧ 0 ≤ a.toInt ∧ a.toInt < T.length ∧ 0 ≤ b.toInt ∧ b.toInt < T.length) ∨ (k = 1 ∧ 0 ≤ a.toInt ∧ a.toInt < T.length) ∨ (k = 2 ∧ 0 ≤ a.toInt ∧ a.toInt < 3)) →
      zV X (d - 1) 104 60 [(0, .inr 22), (1, .inl k), (2, .inl a), (3, .inl b)] [.inl 0] μ (zpi (fun r μ' => ∃ T', t_make T k a b = (r, T') ∧ t_R μ' T' ∧ mt_fr μ μ')) := by
    intro hn
    refine k104_60 (fun z => absurd rfl z) (fun z => absurd rfl z) (fun z => absurd rfl z) (fun _ => ⟨T, ?_, h, ⟨fun _ _ _ _ _ _ => rfl, fun _ _ _ => rfl⟩⟩)
    unfold t_make
    rw [if_neg hn]
  have hall : zm_up μ 22 1 (μ 22 0) 22 1 = zm_up μ 22 1 (μ 22 0) 22 0 := by
    rw [zm_up_self]
    simp [upd]
  have hne : ∀ i, i < T.length → ¬ nI i < 0 := fun i hi => nI_pos (by omega)
  have hlt : (-1 : Int32) < 0 := by decide
  have e2 : (2 : Int32).toInt = 2 := by decide
  have e3 : (0 : Int32).toInt = 0 := by decide
  refine zI_at [0, 1, 2, 3] (by omega) rfl (k104_0 (fun h0 h1 h2 => ?_) (fun h0 h1 h2 h3 => ?_) (fun h0 h1 h2 h3 h4 => ?_) (fun h0 h1 h2 h3 h4 => ?_) (fun h0 h1 => ?_) (fun h0 => ?_))
  · refine k104_59 (hbad ?_)
    rintro (⟨q, _⟩ | ⟨q, _⟩ | ⟨q, _⟩)
    · exact h0 q
    · exact h1 q
    · exact h2 q
  · refine k104_59 (hbad ?_)
    rw [Int32.lt_iff_toInt_lt, e3] at h3
    rintro (⟨q, _⟩ | ⟨q, _⟩ | ⟨q, q1, q2⟩)
    · exact h0 q
    · exact h1 q
    · omega
  · refine k104_59 (hbad ?_)
    rw [Int32.lt_iff_toInt_lt, e2] at h4
    rintro (⟨q, _⟩ | ⟨q, _⟩ | ⟨q, q1, q2⟩)
    · exact h0 q
    · exact h1 q
    · omega
  · subst h2
    rw [Int32.lt_iff_toInt_lt, e3] at h3
    rw [Int32.lt_iff_toInt_lt, e2] at h4
    have hgood : ((2 : Int32) = 0 ∧ 0 ≤ a.toInt ∧ a.toInt < T.length ∧ 0 ≤ b.toInt ∧ b.toInt < T.length) ∨ ((2 : Int32) = 1 ∧ 0 ≤ a.toInt ∧ a.toInt < T.length) ∨ ((2 : Int32) = 2 ∧ 0 ≤ a.toInt ∧ a.toInt < 3) := Or.inr (Or.inr ⟨rfl, by omega, by omega⟩)
    refine k104_60 (fun _ _ _ => ?_) (fun _ _ z => absurd z zn_21) (fun _ z => absurd z zn_20) (fun z => absurd z zn_10)
    refine k104_95 (fun _ => ?_) (fun z => absurd z zn_20)
    have ea := zn_toN (x := a) (by omega)
    refine k104_106 ⟨_, m_seekE (kk := 4) (aa := a.toInt.toNat) (bb := 0) (by omega) (t_R_all h) hall hw hl (by omega) (by omega) (by omega) rfl ea rfl, fun r μ1 hr => ?_⟩
    obtain ⟨rfl, hr⟩ := hr
    cases hf : t_find T (4, a.toInt.toNat, 0) with
    | some i =>
      rw [hf] at hr
      obtain ⟨rfl, hi⟩ := hr
      refine k104_117 (fun z => absurd z (hne i hi)) (fun z => absurd z (hne i hi)) (fun z => absurd z (hne i hi)) (fun z => absurd z (hne i hi)) (fun z => absurd z (hne i hi)) (fun z => absurd z (hne i hi)) (fun z => absurd z (hne i hi)) (fun _ => ⟨T, ?_, t_R_all h, mt_fr_all⟩)
      unfold t_make
      rw [if_pos hgood]
      show (match t_find T (4, a.toInt.toNat, 0) with
        | some i => (nI i, T)
        | none => _) = _
      rw [hf]
    | none =>
      rw [hf] at hr
      obtain rfl := hr
      refine k104_117 (fun _ z => absurd rfl z) (fun _ z => absurd rfl z) (fun _ z => absurd rfl z) (fun _ z => absurd rfl z) (fun _ z => absurd rfl z) (fun _ z => absurd rfl z) (fun _ _ => ?_) (fun z => absurd hlt z)
      refine m_type_end (kk := 4) (aa := a.toInt.toNat) (bb := 0) (g := 1) (by omega) (t_R_all h) hw hall hl rfl ea rfl (fun _ _ => t_h_new4) (by omega) (fun r T' μ' e hR hfr => ⟨T', ?_, hR, mt_fr_tr mt_fr_all hfr⟩)
      rw [e]
      unfold t_make
      rw [if_pos hgood]
      show (match t_find T (4, a.toInt.toNat, 0) with
        | some i => (nI i, T)
        | none => _) = _
      rw [hf]
      rfl
  · subst h1
    refine ⟨_, m_isType (by omega), fun r μ1 hr => ?_⟩
    obtain ⟨rfl, hr⟩ := hr
    rw [t_R_has h hl] at hr
    rcases hr with ⟨hr, rfl⟩ | ⟨hr, rfl⟩
    · have hgood : ((1 : Int32) = 0 ∧ 0 ≤ a.toInt ∧ a.toInt < T.length ∧ 0 ≤ b.toInt ∧ b.toInt < T.length) ∨ ((1 : Int32) = 1 ∧ 0 ≤ a.toInt ∧ a.toInt < T.length) ∨ ((1 : Int32) = 2 ∧ 0 ≤ a.toInt ∧ a.toInt < 3) := Or.inr (Or.inl ⟨rfl, hr.1, hr.2⟩)
      refine k104_38 (k104_60 (fun _ _ z => absurd rfl z) (fun _ _ _ => ?_) (fun _ z => absurd z zn_10) (fun z => absurd z zn_10))
      refine k104_95 (fun _ => ?_) (fun z => absurd z zn_10)
      have ea := zn_toN (x := a) hr.1
      refine k104_106 ⟨_, m_seekE (kk := 3) (aa := a.toInt.toNat) (bb := 0) (by omega) (t_R_all h) hall hw hl (by omega) (by omega) (by omega) rfl ea rfl, fun r μ1 hr => ?_⟩
      obtain ⟨rfl, hr'⟩ := hr
      cases hf : t_find T (3, a.toInt.toNat, 0) with
      | some i =>
        rw [hf] at hr'
        obtain ⟨rfl, hi⟩ := hr'
        refine k104_117 (fun z => absurd z (hne i hi)) (fun z => absurd z (hne i hi)) (fun z => absurd z (hne i hi)) (fun z => absurd z (hne i hi)) (fun z => absurd z (hne i hi)) (fun z => absurd z (hne i hi)) (fun z => absurd z (hne i hi)) (fun _ => ⟨T, ?_, t_R_all h, mt_fr_all⟩)
        unfold t_make
        rw [if_pos hgood]
        show (match t_find T (3, a.toInt.toNat, 0) with
          | some i => (nI i, T)
          | none => _) = _
        rw [hf]
      | none =>
        rw [hf] at hr'
        obtain rfl := hr'
        refine k104_117 (fun _ _ _ => ?_) (fun _ _ z => absurd z zn_10) (fun _ _ z => absurd z zn_10) (fun _ _ z => absurd z zn_10) (fun _ _ z => absurd z zn_10) (fun _ _ z => absurd z zn_10) (fun _ z => absurd z zn_12) (fun z => absurd hlt z)
        refine k104_165 ⟨hr.1, by omega⟩ (k104_171 ?_)
        have hli : a.toNatClampNeg < T.length := by rw [zn_cl]; omega
        rw [t_R_h (t_R_all h) hli, nI_1p]
        have h7 := t_h_le T 4 a.toNatClampNeg
        refine m_type_end (kk := 3) (aa := a.toInt.toNat) (bb := 0) (g := 1 + t_h T 4 a.toInt.toNat) (by omega) (t_R_all h) hw hall hl rfl ea rfl (fun _ h9 => t_h_new3 hw (by omega) h9) (by rw [zn_cl] at h7; omega) (fun r T' μ' e hR hfr => ⟨T', ?_, hR, mt_fr_tr mt_fr_all hfr⟩)
        rw [e]
        unfold t_make
        rw [if_pos hgood]
        show (match t_find T (3, a.toInt.toNat, 0) with
          | some i => (nI i, T)
          | none => _) = _
        rw [hf]
        rfl
    · refine k104_38 (hbad ?_)
      rintro (⟨q, _⟩ | ⟨_, q⟩ | ⟨q, _⟩)
      · exact zn_10 q
      · exact hr q
      · exact zn_12 q
  · subst h0
    refine ⟨_, m_isType (by omega), fun r μ1 hr => ?_⟩
    obtain ⟨rfl, hr⟩ := hr
    rw [t_R_has h hl] at hr
    rcases hr with ⟨hra, rfl⟩ | ⟨hra, rfl⟩
    · refine k104_9 (fun z => absurd z zn_10) (fun _ => ⟨_, m_isType (by omega), fun r μ1 hr => ?_⟩)
      obtain ⟨rfl, hr⟩ := hr
      rw [t_R_has h hl] at hr
      rcases hr with ⟨hrb, rfl⟩ | ⟨hrb, rfl⟩
      · have hgood : ((0 : Int32) = 0 ∧ 0 ≤ a.toInt ∧ a.toInt < T.length ∧ 0 ≤ b.toInt ∧ b.toInt < T.length) ∨ ((0 : Int32) = 1 ∧ 0 ≤ a.toInt ∧ a.toInt < T.length) ∨ ((0 : Int32) = 2 ∧ 0 ≤ a.toInt ∧ a.toInt < 3) := Or.inl ⟨rfl, hra.1, hra.2, hrb.1, hrb.2⟩
        refine k104_17 (fun z => absurd z zn_10) (fun _ => ?_)
        refine k104_60 (fun _ z => absurd rfl z) (fun _ z => absurd rfl z) (fun _ _ => ?_) (fun z => absurd z zn_10)
        refine k104_95 (fun z => absurd rfl z) (fun _ => ?_)
        have ea := zn_toN (x := a) hra.1
        have eb := zn_toN (x := b) hrb.1
        refine k104_106 ⟨_, m_seekE (kk := 2) (aa := a.toInt.toNat) (bb := b.toInt.toNat) (by omega) (t_R_all h) hall hw hl (by omega) (by omega) (by omega) rfl ea eb, fun r μ1 hr => ?_⟩
        obtain ⟨rfl, hr'⟩ := hr
        cases hf : t_find T (2, a.toInt.toNat, b.toInt.toNat) with
        | some i =>
          rw [hf] at hr'
          obtain ⟨rfl, hi⟩ := hr'
          refine k104_117 (fun z => absurd z (hne i hi)) (fun z => absurd z (hne i hi)) (fun z => absurd z (hne i hi)) (fun z => absurd z (hne i hi)) (fun z => absurd z (hne i hi)) (fun z => absurd z (hne i hi)) (fun z => absurd z (hne i hi)) (fun _ => ⟨T, ?_, t_R_all h, mt_fr_all⟩)
          unfold t_make
          rw [if_pos hgood]
          show (match t_find T (2, a.toInt.toNat, b.toInt.toNat) with
            | some i => (nI i, T)
            | none => _) = _
          rw [hf]
        | none =>
          rw [hf] at hr'
          obtain rfl := hr'
          have hla : a.toNatClampNeg < T.length := by rw [zn_cl]; omega
          have hlb : b.toNatClampNeg < T.length := by rw [zn_cl]; omega
          have h7 := t_h_le T 4 a.toNatClampNeg
          have h8 := t_h_le T 4 b.toNatClampNeg
          have fin : zV X (d - 1) 104 172 [(0, .inr 22), (2, .inl a), (5, .inl 2), (6, .inl b)] [.inl (nI (1 + max (t_h T 4 a.toNatClampNeg) (t_h T 4 b.toNatClampNeg)))] (zm_up μ1 22 1 (μ1 22 0)) (zpi (fun r μ' => ∃ T', t_make T 0 a b = (r, T') ∧ t_R μ' T' ∧ mt_fr μ1 μ')) := by
            refine m_type_end (kk := 2) (aa := a.toInt.toNat) (bb := b.toInt.toNat) (g := 1 + max (t_h T 4 a.toInt.toNat) (t_h T 4 b.toInt.toNat)) (by omega) (t_R_all h) hw hall hl rfl ea eb (fun _ h9 => t_h_new2 hw (by omega) (by omega) h9) (by have q1 := t_h_le T 4 a.toInt.toNat; have q2 := t_h_le T 4 b.toInt.toNat; omega) (fun r T' μ' e hR hfr => ⟨T', ?_, hR, mt_fr_tr mt_fr_all hfr⟩)
            rw [e]
            unfold t_make
            rw [if_pos hgood]
            show (match t_find T (2, a.toInt.toNat, b.toInt.toNat) with
              | some i => (nI i, T)
              | none => _) = _
            rw [hf]
            rfl
          refine k104_117 (fun _ _ z => absurd rfl z) (fun _ _ _ => ⟨hrb.1, by omega⟩) (fun _ _ _ => ⟨hra.1, by omega⟩) (fun _ _ _ z => ?_) (fun _ _ _ _ => ⟨hrb.1, by omega⟩) (fun _ _ _ z => ?_) (fun _ z => absurd z zn_02) (fun z => absurd hlt z)
          · rw [t_R_h (t_R_all h) hla, t_R_h (t_R_all h) hlb, nI_leI (by omega) (by omega)] at z
            refine k104_165 ⟨hra.1, by omega⟩ (k104_171 ?_)
            rw [t_R_h (t_R_all h) hla, nI_1p, show 1 + t_h T 4 a.toNatClampNeg = 1 + max (t_h T 4 a.toNatClampNeg) (t_h T 4 b.toNatClampNeg) by omega]
            exact fin
          · rw [t_R_h (t_R_all h) hla, t_R_h (t_R_all h) hlb, nI_leI (by omega) (by omega)] at z
            refine k104_171 ?_
            rw [t_R_h (t_R_all h) hlb, nI_1p, show 1 + t_h T 4 b.toNatClampNeg = 1 + max (t_h T 4 a.toNatClampNeg) (t_h T 4 b.toNatClampNeg) by omega]
            exact fin
      · refine k104_17 (fun _ => k104_24 (hbad ?_)) (fun z => absurd rfl z)
        rintro (⟨_, _, _, q⟩ | ⟨q, _⟩ | ⟨q, _⟩)
        · exact hrb q
        · exact zn_01 q
        · exact zn_02 q
    · refine k104_9 (fun _ => k104_24 (hbad ?_)) (fun z => absurd rfl z)
      rintro (⟨_, q1, q2, _⟩ | ⟨q, _⟩ | ⟨q, _⟩)
      · exact hra ⟨q1, q2⟩
      · exact zn_01 q
      · exact zn_02 q
end MT2

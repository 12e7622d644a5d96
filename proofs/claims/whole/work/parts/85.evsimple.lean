def EI (vs : List vE) (s t B f : Nat) (E : Nat → Nat) : Prop := vs.length < s ∧ s ≤ 600 ∧ B ≤ t ∧ t ≤ 79 ∧ f < 30 ∧ (∀ i, i < t → E i < vs.length) ∧ VW vs
def JC (X : zm_T) (μ0 : zm_u) (dc dr p q k : Nat) (vs : List vE) (s b t B f : Nat) (E : Nat → Nat) : Prop := ∃ (o : Int32) (vs' : List vE) (s' : Nat), EPost vs (s - 1) o vs' s' ∧ CX X dc μ0 q k vs s b t B E o vs' s' ∧ RX X dr μ0 p vs s b t B E f o vs' s'

def RtT (L : Nat) (μ0 : zm_u) (p q k : Nat) : Prop := p < 560 ∧ q < 560 ∧ μ0 27 p = nI k ∧ μ0 9 q = nI k ∧ μ0 28 p = μ0 10 q ∧ okop L (nI k) (μ0 10 q)
section EP
variable {X : zm_T} {dc dr L : Nat} {μ μ' μ0 μ1 : zm_u} {vs vs' : List vE} {s b t B f i w p q : Nat} {E : Nat → Nat} {num o x : Int32} {ps : List Nat}
theorem c_argSA {d : Nat} (hd : 2 ≤ d) (hs : SA μ0 μ) (hq : q < 560) : zI X d 33 [.inr 2, .inl (nI q)] μ (fun r μ' => μ' = μ ∧ r = μ0 10 q) := by
  rw [← hs.2.1]
  exact c_argumentOf hd hq

theorem m_simple (hd : 6 ≤ dr) {k : Nat} (hk : k < 3) (hr : RtT L μ0 p q k) (hi : EI vs s t B f E) (hs : SA μ0 μ) (hR : RE μ vs s b t B E (f + 1)) (hF : FD μ f p 0 B t) {P : Int32 → zm_u → Prop} (h : zV X (dr - 2) 150 0 [(0, .inr 22), (1, .inl (nI p)), (2, .inl (nI k))] [] (zm_up μ 52 f (nI 1)) (zpo (fun μ' => zV X dr 155 47 [(0, .inr 22)] [] μ' (zpi P)))) : zV X dr 155 47 [(0, .inr 22)] [] μ (zpi P) := by
  obtain ⟨r1, r2, r3, r4, r5, r6⟩ := hr
  have hop : μ 27 p = nI k := by rw [hs.2.2.2.1]; exact r3
  have e3 : (3 : Int32) = nI 3 := rfl
  have n3 : ¬ (3 : Int32) ≤ nI k := by rw [e3, nI_leI (by omega) (by omega)]; omega
  have hf := hi.2.2.2.2.1
  refine m_iter (G := fun μ' => zV X dr 155 47 [(0, .inr 22)] [] μ' (zpi P)) (by omega) hR (by omega) (m_one0 hR (by omega) r1 hF hop ?_) (fun μ' q => q)
  refine k149_88 (fun z => absurd z n3) (fun z => absurd z n3) (fun z => absurd z n3) (fun z => absurd z n3) (fun z => absurd z n3) (fun _ => ⟨fun μ' => zV X dr 155 47 [(0, .inr 22)] [] μ' (zpi P), zO_at [0, 1, 2] (by omega) rfl h, fun μ1 hg => k149_99 (k149_185 hg)⟩)
theorem JC_0 (hdc : 5 ≤ dc) (hdr : 8 ≤ dr) (hr : RtT L μ0 p q 0) (hi : EI vs s t B f E) : JC X μ0 dc dr p q 0 vs s b t B f E := by
  obtain ⟨i1, i2, i3, i4, i5, i6, i7⟩ := hi
  refine ⟨nI vs.length, vs ++ [(1000, μ0 10 q, [])], s, EPost_new (Or.inl rfl) (fun z => absurd rfl z) rfl (fun j hj => by simp at hj) (by omega) i7 i2, fun μ hs hc => ?_, fun μ hs hR hF P hP => ?_⟩
  · refine k68_30 (fun _ => ⟨_, c_argSA (by omega) hs hr.2.1, fun r μ1 hr1 => ?_⟩) ?_ ?_ ?_ ?_ ?_ ?_ ?_ ?_ ?_ ?_ ?_ ?_ ?_ ?_ ?_ ?_ ?_ ?_ ?_ ?_ ?_ ?_ ?_ ?_ ?_ ?_
    all_goals first
      | (intros; contradiction)
      | skip
    obtain ⟨rfl, rfl⟩ := hr1
    exact k68_132 ⟨_, c_ofNumber (by omega) hc (by omega), fun r μ2 hr2 => k68_135 hr2⟩
  · refine m_simple (by omega) (by omega) hr ⟨i1, i2, i3, i4, i5, i6, i7⟩ hs hR hF ?_
    have hR1 : RE (zm_up μ 52 f (nI 1)) vs s b t B E (f + 1) := RE_row (by omega) hR
    have h28 : (zm_up μ 52 f (nI 1)) 28 (nI p).toNatClampNeg = μ0 10 q := by rw [zm_up_row (by decide), nI_c (by have := hr.1; omega), hs.2.2.2.2.1]; exact hr.2.2.2.2.1
    have hb : 0 ≤ (nI p).toInt ∧ (nI p).toInt < ((560 : Nat) : Int) := by have := hr.1; rw [nI_t (by omega)]; omega
    refine k150_0 (fun _ => ?_) (fun z => absurd z (by decide)) (fun z => absurd z (by decide)) (fun z => absurd z (by decide)) (fun z => absurd z (by decide))
    refine k150_31 (fun z => absurd rfl z) (fun z => absurd rfl z) (fun z => absurd rfl z) (fun z => absurd rfl z) (fun z => absurd rfl z) (fun z => absurd rfl z) (fun _ => hb) (fun _ => ?_)
    rw [h28]
    refine ⟨_, m_newValue (w := 1000) (by omega) hR1.1 (by omega) rfl, fun r μ1 hr1 => ?_⟩
    obtain ⟨rfl, rfl⟩ := hr1
    refine k150_52 (k150_98 ⟨_, m_give (f := f) (B := B) (t := t) (by omega) (by omega) ?_ ?_ ?_, fun μ2 hg => k150_101 ?_⟩)
    · rw [rv_22]; simp [upd]; rw [zm_up_row (by decide)]; exact hR.2.2.2.2.2.2.1
    · rw [rv_row (by decide) (by decide) (by decide) (by decide), zm_up_row (by decide)]; exact hF.2.2.1
    · rw [rv_row (by decide) (by decide) (by decide) (by decide), zm_up_row (by decide)]; exact hF.2.2.2
    · obtain rfl := hg
      obtain ⟨g1, g2⟩ := ro_new (w := 1000) (num := μ0 10 q) (ps := []) (a := -1) (c := -1) (e := -1) hR1 rfl rfl rfl
      exact (hP _ (RFr_tr (RFr_row (c := 52) (j := f) (by omega) (by omega)) g2) g1)
theorem JC_1 (hdc : 5 ≤ dc) (hdr : 8 ≤ dr) (hr : RtT L μ0 p q 1) (hi : EI vs s t B f E) : JC X μ0 dc dr p q 1 vs s b t B f E := by
  obtain ⟨i1, i2, i3, i4, i5, i6, i7⟩ := hi
  refine ⟨nI vs.length, vs ++ [(if μ0 10 q = 1 then 1001 else 1002, 0, [])], s, EPost_new (by split <;> unfold wok <;> omega) (fun _ => rfl) (by split <;> rfl) (fun j hj => by simp at hj) (by omega) i7 i2, fun μ hs hc => ?_, fun μ hs hR hF P hP => ?_⟩
  · refine k68_30 ?_ (fun _ _ => ⟨_, c_argSA (by omega) hs hr.2.1, fun r μ1 hr1 => ?_⟩) ?_ ?_ ?_ ?_ ?_ ?_ ?_ ?_ ?_ ?_ ?_ ?_ ?_ ?_ ?_ ?_ ?_ ?_ ?_ ?_ ?_ ?_ ?_ ?_ ?_
    all_goals first
      | (intros; contradiction)
      | skip
    obtain ⟨rfl, rfl⟩ := hr1
    refine k68_148 (fun z => ?_) (fun z => ?_)
    · rw [if_neg z]
      exact k68_157 ⟨_, c_ofTruth (by omega) hc (by omega), fun r μ2 hr2 => k68_160 hr2⟩
    · rw [if_pos z]
      exact k68_157 ⟨_, c_ofTruth (by omega) hc (by omega), fun r μ2 hr2 => k68_160 hr2⟩
  · refine m_simple (by omega) (by omega) hr ⟨i1, i2, i3, i4, i5, i6, i7⟩ hs hR hF ?_
    have hR1 : RE (zm_up μ 52 f (nI 1)) vs s b t B E (f + 1) := RE_row (by omega) hR
    have h28 : (zm_up μ 52 f (nI 1)) 28 (nI p).toNatClampNeg = μ0 10 q := by rw [zm_up_row (by decide), nI_c (by have := hr.1; omega), hs.2.2.2.2.1]; exact hr.2.2.2.2.1
    have hb : 0 ≤ (nI p).toInt ∧ (nI p).toInt < ((560 : Nat) : Int) := by have := hr.1; rw [nI_t (by omega)]; omega
    have fin : ∀ x : Int32, (if x = 0 then 1002 else 1001) = (if μ0 10 q = 1 then 1001 else 1002) → zV X (dr - 2) 150 76 [] [.inl x, .inr 22, .inr 22] (zm_up μ 52 f (nI 1)) (zpo (fun μ' => zV X dr 155 47 [(0, .inr 22)] [] μ' (zpi P))) := by
      intro x hx
      refine k150_76 ⟨_, m_truth (by omega) hR1.1 (by omega), fun r μ1 hr1 => ?_⟩
      obtain ⟨rfl, rfl⟩ := hr1
      rw [hx]
      refine k150_79 (k150_98 ⟨_, m_give (f := f) (B := B) (t := t) (by omega) (by omega) ?_ ?_ ?_, fun μ2 hg => k150_101 ?_⟩)
      · rw [rv_22]; simp [upd]; rw [zm_up_row (by decide)]; exact hR.2.2.2.2.2.2.1
      · rw [rv_row (by decide) (by decide) (by decide) (by decide), zm_up_row (by decide)]; exact hF.2.2.1
      · rw [rv_row (by decide) (by decide) (by decide) (by decide), zm_up_row (by decide)]; exact hF.2.2.2
      · obtain rfl := hg
        obtain ⟨g1, g2⟩ := ro_new (w := if μ0 10 q = 1 then 1001 else 1002) (num := 0) (ps := []) (a := -1) (c := -1) (e := -1) hR1 rfl rfl rfl
        exact (hP _ (RFr_tr (RFr_row (c := 52) (j := f) (by omega) (by omega)) g2) g1)
    refine k150_0 (fun _ => ?_) (fun z => absurd z (by decide)) (fun z => absurd z (by decide)) (fun z => absurd z (by decide)) (fun z => absurd z (by decide))
    refine k150_31 (fun _ z => absurd rfl z) (fun _ z => absurd rfl z) (fun _ z => absurd rfl z) (fun _ _ => hb) (fun _ _ z => ?_) (fun _ _ z => ?_) (fun z => absurd z (by decide)) (fun z => absurd z (by decide))
    · rw [h28] at z
      exact fin 0 (by rw [if_pos rfl, if_neg z])
    · rw [h28] at z
      exact fin 1 (by rw [if_neg zn_10, if_pos z])
theorem JC_2 (hdc : 5 ≤ dc) (hdr : 8 ≤ dr) (hr : RtT L μ0 p q 2) (hi : EI vs s t B f E) : JC X μ0 dc dr p q 2 vs s b t B f E := by
  obtain ⟨i1, i2, i3, i4, i5, i6, i7⟩ := hi
  obtain ⟨a1, a2⟩ := hr.2.2.2.2.2.2.2.1 rfl
  obtain ⟨j, hj, ej⟩ : ∃ j, j < 12 ∧ μ0 10 q = nI j := ⟨(μ0 10 q).toInt.toNat, by omega, zn_toN a1⟩
  have cls : ∀ o : Int32, (j < t - B → o = nI (E (B + j))) → (¬ j < t - B → o = -2) → CX X dc μ0 q 2 vs s b t B E o vs s := by
    intro o h1 h2 μ hs hc
    refine k68_30 ?_ ?_ (fun _ _ _ => ⟨_, c_argSA (by omega) hs hr.2.1, fun r μ1 hr1 => ?_⟩) ?_ ?_ ?_ ?_ ?_ ?_ ?_ ?_ ?_ ?_ ?_ ?_ ?_ ?_ ?_ ?_ ?_ ?_ ?_ ?_ ?_ ?_ ?_ ?_
    all_goals first
      | (intros; contradiction)
      | skip
    obtain ⟨rfl, rfl⟩ := hr1
    refine k68_170 ⟨fun r μ' => r = o ∧ μ' = μ1, ?_, fun r μ2 hr2 => ?_⟩
    · obtain ⟨_, c1, c2, _, _, c5⟩ := hc
      have e1 : μ1 4 4 - μ1 4 3 = nI (t - B) := by rw [c1, c2, nI_sub i3]
      have e2 : μ1 4 3 + nI j = nI (B + j) := by rw [c1, nI_add]
      rw [ej]
      refine zI_at [0, 1] (by omega) rfl (k72_0 (fun z => absurd z (nI_pos (by omega))) (fun _ z => ?_) (fun _ z => ?_) (fun _ z => ?_))
      · rw [e1, nI_leI (by omega) (by omega)] at z
        exact ⟨(h2 (by omega)).symm, rfl⟩
      · rw [e1, nI_leI (by omega) (by omega)] at z
        rw [e2, nI_t (by omega)]
        omega
      · rw [e1, nI_leI (by omega) (by omega)] at z
        rw [e2, nI_c (by omega), c5 _ (by omega), h1 (by omega)]
        exact ⟨rfl, rfl⟩
    · obtain ⟨rfl, rfl⟩ := hr2
      exact k68_173 ⟨rfl, hc, CFr_rf⟩
  have com : ∀ o : Int32, (j < t - B → o = nI (E (B + j))) → (¬ j < t - B → o = -2) → RX X dr μ0 p vs s b t B E f o vs s := by
    intro o h1 h2 μ hs hR hF P hP
    refine m_simple (by omega) (by omega) hr ⟨i1, i2, i3, i4, i5, i6, i7⟩ hs hR hF ?_
    have hR1 : RE (zm_up μ 52 f (nI 1)) vs s b t B E (f + 1) := RE_row (by omega) hR
    have h28 : (zm_up μ 52 f (nI 1)) 28 (nI p).toNatClampNeg = nI j := by rw [zm_up_row (by decide), nI_c (by have := hr.1; omega), hs.2.2.2.2.1, ← ej]; exact hr.2.2.2.2.1
    have hb : 0 ≤ (nI p).toInt ∧ (nI p).toInt < ((560 : Nat) : Int) := by have := hr.1; rw [nI_t (by omega)]; omega
    have e1 : (zm_up μ 52 f (nI 1)) 22 51 - (zm_up μ 52 f (nI 1)) 22 50 = nI (t - B) := by rw [hR1.2.2.2.1, hR1.2.2.2.2.1, nI_sub i3]
    refine k150_0 (fun z => absurd rfl z) (fun _ => hb) (fun _ z => ?_) (fun _ _ => Or.inr rfl) (fun _ z => ?_)
    · rw [h28, e1, nI_ltI (by omega) (by omega)] at z
      have e2 : (zm_up μ 52 f (nI 1)) 22 50 + (zm_up μ 52 f (nI 1)) 28 (nI p).toNatClampNeg = nI (B + j) := by rw [h28, hR1.2.2.2.1, nI_add]
      refine k150_31 (fun _ _ => hb) (fun _ _ => by rw [e2, nI_t (by omega)]; omega) (fun _ _ => ?_) (fun _ z => absurd z (by decide)) (fun _ z => absurd z (by decide)) (fun _ z => absurd z (by decide)) (fun z => absurd z (by decide)) (fun z => absurd z (by decide))
      rw [e2, nI_c (by omega), hR1.2.2.2.2.2.1 _ (by omega)]
      refine k150_98 ⟨_, m_give (f := f) (B := B) (t := t) (by omega) (by omega) ?_ ?_ ?_, fun μ2 hg => k150_101 ?_⟩
      · exact hR1.2.2.2.2.2.2.1
      · rw [zm_up_row (by decide)]; exact hF.2.2.1
      · rw [zm_up_row (by decide)]; exact hF.2.2.2
      · obtain rfl := hg
        obtain ⟨g1, g2⟩ := ro_old (v := E (B + j)) hR1 (i6 _ (by omega))
        obtain rfl := h1 z
        exact hP _ (RFr_tr (RFr_row (c := 52) (j := f) (by omega) (by omega)) g2) g1
    · rw [h28, e1, nI_ltI (by omega) (by omega)] at z
      refine k150_101 ((hP _ (RFr_tr (RFr_row (c := 52) (j := f) (by omega) (by omega)) (RFr_22 (by omega))) (Or.inr (Or.inr ⟨h2 z, ?_, ?_, ?_⟩))))
      · rw [zm_up_self]; simp [upd]; exact hR1.2.1
      · rw [zm_up_self]; simp [upd]
      · rw [zm_up_self]; simp [upd]; exact hR1.2.2.2.2.2.2.2.2
  by_cases hj2 : j < t - B
  · exact ⟨nI (E (B + j)), vs, s, ⟨⟨[], by simp⟩, i7, by omega, by omega, i2, Or.inl ⟨_, i6 _ (by omega), rfl⟩⟩, cls _ (fun _ => rfl) (fun z => absurd hj2 z), com _ (fun _ => rfl) (fun z => absurd hj2 z)⟩
  · exact ⟨-2, vs, s, ⟨⟨[], by simp⟩, i7, by omega, by omega, i2, Or.inr (Or.inr rfl)⟩, cls _ (fun z => absurd z hj2) (fun _ => rfl), com _ (fun z => absurd z hj2) (fun _ => rfl)⟩
end EP

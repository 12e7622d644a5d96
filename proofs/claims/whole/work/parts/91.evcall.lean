section EC
variable {X : zm_T} {d dc dr L g : Nat} {μ μ' μ0 μ1 : zm_u} {vs vs' vs1 vs2 : List vE} {s s1 s2 b b2 t t2 B B2 f i w p q k st pk e u n j m : Nat} {E E2 K : Nat → Nat} {num o o1 o2 oT x : Int32} {ps ns : List Nat}
theorem RE_22 {j : Nat} (hj : j = 50 ∨ j = 51 ∨ j = 52) (h : RE μ vs s b t B E f) (h50 : j = 50 → x = nI B2) (h51 : j = 51 → x = nI t2 ∧ ∀ i, i < t2 → μ 57 i = nI (E2 i)) (h52 : j = 52 → x = nI b2)
    (e50 : j ≠ 50 → B2 = B) (e51 : j ≠ 51 → t2 = t ∧ ∀ i, i < t → E2 i = E i) (e52 : j ≠ 52 → b2 = b) : RE (zm_up μ 22 j x) vs s b2 t2 B2 E2 f := by
  obtain ⟨⟨h1, h1'⟩, h2, h3, h4, h5, h6, h7, h8, h9⟩ := h
  refine ⟨⟨?_, fun i w num ps hi => ?_⟩, ?_, ?_, ?_, ?_, fun i hi => ?_, ?_, ?_, ?_⟩
  · rw [zm_up_at, if_neg (by omega)]; exact h1
  · rw [zm_up_row (by decide), zm_up_row (by decide), zm_up_row (by decide)]; exact h1' i w num ps hi
  · rw [zm_up_at, if_neg (by omega)]; exact h2
  · rw [zm_up_at]
    by_cases z : j = 52
    · rw [if_pos ⟨rfl, z.symm⟩]; exact h52 z
    · rw [if_neg (by omega), e52 z]; exact h3
  · rw [zm_up_at]
    by_cases z : j = 50
    · rw [if_pos ⟨rfl, z.symm⟩]; exact h50 z
    · rw [if_neg (by omega), e50 z]; exact h4
  · rw [zm_up_at]
    by_cases z : j = 51
    · rw [if_pos ⟨rfl, z.symm⟩]; exact (h51 z).1
    · rw [if_neg (by omega), (e51 z).1]; exact h5
  · rw [zm_up_row (by decide)]
    by_cases z : j = 51
    · exact (h51 z).2 i hi
    · obtain ⟨q1, q2⟩ := e51 z
      rw [q2 i (by omega)]
      exact h6 i (by omega)
  · rw [zm_up_at, if_neg (by omega)]; exact h7
  · rw [zm_up_at, if_neg (by omega)]; exact h8
  · rw [zm_up_at, if_neg (by omega)]; exact h9
theorem RE_57 {y : Nat} (h : RE μ vs s b t B E f) : RE (zm_up μ 57 t (nI y)) vs s b t B E f ∧ ∀ i, i < t + 1 → (zm_up μ 57 t (nI y)) 57 i = nI (if i = t then y else E i) := by
  obtain ⟨⟨h1, h1'⟩, h2, h3, h4, h5, h6, h7, h8, h9⟩ := h
  refine ⟨⟨⟨?_, fun i w num ps hi => ?_⟩, ?_, ?_, ?_, ?_, fun i hi => ?_, ?_, ?_, ?_⟩, fun i hi => ?_⟩
  · rw [zm_up_row (by decide)]; exact h1
  · rw [zm_up_row (by decide), zm_up_row (by decide), zm_up_row (by decide)]; exact h1' i w num ps hi
  · rw [zm_up_row (by decide)]; exact h2
  · rw [zm_up_row (by decide)]; exact h3
  · rw [zm_up_row (by decide)]; exact h4
  · rw [zm_up_row (by decide)]; exact h5
  · rw [zm_up_at, if_neg (by omega)]; exact h6 i hi
  · rw [zm_up_row (by decide)]; exact h7
  · rw [zm_up_row (by decide)]; exact h8
  · rw [zm_up_row (by decide)]; exact h9
  · rw [zm_up_at]
    by_cases z : i = t
    · rw [if_pos ⟨rfl, z⟩, if_pos z]
    · rw [if_neg (by omega), if_neg z]; exact h6 i (by omega)
theorem RE_E (h : RE μ vs s b t B E f) (hE : ∀ i, i < t → E2 i = E i) : RE μ vs s b t B E2 f := by
  obtain ⟨h1, h2, h3, h4, h5, h6, h7, h8, h9⟩ := h
  exact ⟨h1, h2, h3, h4, h5, fun i hi => by rw [hE i hi]; exact h6 i hi, h7, h8, h9⟩
theorem CE_E (h : CE μ vs s b t B E) (hE : ∀ i, i < t → E2 i = E i) : CE μ vs s b t B E2 := by
  obtain ⟨h1, h2, h3, h4, h5, h6⟩ := h
  exact ⟨h1, h2, h3, h4, h5, fun i hi => by rw [hE i hi]; exact h6 i hi⟩

theorem RE_push {y : Nat} (h : RE μ vs s b t B E f) (hy : E t = y) {x : Int32} (hx : x = nI (t + 1)) : RE (zm_up (zm_up μ 57 t (nI y)) 22 51 x) vs s b (t + 1) B E f := by
  obtain ⟨h1, h2⟩ := RE_57 (y := y) h
  refine RE_22 (Or.inr (Or.inl rfl)) h1 (fun z => absurd z (by omega)) (fun _ => ⟨hx, fun i hi => ?_⟩) (fun z => absurd z (by omega)) (fun _ => rfl) (fun z => absurd rfl z) (fun _ => rfl)
  rw [h2 i hi]
  by_cases z : i = t
  · rw [if_pos z, z, hy]
  · rw [if_neg z]

theorem c_add {y : Nat} (hd : 1 ≤ d) (h : CE μ vs s b t B E) (ht : t < 79) (hy : E t = y) : zO X d 79 [.inr 4, .inl (nI y)] μ (fun μ' => CE μ' vs s b (t + 1) B E ∧ CFr μ μ' ∧ μ' 4 3 = μ 4 3) := by
  obtain ⟨h1, h2, h3, h4, h5, h6⟩ := h
  have e79 : (79 : Int32) = nI 79 := rfl
  have c4 : (μ 4 4).toNatClampNeg = t := by rw [h3, nI_c (by omega)]
  have n79 : ¬ (79 : Int32) ≤ μ 4 4 := by rw [h3, e79, nI_leI (by omega) (by omega)]; omega
  refine zO_at [0, 1] hd rfl (k79_0 (fun z => absurd z n79) (fun _ => by rw [h3, nI_t (by omega)]; omega) (fun _ => ?_))
  rw [c4, h3, ← nI_one, nI_add]
  refine ⟨⟨?_, ?_, ?_, ?_, ?_, fun i hi => ?_⟩, ⟨fun c a1 _ a3 _ _ _ _ => ?_, fun i hi => ?_⟩, ?_⟩
  · refine ⟨h1.1, ?_, fun i w num ps hi => ?_⟩
    · rw [zm_up_row (by decide), zm_up_row (by decide)]; exact h1.2.1
    · rw [zm_up_row (by decide), zm_up_row (by decide), zm_up_row (by decide), zm_up_row (by decide), zm_up_row (by decide), zm_up_row (by decide), zm_up_row (by decide), zm_up_row (by decide)]; exact h1.2.2 i w num ps hi
  · rw [zm_up_at, if_neg (by omega), zm_up_row (by decide)]; exact h2
  · rw [zm_up_at, if_pos ⟨rfl, rfl⟩]
  · rw [zm_up_at, if_neg (by omega), zm_up_row (by decide)]; exact h4
  · rw [zm_up_at, if_neg (by omega), zm_up_row (by decide)]; exact h5
  · rw [zm_up_row (by decide), zm_up_at]
    by_cases z : i = t
    · rw [if_pos ⟨rfl, z⟩, z, hy]
    · rw [if_neg (by omega)]; exact h6 i (by omega)
  · rw [zm_up_row a1, zm_up_row a3]
  · rw [zm_up_row (by decide), zm_up_row (by decide)]
  · rw [zm_up_at, if_neg (by omega), zm_up_row (by decide)]
theorem CE_4 {j : Nat} (hj : j = 3 ∨ j = 4 ∨ j = 5) (h : CE μ vs s b t B E) (h3 : j = 3 → x = nI B2) (h4 : j = 4 → x = nI t2 ∧ t2 ≤ t) (h5 : j = 5 → x = nI b2) (e3 : j ≠ 3 → B2 = B) (e4 : j ≠ 4 → t2 = t) (e5 : j ≠ 5 → b2 = b) : CE (zm_up μ 4 j x) vs s b2 t2 B2 E ∧ CFr μ (zm_up μ 4 j x) := by
  obtain ⟨h1, g2, g3, g4, g5, g6⟩ := h
  refine ⟨⟨⟨h1.1, ?_, fun i w num ps hi => ?_⟩, ?_, ?_, ?_, ?_, fun i hi => ?_⟩, ⟨fun c a1 _ _ _ _ _ _ => ?_, fun i hi => ?_⟩⟩
  · rw [zm_up_row (by decide)]; exact h1.2.1
  · rw [zm_up_row (by decide), zm_up_row (by decide), zm_up_row (by decide), zm_up_row (by decide)]; exact h1.2.2 i w num ps hi
  · rw [zm_up_at]
    by_cases z : j = 3
    · rw [if_pos ⟨rfl, z.symm⟩]; exact h3 z
    · rw [if_neg (by omega), e3 z]; exact g2
  · rw [zm_up_at]
    by_cases z : j = 4
    · rw [if_pos ⟨rfl, z.symm⟩]; exact (h4 z).1
    · rw [if_neg (by omega), e4 z]; exact g3
  · rw [zm_up_at]
    by_cases z : j = 5
    · rw [if_pos ⟨rfl, z.symm⟩]; exact h5 z
    · rw [if_neg (by omega), e5 z]; exact g4
  · rw [zm_up_at, if_neg (by omega)]; exact g5
  · rw [zm_up_row (by decide)]
    refine g6 i ?_
    by_cases z : j = 4
    · have := (h4 z).2; omega
    · have := e4 z; omega
  · rw [zm_up_row a1]
  · rw [zm_up_row (by decide)]
theorem n9 {P : Prop} (h : ¬ (3 : Int32) ≤ nI 9) : P := absurd (by decide) h
theorem n17 {P : Prop} (h : ¬ (3 : Int32) ≤ nI 17) : P := absurd (by decide) h

theorem rb_env (hdr : 8 ≤ dr) (hf : f < 60) (hk : k = 9 ∨ k = 17) (h : TT L μ0 e p u n k ns) (hp : EPost vs1 s1 o2 vs2 s2) (hl : vs2.length ≤ 600) (hb : b2 = if k = 9 then b + 1 else b) (ht : t ≤ t2) (hEE : ∀ i, i < t → E2 i = E i)
    (hS : ∀ μ, SA μ0 μ → RE μ vs1 s1 b t B E (f + 1) → FD μ f p 2 B t → μ 22 53 = nI (K 0) → ∀ Q : zm_u → Prop, (∀ μ5, RFr (f + 1) μ μ5 → RE μ5 vs1 s1 b2 t2 B2 E2 (f + 1) → Q (started μ5 pk (f + 1) s1 B2 t2)) →
      zV X (dr - 1) 149 88 [(0, .inr 22), (1, .inl (nI f)), (2, .inl (nI p)), (3, .inl (nI k)), (4, .inl (nI 1))] [] μ (zpo Q))
    (hE : REv X dr μ0 pk vs1 s1 b2 t2 B2 E2 (f + 1) o2 vs2 s2) : RB X dr μ0 p k 1 K vs1 s1 b t B E f o2 vs2 s2 := by
  intro μ hs hR hF hK hg P hP
  refine hS μ hs hR hF (hg (by omega)) (HB X dr P) (fun μ5 hfr5 hR5 => hE μ5 (SA_R hs hfr5) hR5 P (fun μ' hfr hro => ?_))
  have hfa : RFr (f + 1) μ μ' := RFr_tr hfr5 hfr
  have hs' := SA_R hs hfa
  rcases hro with ⟨v, h1, h2, h3, h4⟩ | h1 | h1
  · obtain ⟨⟨w, num, ps⟩, hv⟩ : ∃ z, vs2[v]? = some z := ⟨vs2[v], List.getElem?_eq_getElem h1⟩
    have hwk := (hp.2.1 v w num ps hv).1
    have hF' := FD_R hF hfa
    have hop : μ' 27 p = nI k := by rw [hs'.2.2.2.1]; exact h.2.1
    have hsu : su_ok k 2 w := by
      rcases hk with rfl | rfl
      · trivial
      · exact Or.inr ⟨rfl, by omega⟩
    refine m_iter (G := HB X dr P) (by omega) h3 (by omega) (m_one (st := 2) (v := v) (by omega) h3 (by omega) (by have := h.1; omega) (by omega) hF' hop (by omega) (by omega) hwk hv h4 (fun _ => ?_) (fun z => absurd hsu z)) (fun μ' q => q)
    have hr1 : RFr f μ' (zm_up (zm_up μ' 52 f (nI (2 + 1))) 56 (3 * f + 2 - 1) (nI v)) := RFr_tr (RFr_row (c := 52) (j := f) (by omega) (by omega)) (RFr_56 (by omega))
    have h6 : RE (zm_up (zm_up μ' 52 f (nI (2 + 1))) 56 (3 * f + 2 - 1) (nI v)) vs2 s2 b2 t2 B2 E2 (f + 1) := RE_row (by omega) (RE_row (by omega) h3)
    have h53 : (zm_up (zm_up μ' 52 f (nI (2 + 1))) 56 (3 * f + 2 - 1) (nI v)) 22 53 = nI v := by rw [zm_up_row (by decide), zm_up_row (by decide)]; exact h4
    have f3 : (zm_up (zm_up μ' 52 f (nI (2 + 1))) 56 (3 * f + 2 - 1) (nI v)) 54 f = nI B := by rw [zm_up_row (by decide), zm_up_row (by decide)]; exact hF'.2.2.1
    have f4 : (zm_up (zm_up μ' 52 f (nI (2 + 1))) 56 (3 * f + 2 - 1) (nI v)) 55 f = nI t := by rw [zm_up_row (by decide), zm_up_row (by decide)]; exact hF'.2.2.2
    generalize (zm_up (zm_up μ' 52 f (nI (2 + 1))) 56 (3 * f + 2 - 1) (nI v)) = μ6 at hr1 h6 h53 f3 f4 ⊢
    have hr6 : RFr f μ μ6 := RFr_tr (RFr_le hfa (by omega)) hr1
    rcases hk with rfl | rfl
    · have hb2 : b2 = b + 1 := hb
      refine k149_88 (fun _ _ z => absurd rfl z) (fun _ _ z => absurd rfl z) (fun _ _ z => absurd rfl z) (fun _ _ _ => ⟨HB X dr P, zO_at [0, 1, 2] (by omega) rfl ?_, fun μ1 hq => k149_131 (k149_185 hq)⟩) (fun _ z => absurd z (by decide)) n9
      refine k152_0 (fun _ _ => ?_) (fun _ z => absurd z zn_21) (fun _ z => absurd z zn_21) (fun z => absurd z zn_20)
      have e52 : μ6 22 52 - 1 = nI b := by rw [h6.2.2.1, hb2, nI_pr]
      rw [h53, e52]
      have h7 : RE (zm_up μ6 22 52 (nI b)) vs2 s2 b t2 B2 E2 (f + 1) := RE_22 (Or.inr (Or.inr rfl)) h6 (fun z => absurd z (by omega)) (fun z => absurd z (by omega)) (fun _ => rfl) (fun _ => rfl) (fun _ => ⟨rfl, fun _ _ => rfl⟩) (fun z => absurd rfl z)
      refine ⟨_, m_give (f := f) (B := B) (t := t) (by omega) (by omega) h7.2.2.2.2.2.2.1 (by rw [zm_up_row (by decide)]; exact f3) (by rw [zm_up_row (by decide)]; exact f4), fun μ2 hg => k152_116 ?_⟩
      obtain rfl := hg
      obtain ⟨k1, k2, k3⟩ := gv_keep (B := B) (t := t) (E := E) (v := v) h7 (fun i hi => by rw [h7.2.2.2.2.2.1 i (by omega), hEE i hi])
      exact hP _ (RFr_tr hr6 (RFr_tr (RFr_22 (by omega)) k3)) (Or.inl ⟨v, h1, h2, k1, k2⟩)
    · have hb2 : b2 = b := hb
      subst hb2
      refine k149_88 (fun _ _ _ z => absurd rfl z) (fun _ _ _ z => absurd rfl z) (fun _ _ _ _ => ⟨HB X dr P, zO_at [0, 1, 2] (by omega) rfl ?_, fun μ1 hq => k149_147 (k149_185 hq)⟩) (fun _ _ z => absurd z (by decide)) (fun _ z => absurd z (by decide)) n17
      refine k153_0 (fun _ z => absurd rfl z) (fun _ z => absurd rfl z) (fun _ z => absurd rfl z) (fun _ z => absurd rfl z) (fun _ z => absurd rfl z) (fun _ _ => ?_) (fun z => absurd z zn_20)
      rw [h53]
      refine ⟨_, m_give (f := f) (B := B) (t := t) (by omega) (by omega) h6.2.2.2.2.2.2.1 f3 f4, fun μ2 hg => k153_28 ?_⟩
      obtain rfl := hg
      obtain ⟨k1, k2, k3⟩ := gv_keep (B := B) (t := t) (E := E) (v := v) h6 (fun i hi => by rw [h6.2.2.2.2.2.1 i (by omega), hEE i hi])
      exact hP _ (RFr_tr hr6 k3) (Or.inl ⟨v, h1, h2, k1, k2⟩)
  · exact hP μ' (RFr_le hfa (by omega)) (Or.inr (Or.inl h1))
  · exact hP μ' (RFr_le hfa (by omega)) (Or.inr (Or.inr h1))
end EC

section EV
variable {X : zm_T} {d dc dr L g : Nat} {μ μ' μ0 μ1 : zm_u} {vs vs' vs1 vs2 : List vE} {s s1 s2 b b2 t t2 B B2 f i w p q k st pk e u n j m a : Nat} {E E2 K : Nat → Nat} {num o o1 o2 oT x : Int32} {ps ns : List Nat}
theorem JC_any (hB : BD L μ0) (hJ : Jv X L μ0 dc dr g) (hg : 7 * (4 - b) + e ≤ g) (hd : dc + 3 ≤ d ∧ 10 ≤ d) (hdr : 10 ≤ dr) (hk : k ≤ 17) (h : TT L μ0 e p u n k ns) (hI : EInv (e + 1) b vs s t B f E) (hlt : vs.length < s) : JC X μ0 d dr p (u + n - 1) k vs s b t B f E := by
  have hEI : EI vs s t B f E := by
    obtain ⟨q1, q2, q3, q4, q5, q6, q7, q8⟩ := hI
    exact ⟨hlt, q2, q4, by omega, by omega, q7, q8⟩
  match k, hk with
  | 0, _ => exact JC_0 (by omega) (by omega) (TT_Rt h) hEI
  | 1, _ => exact JC_1 (by omega) (by omega) (TT_Rt h) hEI
  | 2, _ => exact JC_2 (by omega) (by omega) (TT_Rt h) hEI
  | 3, _ => exact JC_num hJ hg (by omega) (by omega) h (by omega) hI hlt
  | 4, _ => exact JC_num hJ hg (by omega) (by omega) h (by omega) hI hlt
  | 5, _ => exact JC_if hJ hg (by omega) (by omega) h hI hlt
  | 6, _ => exact JC_mk hJ hg (by omega) (by omega) h (by omega) hI hlt
  | 7, _ => exact JC_pair hJ hg (by omega) (by omega) h (by omega) hI hlt
  | 8, _ => exact JC_pair hJ hg (by omega) (by omega) h (by omega) hI hlt
  | 9, _ => exact JC_call hB hJ hg (by omega) (by omega) h hI hlt
  | 10, _ => exact JC_as hJ hg (by omega) (by omega) h hI hlt
  | 11, _ => exact JC_mk hJ hg (by omega) (by omega) h (by omega) hI hlt
  | 12, _ => exact JC_mk hJ hg (by omega) (by omega) h (by omega) hI hlt
  | 13, _ => exact JC_mk hJ hg (by omega) (by omega) h (by omega) hI hlt
  | 14, _ => exact JC_mk hJ hg (by omega) (by omega) h (by omega) hI hlt
  | 15, _ => exact JC_mk hJ hg (by omega) (by omega) h (by omega) hI hlt
  | 16, _ => exact JC_mk hJ hg (by omega) (by omega) h (by omega) hI hlt
  | 17, _ => exact JC_cases hJ hg (by omega) (by omega) h hI hlt
  | k + 18, hk => exact absurd hk (by omega)
theorem CE_6 (h : CE μ vs s b t B E) {x : Int32} (hx : x = nI (s + 1)) : CE (zm_up μ 4 6 x) vs (s + 1) b t B E ∧ CFr μ (zm_up μ 4 6 x) := by
  obtain ⟨h1, g2, g3, g4, g5, g6⟩ := h
  refine ⟨⟨⟨h1.1, ?_, fun i w num ps hi => ?_⟩, ?_, ?_, ?_, ?_, fun i hi => ?_⟩, ⟨fun c a1 _ _ _ _ _ _ => ?_, fun i hi => ?_⟩⟩
  · rw [zm_up_row (by decide)]; exact h1.2.1
  · rw [zm_up_row (by decide), zm_up_row (by decide), zm_up_row (by decide), zm_up_row (by decide)]; exact h1.2.2 i w num ps hi
  · rw [zm_up_at, if_neg (by omega)]; exact g2
  · rw [zm_up_at, if_neg (by omega)]; exact g3
  · rw [zm_up_at, if_neg (by omega)]; exact g4
  · rw [zm_up_at, if_pos ⟨rfl, rfl⟩]; exact hx
  · rw [zm_up_row (by decide)]; exact g6 i hi
  · rw [zm_up_row a1]
  · rw [zm_up_row (by decide)]

theorem Jv_all (hB : BD L μ0) (hdr : 10 ≤ dr) : ∀ g, Jv X L μ0 (4 * g + 11) dr g := by
  intro g
  induction g with
  | zero =>
    intro e p u n b vs s t B f E hg hT hI
    obtain rfl : e = 0 := by omega
    exact hT.elim
  | succ g ih =>
    intro e p u n b vs s t B f E hg hT hI
    rcases e with _ | e
    · exact hT.elim
    have hI' := hI
    obtain ⟨q1, q2, q3, q4, q5, q6, q7, q8⟩ := hI
    obtain ⟨k, ns, hk, h⟩ := TT_of hT (by omega)
    have e6 : (600 : Int32) = nI 600 := rfl
    have hp := Tm_pos hT
    by_cases hs6 : s = 600
    · subst hs6
      refine ⟨-1, vs, 600, ⟨⟨[], by simp⟩, q8, by omega, by omega, by omega, Or.inr (Or.inl rfl)⟩, fun μ hs hc => ?_, fun μ hs hR P hP => ?_⟩
      · refine zI_at [0, 1] (by omega) rfl (k68_0 (fun z => ?_) (fun _ => ⟨rfl, hc, CFr_rf⟩))
        rw [hc.2.2.2.2.1] at z
        exact absurd z (by decide)
      · unfold started
        rw [if_pos rfl]
        refine hP _ (RFr_22 (by omega)) (Or.inr (Or.inl ⟨rfl, ?_, ?_, ?_⟩))
        · rw [zm_up_at, if_neg (by omega)]; exact hR.2.1
        · rw [zm_up_at, if_pos ⟨rfl, rfl⟩]
        · rw [zm_up_at, if_neg (by omega)]; exact hR.2.2.2.2.2.2.2.1
    · obtain ⟨o, vs', s', w1, w2, w3⟩ := JC_any (X := X) (d := 4 * (g + 1) + 11 - 1) (dr := dr) hB ih (b := b) (by omega) (by omega) hdr hk h (vs := vs) (s := s + 1) (t := t) (B := B) (f := f) (E := E) ⟨by omega, by omega, q3, q4, q5, q6, q7, q8⟩ (by omega)
      refine ⟨o, vs', s', w1, fun μ hs hc => ?_, fun μ hs hR P hP => ?_⟩
      · have h46 := hc.2.2.2.2.1
        have e1 : μ 4 6 + 1 = nI (s + 1) := by rw [h46, ← nI_one, nI_add]
        refine zI_at [0, 1] (by omega) rfl (k68_0 (fun _ => ?_) (fun z => ?_))
        · rw [e1]
          obtain ⟨k1, k2⟩ := CE_6 hc rfl
          refine ⟨_, c_opOf (by omega) (by omega), fun r μ1 hr => ?_⟩
          obtain ⟨rfl, rfl⟩ := hr
          rw [(SA_C hs k2).1, h.2.2.1]
          exact zm_V_post (w2 _ (SA_C hs k2) k1) (fun r μ' q => by
            obtain ⟨v, hv, q1, q2, q3⟩ := q
            exact ⟨v, hv, q1, q2, CFr_tr k2 q3⟩)
        · rw [h46, e6, nI_ltI (by omega) (by omega)] at z
          omega
      · unfold started
        rw [if_neg hs6]
        obtain ⟨k1, k2, k3⟩ := st_keep (p := p) hR
        exact w3 _ (SA_R hs k3) k1 k2 P (fun μ' y1 y2 => hP μ' (RFr_tr k3 y1) y2)
end EV

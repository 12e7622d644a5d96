def wq (k : Nat) : Nat := if k = 6 then 0 else if k = 11 then 1 else if k = 12 then 2 else 4
section EM
variable {X : zm_T} {d dc dr L g : Nat} {μ μ' μ0 μ1 : zm_u} {vs vs' vs1 vs2 : List vE} {s s1 s2 b t B f i w p q k st pk e u n j m : Nat} {E K : Nat → Nat} {num o o1 o2 oT x : Int32} {ps ns : List Nat}
theorem gp_no (h : ps.length ≤ k) : gp ps k = -1 := by
  unfold gp
  rw [List.getElem?_eq_none h]
theorem rb_mk (hdr : 8 ≤ dr) (hf : f < 60) (hl : vs.length < 600) (h : TT L μ0 e p u n k ns) (hk : k = 6 ∨ (11 ≤ k ∧ k ≤ 16)) (hps : ps.length = ns.length) (hK : ∀ i, i < ps.length → ps[i]? = some (K i)) :
    RB X dr μ0 p k ns.length K vs s b t B E f (nI vs.length) (vs ++ [(if k = 6 then 1003 else 1000 + k, 0, ps)]) s := by
  refine rb_comb hdr hf h (by omega) rfl (fun μ hs hR hF hKK P hP => ?_)
  obtain ⟨b0, b1, b2⟩ := kf_b hf
  have g0 : 0 < ns.length → μ 56 (3 * f) = gp ps 0 := fun z => (hKK 0 z).trans (gp_at (hK 0 (by omega))).symm
  have g1 : 1 < ns.length → μ 56 (3 * f + 1) = gp ps 1 := fun z => (hKK 1 z).trans (gp_at (hK 1 (by omega))).symm
  have g2 : 2 < ns.length → μ 56 (3 * f + 2) = gp ps 2 := fun z => (hKK 2 z).trans (gp_at (hK 2 (by omega))).symm
  rcases (show k = 6 ∨ k = 11 ∨ k = 12 ∨ k = 13 ∨ k = 14 ∨ k = 15 ∨ k = 16 by omega) with rfl | rfl | rfl | rfl | rfl | rfl | rfl
  · have hn : ns.length = 2 := by rw [h.2.2.2.2.2.1, ar_ne (by omega)]; rfl
    refine k154_0 b0 b1 b2 ?_ ?_ ?_ ?_ ?_ ?_ ?_ ?_ ?_ ?_ ?_ ?_ ?_ ?_ ?_ ?_ ?_ ?_ ?_ ?_ ?_
    all_goals first
      | (intros; contradiction)
      | skip
    intros
    rw [kf_0 hf, g0 (by omega), kf_1 hf, g1 (by omega)]
    refine ⟨_, m_newValue (w := 1003) (by omega) hR.1 (by omega) rfl, fun r μ1 hr => ?_⟩
    obtain ⟨rfl, rfl⟩ := hr
    exact k154_176 ⟨_, fin_new (w := 1003) (ps := ps) (by omega) hf hR hF rfl rfl (gp_no (by omega)).symm, fun μ2 hg => k154_179 (k154_297 (hP _ hg.2 hg.1))⟩
  · have hn : ns.length = 1 := by rw [h.2.2.2.2.2.1, ar_ne (by omega)]; rfl
    refine k154_0 b0 b1 b2 ?_ ?_ ?_ ?_ ?_ ?_ ?_ ?_ ?_ ?_ ?_ ?_ ?_ ?_ ?_ ?_ ?_ ?_ ?_ ?_ ?_
    all_goals first
      | (intros; contradiction)
      | skip
    intros
    rw [kf_0 hf, g0 (by omega)]
    refine ⟨_, m_newValue (w := 1011) (by omega) hR.1 (by omega) rfl, fun r μ1 hr => ?_⟩
    obtain ⟨rfl, rfl⟩ := hr
    exact k154_294 ⟨_, fin_new (w := 1011) (ps := ps) (by omega) hf hR hF rfl (gp_no (by omega)).symm (gp_no (by omega)).symm, fun μ2 hg => k154_297 (hP _ hg.2 hg.1)⟩
  · have hn : ns.length = 1 := by rw [h.2.2.2.2.2.1, ar_ne (by omega)]; rfl
    refine k154_0 b0 b1 b2 ?_ ?_ ?_ ?_ ?_ ?_ ?_ ?_ ?_ ?_ ?_ ?_ ?_ ?_ ?_ ?_ ?_ ?_ ?_ ?_ ?_
    all_goals first
      | (intros; contradiction)
      | skip
    intros
    rw [kf_0 hf, g0 (by omega)]
    refine ⟨_, m_newValue (w := 1012) (by omega) hR.1 (by omega) rfl, fun r μ1 hr => ?_⟩
    obtain ⟨rfl, rfl⟩ := hr
    exact k154_294 ⟨_, fin_new (w := 1012) (ps := ps) (by omega) hf hR hF rfl (gp_no (by omega)).symm (gp_no (by omega)).symm, fun μ2 hg => k154_297 (hP _ hg.2 hg.1)⟩
  · have hn : ns.length = 2 := by rw [h.2.2.2.2.2.1, ar_ne (by omega)]; rfl
    refine k154_0 b0 b1 b2 ?_ ?_ ?_ ?_ ?_ ?_ ?_ ?_ ?_ ?_ ?_ ?_ ?_ ?_ ?_ ?_ ?_ ?_ ?_ ?_ ?_
    all_goals first
      | (intros; contradiction)
      | skip
    intros
    rw [kf_0 hf, g0 (by omega), kf_1 hf, g1 (by omega)]
    refine ⟨_, m_newValue (w := 1013) (by omega) hR.1 (by omega) rfl, fun r μ1 hr => ?_⟩
    obtain ⟨rfl, rfl⟩ := hr
    exact k154_235 ⟨_, fin_new (w := 1013) (ps := ps) (by omega) hf hR hF rfl rfl (gp_no (by omega)).symm, fun μ2 hg => k154_238 (k154_297 (hP _ hg.2 hg.1))⟩
  · have hn : ns.length = 3 := by rw [h.2.2.2.2.2.1, ar_ne (by omega)]; rfl
    refine k154_0 b0 b1 b2 ?_ ?_ ?_ ?_ ?_ ?_ ?_ ?_ ?_ ?_ ?_ ?_ ?_ ?_ ?_ ?_ ?_ ?_ ?_ ?_ ?_
    all_goals first
      | (intros; contradiction)
      | skip
    intros
    rw [kf_0 hf, g0 (by omega), kf_1 hf, g1 (by omega), kf_2 hf, g2 (by omega)]
    refine ⟨_, m_newValue (w := 1014) (by omega) hR.1 (by omega) rfl, fun r μ1 hr => ?_⟩
    obtain ⟨rfl, rfl⟩ := hr
    exact k154_255 ⟨_, fin_new (w := 1014) (ps := ps) (by omega) hf hR hF rfl rfl rfl, fun μ2 hg => k154_258 (k154_297 (hP _ hg.2 hg.1))⟩
  · have hn : ns.length = 2 := by rw [h.2.2.2.2.2.1, ar_ne (by omega)]; rfl
    refine k154_0 b0 b1 b2 ?_ ?_ ?_ ?_ ?_ ?_ ?_ ?_ ?_ ?_ ?_ ?_ ?_ ?_ ?_ ?_ ?_ ?_ ?_ ?_ ?_
    all_goals first
      | (intros; contradiction)
      | skip
    intros
    rw [kf_0 hf, g0 (by omega), kf_1 hf, g1 (by omega)]
    refine ⟨_, m_newValue (w := 1015) (by omega) hR.1 (by omega) rfl, fun r μ1 hr => ?_⟩
    obtain ⟨rfl, rfl⟩ := hr
    exact k154_274 ⟨_, fin_new (w := 1015) (ps := ps) (by omega) hf hR hF rfl rfl (gp_no (by omega)).symm, fun μ2 hg => k154_277 (k154_297 (hP _ hg.2 hg.1))⟩
  · have hn : ns.length = 1 := by rw [h.2.2.2.2.2.1, ar_ne (by omega)]; rfl
    refine k154_0 b0 b1 b2 ?_ ?_ ?_ ?_ ?_ ?_ ?_ ?_ ?_ ?_ ?_ ?_ ?_ ?_ ?_ ?_ ?_ ?_ ?_ ?_ ?_
    all_goals first
      | (intros; contradiction)
      | skip
    intros
    rw [kf_0 hf, g0 (by omega)]
    refine ⟨_, m_newValue (w := 1016) (by omega) hR.1 (by omega) rfl, fun r μ1 hr => ?_⟩
    obtain ⟨rfl, rfl⟩ := hr
    exact k154_294 ⟨_, fin_new (w := 1016) (ps := ps) (by omega) hf hR hF rfl (gp_no (by omega)).symm (gp_no (by omega)).symm, fun μ2 hg => k154_297 (hP _ hg.2 hg.1)⟩
theorem cx_parts (hd : 2 ≤ d) (hk : k = 6 ∨ (11 ≤ k ∧ k ≤ 16)) (h : CI X d μ0 76 [.inr 4, .inl (nI q), .inl (nI (wq k))] vs s b t B E o vs' s1) : CX X d μ0 q k vs s b t B E o vs' s1 := by
  intro μ hs hc
  have fin : ∀ {μ : zm_u}, SA μ0 μ → CE μ vs s b t B E → zV X d 68 233 [(0, .inr 4), (1, .inl (nI q)), (2, .inl (nI k))] [] μ (zpi (fun r μ' => r = o ∧ CE μ' vs' s1 b t B E ∧ CFr μ μ')) := by
    intro μ hs hc
    refine k68_233 ⟨fun r μ' => μ' = μ ∧ r = nI (wq k), zI_at [0] (by omega) rfl ?_, fun r μ1 hr => ?_⟩
    · rcases (show k = 6 ∨ k = 11 ∨ k = 12 ∨ k = 13 ∨ k = 14 ∨ k = 15 ∨ k = 16 by omega) with rfl | rfl | rfl | rfl | rfl | rfl | rfl <;> refine k69_0 ?_ ?_ ?_ ?_ <;> intros <;> first | contradiction | exact ⟨rfl, rfl⟩
    · obtain ⟨rfl, rfl⟩ := hr
      exact k68_239 ⟨_, h _ hs hc, fun r μ2 hr => k68_242 hr⟩
  have mk : 11 ≤ k → ∀ (r : Int32) (μ1 : zm_u), (μ1 = μ ∧ (11 ≤ (nI k).toInt ∧ (nI k).toInt ≤ 16 ∧ r = 1 ∨ ¬ (11 ≤ (nI k).toInt ∧ (nI k).toInt ≤ 16) ∧ r = 0)) → zV X d 68 230 [(0, .inr 4), (1, .inl (nI q)), (2, .inl (nI k))] [.inl r] μ1 (zpi (fun r μ' => r = o ∧ CE μ' vs' s1 b t B E ∧ CFr μ μ')) := by
    intro hk1 r μ1 hr
    obtain ⟨rfl, ⟨_, _, rfl⟩ | ⟨z, _⟩⟩ := hr
    · exact k68_230 (fun z => absurd z zn_10) (fun _ => fin hs hc)
    · rw [nI_t (by omega)] at z
      omega
  rcases (show k = 6 ∨ k = 11 ∨ k = 12 ∨ k = 13 ∨ k = 14 ∨ k = 15 ∨ k = 16 by omega) with rfl | rfl | rfl | rfl | rfl | rfl | rfl
  · refine k68_30 ?_ ?_ ?_ ?_ ?_ ?_ (fun _ _ _ _ _ _ _ _ => fin hs hc) ?_ ?_ ?_ ?_ ?_ ?_ ?_ ?_ ?_ ?_ ?_ ?_ ?_ ?_ ?_ ?_ ?_ ?_ ?_ ?_ <;> (intros; contradiction)
  · refine k68_30 ?_ ?_ ?_ ?_ ?_ ?_ ?_ ?_ ?_ ?_ ?_ ?_ ?_ (fun _ _ _ _ _ _ _ _ _ _ _ _ _ => ⟨_, c_isMaker (by omega), fun r μ1 hr => mk (by omega) r μ1 hr⟩) ?_ ?_ ?_ ?_ ?_ ?_ ?_ ?_ ?_ ?_ ?_ ?_ ?_ <;> (intros; contradiction)
  · refine k68_30 ?_ ?_ ?_ ?_ ?_ ?_ ?_ ?_ ?_ ?_ ?_ ?_ ?_ ?_ ?_ (fun _ _ _ _ _ _ _ _ _ _ _ _ _ _ => ⟨_, c_isMaker (by omega), fun r μ1 hr => mk (by omega) r μ1 hr⟩) ?_ ?_ ?_ ?_ ?_ ?_ ?_ ?_ ?_ ?_ ?_ <;> (intros; contradiction)
  · refine k68_30 ?_ ?_ ?_ ?_ ?_ ?_ ?_ ?_ ?_ ?_ ?_ ?_ ?_ ?_ ?_ ?_ ?_ (fun _ _ _ _ _ _ _ _ _ _ _ _ _ _ _ => ⟨_, c_isMaker (by omega), fun r μ1 hr => mk (by omega) r μ1 hr⟩) ?_ ?_ ?_ ?_ ?_ ?_ ?_ ?_ ?_ <;> (intros; contradiction)
  · refine k68_30 ?_ ?_ ?_ ?_ ?_ ?_ ?_ ?_ ?_ ?_ ?_ ?_ ?_ ?_ ?_ ?_ ?_ ?_ ?_ (fun _ _ _ _ _ _ _ _ _ _ _ _ _ _ _ _ => ⟨_, c_isMaker (by omega), fun r μ1 hr => mk (by omega) r μ1 hr⟩) ?_ ?_ ?_ ?_ ?_ ?_ ?_ <;> (intros; contradiction)
  · refine k68_30 ?_ ?_ ?_ ?_ ?_ ?_ ?_ ?_ ?_ ?_ ?_ ?_ ?_ ?_ ?_ ?_ ?_ ?_ ?_ ?_ ?_ (fun _ _ _ _ _ _ _ _ _ _ _ _ _ _ _ _ _ => ⟨_, c_isMaker (by omega), fun r μ1 hr => mk (by omega) r μ1 hr⟩) ?_ ?_ ?_ ?_ ?_ <;> (intros; contradiction)
  · refine k68_30 ?_ ?_ ?_ ?_ ?_ ?_ ?_ ?_ ?_ ?_ ?_ ?_ ?_ ?_ ?_ ?_ ?_ ?_ ?_ ?_ ?_ ?_ ?_ (fun _ _ _ _ _ _ _ _ _ _ _ _ _ _ _ _ _ _ => ⟨_, c_isMaker (by omega), fun r μ1 hr => mk (by omega) r μ1 hr⟩) ?_ ?_ ?_ <;> (intros; contradiction)
theorem su_mk (hk : k = 6 ∨ (11 ≤ k ∧ k ≤ 16)) : ∀ w, wok w → (su_ok k st w ↔ wn_ok (wq k) w) := by
  intro w _
  rcases (show k = 6 ∨ k = 11 ∨ k = 12 ∨ k = 13 ∨ k = 14 ∨ k = 15 ∨ k = 16 by omega) with rfl | rfl | rfl | rfl | rfl | rfl | rfl
  · exact Iff.rfl
  · exact Iff.rfl
  · exact Iff.rfl
  all_goals
    constructor
    · intro z
      rcases z with z | z
      · exact z
      · omega
    · exact fun z => Or.inl z
theorem wq_le : wq k ≤ 4 := by unfold wq; split <;> (try split) <;> (try split) <;> omega
theorem vpn_mk (hk : k = 6 ∨ (11 ≤ k ∧ k ≤ 16)) : vpn (if k = 6 then 1003 else 1000 + k) = pt k := by
  rcases (show k = 6 ∨ k = 11 ∨ k = 12 ∨ k = 13 ∨ k = 14 ∨ k = 15 ∨ k = 16 by omega) with rfl | rfl | rfl | rfl | rfl | rfl | rfl <;> rfl
theorem wok_mk (hk : k = 6 ∨ (11 ≤ k ∧ k ≤ 16)) : wok (if k = 6 then 1003 else 1000 + k) ∧ (if k = 6 then 1003 else 1000 + k) ≠ 1000 := by
  unfold wok
  split <;> omega
theorem JC_mk (hJ : Jv X L μ0 dc dr g) (hg : 7 * (4 - b) + e ≤ g) (hd : dc + 3 ≤ d ∧ 8 ≤ d) (hdr : 8 ≤ dr) (h : TT L μ0 e p u n k ns) (hk : k = 6 ∨ (11 ≤ k ∧ k ≤ 16)) (hI : EInv (e + 1) b vs s t B f E) (hlt : vs.length < s) : JC X μ0 d dr p (u + n - 1) k vs s b t B f E := by
  have hn : ns.length = pt k := by
    rw [h.2.2.2.2.2.1, ar_ne (by omega)]
  have hn3 : 1 ≤ ns.length ∧ ns.length ≤ 3 := by
    rw [hn]
    rcases (show k = 6 ∨ k = 11 ∨ k = 12 ∨ k = 13 ∨ k = 14 ∨ k = 15 ∨ k = 16 by omega) with rfl | rfl | rfl | rfl | rfl | rfl | rfl <;> decide
  have hf : f < 60 := by have := hI.2.2.2.2.2.1; omega
  have hq : u + n - 1 < 560 := by have := h.1; omega
  have ea1 : (1 : Int32) = nI 1 := rfl
  have ea2 : (2 : Int32) = nI 2 := rfl
  have hpar : ar (nI k) 0 = ns.length := by rw [hn, ar_ne (by omega)]
  have hok := h.2.2.2.2.1.1
  have n17 : nI k = 17 → 0 ≤ (0 : Int32).toInt ∧ (0 : Int32).toInt < 64 := fun _ => by decide
  have beg : ∀ {o : Int32} {vs' : List vE} {s' : Nat}, (∀ μ, SA μ0 μ → CE μ vs s b t B E → zV X (d - 1) 76 14 [(0, .inr 4), (1, .inl (nI (u + n - 1))), (2, .inl (nI (wq k))), (3, .inl (nI k))] [.inl (nI ns.length)] μ (zpi (fun r μ' => r = o ∧ CE μ' vs' s' b t B E ∧ CFr μ μ'))) → CX X d μ0 (u + n - 1) k vs s b t B E o vs' s' := by
    intro o vs' s' hh
    refine cx_parts (by omega) hk (fun μ hs hc => zI_at [0, 1, 2] (by omega) rfl (k76_0 ⟨_, c_opOf (by omega) hq, fun r μ1 hr => ?_⟩))
    obtain ⟨rfl, rfl⟩ := hr
    rw [hs.1, h.2.2.1]
    refine k76_8 ⟨_, c_partsOf (by omega) hok n17, fun r μ1 hr => ?_⟩
    obtain ⟨rfl, rfl⟩ := hr
    rw [hpar]
    exact hh _ hs hc
  obtain ⟨m0, hm0⟩ := ns_at (ns := ns) (j := 0) (by omega)
  obtain ⟨o1, vs1, s1, p1, i1, c1, r1⟩ := jpart (d := d - 1) (K := fun _ => 0) hJ hg (by omega) hdr (by omega) (by omega) h hI hm0 (rst_gen hdr hf hI.2.1 h (by omega) (by omega) (by omega)) (q := wq k) wq_le (su_mk hk)
  have l1 := EP_lt p1 hlt
  have g1 := i1.2.1
  rcases r1 with ⟨ho, rb⟩ | ⟨v1, w1, a1, ps1, rfl, hv1, hw1, hq1, go1⟩
  · refine ⟨o1, vs1, s1, EPost_m p1, beg (fun μ hs hc => ?_), RX_RB (by omega) h hf rb⟩
    refine k76_14 ⟨_, ci_step c1 hs hc, fun r μ1 hr => ?_⟩
    obtain ⟨rfl, hj⟩ := hr
    exact k76_23 (fun _ => k76_36 (fun z => absurd z (ho_nn ho)) (fun _ => k76_58 ⟨rfl, hj.2⟩)) (fun z => absurd (ho_lt ho) z) (fun z => absurd (ho_lt ho) z)
  have vl1 := (List.getElem?_eq_some_iff.mp hv1).1
  by_cases a1 : ns.length = 1
  · refine ⟨nI vs1.length, vs1 ++ [(if k = 6 then 1003 else 1000 + k, 0, [v1])], s1, EPost_put p1 hlt (wok_mk hk).1 (fun _ => rfl) (by rw [vpn_mk hk, ← hn, a1]; rfl) (fun j hj => by simp at hj; omega), beg (fun μ hs hc => ?_), RX_RB (by omega) h hf (go1 _ _ _ ?_)⟩
    · refine k76_14 ⟨_, ci_step c1 hs hc, fun r μ1 hr => ?_⟩
      obtain ⟨rfl, hj⟩ := hr
      refine k76_23 (fun z => absurd z (nI_pos (by omega))) (fun _ z => absurd (by rw [a1]; rfl) z) (fun _ _ => k76_36 (fun _ => ⟨_, c_ofParts (ps := [v1]) (by omega) hj.2.1 (by omega) hk rfl rfl rfl, fun r μ2 hr => k76_58 ?_⟩) (fun z => absurd (nI_ge0 (by omega)) z))
      exact ⟨hr.1, hr.2.1, CFr_tr hj.2.2 hr.2.2⟩
    · have rb := rb_mk (X := X) (b := b) (t := t) (B := B) (E := E) (s := s1) (vs := vs1) (K := fun i => if i = 0 then v1 else 0) (ps := [v1]) hdr hf (by omega) h hk (by rw [a1]; rfl) (fun i hi => by
        obtain rfl : i = 0 := by simp at hi; omega
        rfl)
      rw [a1] at rb
      exact rb
  obtain ⟨m1, hm1⟩ := ns_at (ns := ns) (j := 1) (by omega)
  obtain ⟨o2, vs2, s2, p2, i2, c2, r2⟩ := jpart (d := d - 1) hJ hg (by omega) hdr (by omega) (by omega) h i1 hm1 (rst_gen hdr hf i1.2.1 h (by omega) (by omega) (by omega)) (q := wq k) wq_le (su_mk hk)
  have l2 := EP_lt p2 l1.1
  have g2 := i2.2.1
  have na1 : ¬ nI ns.length = 1 := by rw [ea1, nI_inj (by omega) (by omega)]; exact a1
  rcases r2 with ⟨ho, rb⟩ | ⟨v2, w2, a2, ps2, rfl, hv2, hw2, hq2, go2⟩
  · refine ⟨o2, vs2, s2, EPost_m (EPost_tr p1 p2), beg (fun μ hs hc => ?_), RX_RB (by omega) h hf (go1 _ _ _ rb)⟩
    refine k76_14 ⟨_, ci_step c1 hs hc, fun r μ1 hr => ?_⟩
    obtain ⟨rfl, hj⟩ := hr
    refine k76_23 (fun z => absurd z (nI_pos (by omega))) (fun _ _ => ⟨_, ci_step c2 hj.1 hj.2.1, fun r μ2 hr => ?_⟩) (fun _ z => absurd z na1)
    obtain ⟨rfl, hj2⟩ := hr
    exact k76_66 (fun _ => k76_79 (fun z => absurd z (ho_nn ho)) (fun _ => k76_102 ⟨rfl, hj2.2.1, CFr_tr hj.2.2 hj2.2.2⟩)) (fun z => absurd (ho_lt ho) z) (fun z => absurd (ho_lt ho) z)
  have vl2 := (List.getElem?_eq_some_iff.mp hv2).1
  by_cases a2 : ns.length = 2
  · refine ⟨nI vs2.length, vs2 ++ [(if k = 6 then 1003 else 1000 + k, 0, [v1, v2])], s2, EPost_put (EPost_tr p1 p2) hlt (wok_mk hk).1 (fun _ => rfl) (by rw [vpn_mk hk, ← hn, a2]; rfl) (fun j hj => by simp at hj; omega), beg (fun μ hs hc => ?_), RX_RB (by omega) h hf (go1 _ _ _ (go2 _ _ _ ?_))⟩
    · refine k76_14 ⟨_, ci_step c1 hs hc, fun r μ1 hr => ?_⟩
      obtain ⟨rfl, hj⟩ := hr
      refine k76_23 (fun z => absurd z (nI_pos (by omega))) (fun _ _ => ⟨_, ci_step c2 hj.1 hj.2.1, fun r μ2 hr => ?_⟩) (fun _ z => absurd z na1)
      obtain ⟨rfl, hj2⟩ := hr
      refine k76_66 (fun z => absurd z (nI_pos (by omega))) (fun _ z => absurd (by rw [a2]; rfl) z) (fun _ _ => k76_79 (fun _ => ⟨_, c_ofParts (ps := [v1, v2]) (by omega) hj2.2.1 (by omega) hk rfl rfl rfl, fun r μ2 hr => k76_102 ?_⟩) (fun z => absurd (nI_ge0 (by omega)) z))
      exact ⟨hr.1, hr.2.1, CFr_tr hj.2.2 (CFr_tr hj2.2.2 hr.2.2)⟩
    · have rb := rb_mk (X := X) (b := b) (t := t) (B := B) (E := E) (s := s2) (vs := vs2) (K := fun i => if i = 1 then v2 else if i = 0 then v1 else 0) (ps := [v1, v2]) hdr hf (by omega) h hk (by rw [a2]; rfl) (fun i hi => by
        have hi2 : i = 0 ∨ i = 1 := by simp at hi; omega
        rcases hi2 with rfl | rfl <;> rfl)
      rw [a2] at rb
      exact rb
  obtain ⟨m2, hm2⟩ := ns_at (ns := ns) (j := 2) (by omega)
  obtain ⟨o3, vs3, s3, p3, i3, c3, r3⟩ := jpart (d := d - 1) hJ hg (by omega) hdr (by omega) (by omega) h i2 hm2 (rst_gen hdr hf i2.2.1 h (by omega) (by omega) (by omega)) (q := wq k) wq_le (su_mk hk)
  have l3 := EP_lt p3 l2.1
  have g3 := i3.2.1
  have a3 : ns.length = 3 := by omega
  have na2 : ¬ nI ns.length = 2 := by rw [ea2, nI_inj (by omega) (by omega)]; exact a2
  rcases r3 with ⟨ho, rb⟩ | ⟨v3, w3, x3, ps3, rfl, hv3, hw3, hq3, go3⟩
  · refine ⟨o3, vs3, s3, EPost_m (EPost_tr p1 (EPost_tr p2 p3)), beg (fun μ hs hc => ?_), RX_RB (by omega) h hf (go1 _ _ _ (go2 _ _ _ rb))⟩
    refine k76_14 ⟨_, ci_step c1 hs hc, fun r μ1 hr => ?_⟩
    obtain ⟨rfl, hj⟩ := hr
    refine k76_23 (fun z => absurd z (nI_pos (by omega))) (fun _ _ => ⟨_, ci_step c2 hj.1 hj.2.1, fun r μ2 hr => ?_⟩) (fun _ z => absurd z na1)
    obtain ⟨rfl, hj2⟩ := hr
    refine k76_66 (fun z => absurd z (nI_pos (by omega))) (fun _ _ => ⟨_, ci_step c3 hj2.1 hj2.2.1, fun r μ3 hr => ?_⟩) (fun _ z => absurd z na2)
    obtain ⟨rfl, hj3⟩ := hr
    exact k76_110 (fun z => absurd z (ho_nn ho)) (fun _ => k76_136 ⟨rfl, hj3.2.1, CFr_tr hj.2.2 (CFr_tr hj2.2.2 hj3.2.2)⟩)
  have vl3 := (List.getElem?_eq_some_iff.mp hv3).1
  refine ⟨nI vs3.length, vs3 ++ [(if k = 6 then 1003 else 1000 + k, 0, [v1, v2, v3])], s3, EPost_put (EPost_tr p1 (EPost_tr p2 p3)) hlt (wok_mk hk).1 (fun _ => rfl) (by rw [vpn_mk hk, ← hn, a3]; rfl) (fun j hj => by simp at hj; omega), beg (fun μ hs hc => ?_), RX_RB (by omega) h hf (go1 _ _ _ (go2 _ _ _ (go3 _ _ _ ?_)))⟩
  · refine k76_14 ⟨_, ci_step c1 hs hc, fun r μ1 hr => ?_⟩
    obtain ⟨rfl, hj⟩ := hr
    refine k76_23 (fun z => absurd z (nI_pos (by omega))) (fun _ _ => ⟨_, ci_step c2 hj.1 hj.2.1, fun r μ2 hr => ?_⟩) (fun _ z => absurd z na1)
    obtain ⟨rfl, hj2⟩ := hr
    refine k76_66 (fun z => absurd z (nI_pos (by omega))) (fun _ _ => ⟨_, ci_step c3 hj2.1 hj2.2.1, fun r μ3 hr => ?_⟩) (fun _ z => absurd z na2)
    obtain ⟨rfl, hj3⟩ := hr
    refine k76_110 (fun _ => ⟨_, c_ofParts (ps := [v1, v2, v3]) (by omega) hj3.2.1 (by omega) hk rfl rfl rfl, fun r μ2 hr => k76_136 ?_⟩) (fun z => absurd (nI_ge0 (by omega)) z)
    exact ⟨hr.1, hr.2.1, CFr_tr hj.2.2 (CFr_tr hj2.2.2 (CFr_tr hj3.2.2 hr.2.2))⟩
  · have rb := rb_mk (X := X) (b := b) (t := t) (B := B) (E := E) (s := s3) (vs := vs3) (K := fun i => if i = 2 then v3 else if i = 1 then v2 else if i = 0 then v1 else 0) (ps := [v1, v2, v3]) hdr hf (by omega) h hk (by rw [a3]; rfl) (fun i hi => by
        have hi2 : i = 0 ∨ i = 1 ∨ i = 2 := by simp at hi; omega
        rcases hi2 with rfl | rfl | rfl <;> rfl)
    rw [a3] at rb
    exact rb
end EM

section EQ
variable {X : zm_T} {d dc dr L g : Nat} {μ μ' μ0 μ1 : zm_u} {vs vs' vs1 vs2 : List vE} {s s1 s2 b t B f i w p q k st pk e u n j m : Nat} {E K : Nat → Nat} {num o o1 o2 oT x : Int32} {ps ns : List Nat}
theorem gp_at {v : Nat} (h : ps[k]? = some v) : gp ps k = nI v := by
  unfold gp
  rw [h]
theorem JC_pair (hJ : Jv X L μ0 dc dr g) (hg : 7 * (4 - b) + e ≤ g) (hd : dc + 3 ≤ d ∧ 8 ≤ d) (hdr : 8 ≤ dr) (h : TT L μ0 e p u n k ns) (hk : k = 7 ∨ k = 8) (hI : EInv (e + 1) b vs s t B f E) (hlt : vs.length < s) : JC X μ0 d dr p (u + n - 1) k vs s b t B f E := by
  have hn : ns.length = 1 := by
    rw [h.2.2.2.2.2.1]
    rcases hk with rfl | rfl <;> rw [ar_ne (by omega)] <;> rfl
  have hf : f < 60 := by have := hI.2.2.2.2.2.1; omega
  obtain ⟨m0, hm0⟩ := ns_at (ns := ns) (j := 0) (by omega)
  have hsu : ∀ w, wok w → (su_ok k (0 + 1) w ↔ wn_ok 3 w) := by
    intro w _
    rcases hk with rfl | rfl <;> exact Iff.rfl
  have cx : ∀ {o : Int32} {vs' : List vE} {s1 : Nat}, CI X d μ0 75 [.inr 4, .inl (nI (u + n - 1)), .inl (nI (k - 7))] vs s b t B E o vs' s1 → CX X d μ0 (u + n - 1) k vs s b t B E o vs' s1 := by
    intro o vs' s1 hh
    rcases hk with rfl | rfl
    · exact cx_first hh
    · exact cx_second hh
  obtain ⟨o1, vs1, s1, p1, i1, c1, r1⟩ := jpart (d := d - 1) (K := fun _ => 0) hJ hg (by omega) hdr (by omega) (by omega) h hI hm0 (rst_gen hdr hf hI.2.1 h (by omega) (by omega) (by omega)) (q := 3) (by omega) hsu
  rcases r1 with ⟨ho, rb⟩ | ⟨v1, w1, a1, ps1, rfl, hv1, hw1, hq1, go1⟩
  · refine ⟨o1, vs1, s1, EPost_m p1, cx (fun μ hs hc => ?_), RX_RB (by omega) h hf rb⟩
    refine zI_at [0, 1, 2] (by omega) rfl (k75_0 ⟨_, ci_step c1 hs hc, fun r μ1 hr => ?_⟩)
    obtain ⟨rfl, hj⟩ := hr
    exact k75_7 (fun z => absurd z (ho_nn ho)) (fun _ => k75_25 ⟨rfl, hj.2⟩)
  · have l1 := EP_lt p1 hlt
    have g1 := i1.2.1
    have vl1 := (List.getElem?_eq_some_iff.mp hv1).1
    obtain rfl : w1 = 1003 := hq1
    obtain ⟨_, _, z3, z4⟩ := p1.2.1 v1 _ _ _ hv1
    have z5 : ps1.length = 2 := z3
    obtain ⟨y, hy⟩ := ns_at (ns := ps1) (j := k - 7) (by omega)
    have hyl : y < v1 := z4 y (List.mem_of_getElem? hy)
    refine ⟨nI y, vs1, s1, EPost_o p1 (Or.inl ⟨y, by omega, rfl⟩), cx (fun μ hs hc => ?_), RX_RB (by omega) h hf (go1 _ _ _ ?_)⟩
    · refine zI_at [0, 1, 2] (by omega) rfl (k75_0 ⟨_, ci_step c1 hs hc, fun r μ1 hr => ?_⟩)
      obtain ⟨rfl, hj⟩ := hr
      refine k75_7 (fun _ => ⟨_, c_vpart (by omega) hj.2.1.1 hw1 hv1 z3 (by omega), fun r μ2 hr => k75_25 ?_⟩) (fun z => absurd (nI_ge0 (by omega)) z)
      obtain ⟨rfl, rfl⟩ := hr
      exact ⟨gp_at hy, hj.2⟩
    · refine rb_comb hdr hf h (by omega) hn.symm (fun μ hs hR hF hK P hP => ?_)
      have q0 : μ 56 (3 * f) = nI v1 := hK 0 (by omega)
      obtain ⟨_, _, x1, x2, _⟩ := hR.1.2 v1 _ _ _ hv1
      obtain ⟨b0, b1, b2⟩ := kf_b hf
      have e0 : (3 : Int32) * nI v1 = nI (3 * v1) := nI_3 v1
      have e1 : (3 : Int32) * nI v1 + 1 = nI (3 * v1 + 1) := by rw [nI_3, ← nI_one, nI_add]
      rcases hk with rfl | rfl
      · refine k154_0 b0 b1 b2 ?_ ?_ ?_ ?_ ?_ ?_ ?_ ?_ ?_ ?_ ?_ ?_ ?_ ?_ ?_ ?_ ?_ ?_ ?_ ?_ ?_
        all_goals first
          | (intros; contradiction)
          | skip
        · intros; rw [kf_0 hf, q0, e0, nI_t (by omega)]; omega
        · intros
          rw [kf_0 hf, q0, e0, nI_c (by omega), x1, gp_at (k := 0) hy]
          exact ⟨_, fin_old (by omega) hf hR hF (by omega), fun μ2 hg => k154_194 (k154_297 (hP _ hg.2 hg.1))⟩
      · refine k154_0 b0 b1 b2 ?_ ?_ ?_ ?_ ?_ ?_ ?_ ?_ ?_ ?_ ?_ ?_ ?_ ?_ ?_ ?_ ?_ ?_ ?_ ?_ ?_
        all_goals first
          | (intros; contradiction)
          | skip
        · intros; rw [kf_0 hf, q0, e1, nI_t (by omega)]; omega
        · intros
          rw [kf_0 hf, q0, e1, nI_c (by omega), x2, gp_at (k := 1) hy]
          exact ⟨_, fin_old (by omega) hf hR hF (by omega), fun μ2 hg => k154_211 (k154_297 (hP _ hg.2 hg.1))⟩
theorem JC_as (hJ : Jv X L μ0 dc dr g) (hg : 7 * (4 - b) + e ≤ g) (hd : dc + 3 ≤ d ∧ 8 ≤ d) (hdr : 8 ≤ dr) (h : TT L μ0 e p u n 10 ns) (hI : EInv (e + 1) b vs s t B f E) (hlt : vs.length < s) : JC X μ0 d dr p (u + n - 1) 10 vs s b t B f E := by
  have hn : ns.length = 1 := by
    rw [h.2.2.2.2.2.1, ar_ne (by omega)]; rfl
  have hf : f < 60 := by have := hI.2.2.2.2.2.1; omega
  obtain ⟨m0, hm0⟩ := ns_at (ns := ns) (j := 0) (by omega)
  obtain ⟨o1, vs1, s1, p1, i1, c1, r1⟩ := jpart (d := d) (K := fun _ => 0) hJ hg (by omega) hdr (by omega) (by omega) h hI hm0 (rst_gen hdr hf hI.2.1 h (by omega) (by omega) (by omega)) (q := 0) (by omega) (fun _ _ => Iff.rfl)
  rcases r1 with ⟨ho, rb⟩ | ⟨v1, w1, a1, ps1, rfl, hv1, hw1, hq1, go1⟩
  · exact ⟨o1, vs1, s1, EPost_m p1, cx_as c1, RX_RB (by omega) h hf rb⟩
  · have g1 := i1.2.1
    have vl1 := (List.getElem?_eq_some_iff.mp hv1).1
    refine ⟨nI v1, vs1, s1, EPost_m p1, cx_as c1, RX_RB (by omega) h hf (go1 _ _ _ ?_)⟩
    refine rb_comb hdr hf h (by omega) hn.symm (fun μ hs hR hF hK P hP => ?_)
    have q0 : μ 56 (3 * f) = nI v1 := hK 0 (by omega)
    obtain ⟨b0, b1, b2⟩ := kf_b hf
    refine k154_0 b0 b1 b2 ?_ ?_ ?_ ?_ ?_ ?_ ?_ ?_ ?_ ?_ ?_ ?_ ?_ ?_ ?_ ?_ ?_ ?_ ?_ ?_ ?_
    all_goals first
      | (intros; contradiction)
      | skip
    intros
    rw [kf_0 hf, q0]
    exact ⟨_, fin_old (by omega) hf hR hF (by omega), fun μ2 hg => k154_219 (k154_297 (hP _ hg.2 hg.1))⟩
theorem n5 {P : Prop} (h : ¬ (3 : Int32) ≤ nI 5) : P := absurd (by decide) h
theorem rst_if0 (hdr : 8 ≤ dr) (hf : f < 60) (hs6 : s ≤ 600) (h : TT L μ0 e p u n 5 ns) : RST X dr μ0 p 5 0 (p + 1 + (ns.take 0).sum) K vs s b t B E f := by
  intro μ hs hR hF hK hg Q hQ
  obtain ⟨h1, h2, h3, h4, h5, h6, h7, h8⟩ := h
  have hak : ns.length ≤ 9 := by rw [h6]; exact ar_le _ _
  refine k149_88 (fun _ z => absurd rfl z) (fun _ z => absurd rfl z) (fun _ z => absurd rfl z) (fun _ z => absurd rfl z) (fun _ _ => ⟨Q, zO_at [0, 1, 2, 3] (by omega) rfl ?_, fun μ1 hq => k149_115 (k149_185 hq)⟩) n5
  refine k151_0 (fun z => absurd rfl z) (fun z => absurd rfl z) (fun z => absurd rfl z) (fun z => absurd rfl z) (fun z => absurd rfl z) (fun _ => ⟨_, m_part (m := 0) (k := 0) (L := L) (e := e) (u := u) (by omega) (by omega) (by omega) (by omega) (Tl_SA hs h8) (by omega), fun r μ2 hr2 => ?_⟩)
  obtain ⟨rfl, rfl⟩ := hr2
  refine k151_11 ⟨_, st_ok (pk := p + 1 + (ns.take 0).sum) (by omega) hf hs6 hR rfl, fun μ3 hr3 => ?_⟩
  obtain rfl := hr3
  exact k151_14 (k151_68 hQ)
theorem rst_if1 (hdr : 8 ≤ dr) (hf : f < 60) (hs6 : s ≤ 600) (h : TT L μ0 e p u n 5 ns) (hn : ns.length = 3) {v : Nat} (hv : vs[v]? = some (w, num, ps)) (hl : vs.length ≤ 600) (hw : wok w) (hK0 : K 0 = v) : RST X dr μ0 p 5 1 (p + 1 + (ns.take (if w = 1001 then 1 else 2)).sum) K vs s b t B E f := by
  intro μ hs hR hF hK hg Q hQ
  have hvl := (List.getElem?_eq_some_iff.mp hv).1
  have hwl := wok_lt hw
  obtain ⟨h1, h2, h3, h4, h5, h6, h7, h8⟩ := h
  have g53 : μ 22 53 = nI v := by rw [hg (by omega), ← hK0]
  have c53 : (μ 22 53).toNatClampNeg = v := by rw [g53, nI_c (by omega)]
  have x1 := (hR.1.2 v _ _ _ hv).1
  refine k149_88 (fun _ z => absurd rfl z) (fun _ z => absurd rfl z) (fun _ z => absurd rfl z) (fun _ z => absurd rfl z) (fun _ _ => ⟨Q, zO_at [0, 1, 2, 3] (by omega) rfl ?_, fun μ1 hq => k149_115 (k149_185 hq)⟩) n5
  refine k151_0 (fun _ z => absurd rfl z) (fun _ z => absurd rfl z) (fun _ _ => by rw [g53, nI_t (by omega)]; omega) (fun _ _ z => ?_) (fun _ _ z => ?_) (fun z => absurd z zn_10)
  · rw [c53, x1, zb_1001, nI_inj (by omega) (by omega)] at z
    rw [if_neg z] at hQ
    refine k151_45 ⟨_, m_part (m := 0) (k := 2) (L := L) (e := e) (u := u) (by omega) (by omega) (by omega) (by omega) (Tl_SA hs h8) (by omega), fun r μ2 hr2 => ?_⟩
    obtain ⟨rfl, rfl⟩ := hr2
    refine k151_48 ⟨_, st_ok (pk := p + 1 + (ns.take 2).sum) (by omega) hf hs6 hR rfl, fun μ3 hr3 => ?_⟩
    obtain rfl := hr3
    exact k151_51 (k151_68 hQ)
  · rw [c53, x1, zb_1001, nI_inj (by omega) (by omega)] at z
    rw [if_pos z] at hQ
    refine k151_45 ⟨_, m_part (m := 0) (k := 1) (L := L) (e := e) (u := u) (by omega) (by omega) (by omega) (by omega) (Tl_SA hs h8) (by omega), fun r μ2 hr2 => ?_⟩
    obtain ⟨rfl, rfl⟩ := hr2
    refine k151_48 ⟨_, st_ok (pk := p + 1 + (ns.take 1).sum) (by omega) hf hs6 hR rfl, fun μ3 hr3 => ?_⟩
    obtain rfl := hr3
    exact k151_51 (k151_68 hQ)
theorem JC_if (hJ : Jv X L μ0 dc dr g) (hg : 7 * (4 - b) + e ≤ g) (hd : dc + 3 ≤ d ∧ 8 ≤ d) (hdr : 8 ≤ dr) (h : TT L μ0 e p u n 5 ns) (hI : EInv (e + 1) b vs s t B f E) (hlt : vs.length < s) : JC X μ0 d dr p (u + n - 1) 5 vs s b t B f E := by
  have hn : ns.length = 3 := by
    rw [h.2.2.2.2.2.1, ar_ne (by omega)]; rfl
  have hf : f < 60 := by have := hI.2.2.2.2.2.1; omega
  obtain ⟨m0, hm0⟩ := ns_at (ns := ns) (j := 0) (by omega)
  have hsu : ∀ w, wok w → (su_ok 5 (0 + 1) w ↔ wn_ok 2 w) := by
    intro w _
    constructor
    · intro z
      rcases z with z | z
      · omega
      · exact z
    · exact fun z => Or.inr z
  obtain ⟨o1, vs1, s1, p1, i1, c1, r1⟩ := jpart (d := d - 1) (K := fun _ => 0) hJ hg (by omega) hdr (by omega) (by omega) h hI hm0 (rst_if0 hdr hf hI.2.1 h) (q := 2) (by omega) hsu
  rcases r1 with ⟨ho, rb⟩ | ⟨v1, w1, a1, ps1, rfl, hv1, hw1, hq1, go1⟩
  · refine ⟨o1, vs1, s1, EPost_m p1, cx_if (fun μ hs hc => ?_), RX_RB (by omega) h hf rb⟩
    refine zI_at [0, 1] (by omega) rfl (k74_0 ⟨_, ci_step c1 hs hc, fun r μ1 hr => ?_⟩)
    obtain ⟨rfl, hj⟩ := hr
    exact k74_7 (fun z => absurd z (ho_nn ho)) (fun _ => ⟨rfl, hj.2⟩)
  · have l1 := EP_lt p1 hlt
    have g1 := i1.2.1
    have vl1 := (List.getElem?_eq_some_iff.mp hv1).1
    obtain ⟨m1, hm1⟩ := ns_at (ns := ns) (j := if w1 = 1001 then 1 else 2) (by split <;> omega)
    obtain ⟨o2, vs2, s2, p2, i2, c2, r2⟩ := jpart (d := d - 1) (K := fun i => if i = 0 then v1 else 0) hJ hg (by omega) hdr (st := 1) (by omega) (by omega) h i1 hm1 (rst_if1 hdr hf i1.2.1 h hn hv1 (by omega) hw1 rfl) (q := 0) (by omega) (fun _ _ => ⟨fun _ => trivial, fun _ => Or.inl (by omega)⟩)
    have cls : CX X d μ0 (u + n - 1) 5 vs s b t B E o2 vs2 s2 := by
      refine cx_if (fun μ hs hc => ?_)
      refine zI_at [0, 1] (by omega) rfl (k74_0 ⟨_, ci_step c1 hs hc, fun r μ1 hr => ?_⟩)
      obtain ⟨rfl, hj⟩ := hr
      refine k74_7 (fun _ => ⟨_, c_isTrue (by omega) hj.2.1.1 hw1 hv1, fun r μ2 hr => ?_⟩) (fun z => absurd (nI_ge0 (by omega)) z)
      obtain ⟨rfl, ⟨hw, rfl⟩ | ⟨hw, rfl⟩⟩ := hr
      · rw [if_pos hw] at c2
        refine k74_24 (fun z => absurd z zn_10) (fun _ => k74_32 ⟨_, ci_step c2 hj.1 hj.2.1, fun r μ3 hr => k74_36 ?_⟩)
        exact ⟨hr.1, hr.2.2.1, CFr_tr hj.2.2 hr.2.2.2⟩
      · rw [if_neg hw] at c2
        refine k74_24 (fun _ => k74_32 ⟨_, ci_step c2 hj.1 hj.2.1, fun r μ3 hr => k74_36 ?_⟩) (fun z => absurd rfl z)
        exact ⟨hr.1, hr.2.2.1, CFr_tr hj.2.2 hr.2.2.2⟩
    have g2 := i2.2.1
    rcases r2 with ⟨ho, rb⟩ | ⟨v2, w2, a2, ps2, rfl, hv2, hw2, hq2, go2⟩
    · exact ⟨o2, vs2, s2, EPost_m (EPost_tr p1 p2), cls, RX_RB (by omega) h hf (go1 _ _ _ rb)⟩
    · have vl2 := (List.getElem?_eq_some_iff.mp hv2).1
      refine ⟨nI v2, vs2, s2, EPost_m (EPost_tr p1 p2), cls, RX_RB (by omega) h hf (go1 _ _ _ (go2 _ _ _ ?_))⟩
      intro μ hs hR hF hK hg P hP
      have q1 : μ 56 (3 * f + 1) = nI v2 := hK 1 (by omega)
      obtain ⟨b0, b1, b2⟩ := kf_b hf
      refine k149_88 (fun _ z => absurd rfl z) (fun _ z => absurd rfl z) (fun _ z => absurd rfl z) (fun _ z => absurd rfl z) (fun _ _ => ⟨HB X dr P, zO_at [0, 1, 2, 3] (by omega) rfl ?_, fun μ1 hq => k149_115 (k149_185 hq)⟩) n5
      refine k151_0 (fun _ _ => b1) (fun _ _ => ?_) (fun _ z => absurd z zn_21) (fun _ z => absurd z zn_21) (fun _ z => absurd z zn_21) (fun z => absurd z zn_20)
      rw [kf_1 hf, q1]
      exact ⟨_, fin_old (by omega) hf hR hF vl2, fun μ2 hg => k151_68 (hP _ hg.2 hg.1)⟩
end EQ

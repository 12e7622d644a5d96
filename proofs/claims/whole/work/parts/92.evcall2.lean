def BD (L : Nat) (μ0 : zm_u) : Prop := ∃ n e : Nat, n ≤ 40 ∧ e ≤ 6 ∧ μ0 2 6 = nI (480 + n - 1) ∧ Tm L μ0 e 480 480 n
section ED2
variable {X : zm_T} {d dc dr L g : Nat} {μ μ' μ0 μ1 : zm_u} {vs vs' vs1 vs2 : List vE} {s s1 s2 b b2 t t2 B B2 f i w p q k st pk e u n j m : Nat} {E E2 K : Nat → Nat} {num o o1 o2 oT x : Int32} {ps ns : List Nat}
theorem rst_call (hdr : 8 ≤ dr) (hf : f < 60) (hs6 : s ≤ 600) (h : TT L μ0 e p u n 9 ns) : RST X dr μ0 p 9 0 (p + 1 + (ns.take 0).sum) K vs s b t B E f := by
  intro μ hs hR hF hK hg Q hQ
  obtain ⟨h1, h2, h3, h4, h5, h6, h7, h8⟩ := h
  have hak : ns.length ≤ 9 := by rw [h6]; exact ar_le _ _
  refine k149_88 (fun _ _ z => absurd rfl z) (fun _ _ z => absurd rfl z) (fun _ _ z => absurd rfl z) (fun _ _ _ => ⟨Q, zO_at [0, 1, 2] (by omega) rfl ?_, fun μ1 hq => k149_131 (k149_185 hq)⟩) (fun _ z => absurd z (by decide)) n9
  refine k152_0 (fun z => absurd rfl z) (fun z => absurd rfl z) (fun z => absurd rfl z) (fun _ => ⟨_, m_part (m := 0) (k := 0) (L := L) (e := e) (u := u) (by omega) (by omega) (by omega) (by omega) (Tl_SA hs h8) (by omega), fun r μ2 hr2 => ?_⟩)
  obtain ⟨rfl, rfl⟩ := hr2
  refine k152_11 ⟨_, st_ok (pk := p + 1 + (ns.take 0).sum) (by omega) hf hs6 hR rfl, fun μ3 hr3 => ?_⟩
  obtain rfl := hr3
  exact k152_14 (k152_116 hQ)
theorem rst_cases (hdr : 8 ≤ dr) (hf : f < 60) (hs6 : s ≤ 600) (h : TT L μ0 e p u n 17 ns) : RST X dr μ0 p 17 0 (p + 1 + (ns.take 0).sum) K vs s b t B E f := by
  intro μ hs hR hF hK hg Q hQ
  obtain ⟨h1, h2, h3, h4, h5, h6, h7, h8⟩ := h
  have hak : ns.length ≤ 9 := by rw [h6]; exact ar_le _ _
  refine k149_88 (fun _ _ _ z => absurd rfl z) (fun _ _ _ z => absurd rfl z) (fun _ _ _ _ => ⟨Q, zO_at [0, 1, 2] (by omega) rfl ?_, fun μ1 hq => k149_147 (k149_185 hq)⟩) (fun _ _ z => absurd z (by decide)) (fun _ z => absurd z (by decide)) n17
  refine k153_0 (fun z => absurd rfl z) (fun z => absurd rfl z) (fun z => absurd rfl z) (fun z => absurd rfl z) (fun z => absurd rfl z) (fun z => absurd rfl z) (fun _ => ⟨_, m_part (m := 0) (k := 0) (L := L) (e := e) (u := u) (by omega) (by omega) (by omega) (by omega) (Tl_SA hs h8) (by omega), fun r μ2 hr2 => ?_⟩)
  obtain ⟨rfl, rfl⟩ := hr2
  refine k153_11 ⟨_, st_ok (pk := p + 1 + (ns.take 0).sum) (by omega) hf hs6 hR rfl, fun μ3 hr3 => ?_⟩
  obtain rfl := hr3
  exact k153_14 hQ
theorem RE_call {v : Nat} (hR : RE μ vs s b t B E f) : RE (zm_up (zm_up (zm_up (zm_up (zm_up μ 22 55 0) 22 52 (nI (b + 1))) 22 50 (nI t)) 57 t (nI v)) 22 51 (nI (t + 1))) vs s (b + 1) (t + 1) t (fun i => if i = t then v else E i) f := by
  have a1 : RE (zm_up μ 22 55 0) vs s b t B E f := by
    obtain ⟨⟨h1, h1'⟩, h2, h3, h4, h5, h6, h7, h8, h9⟩ := hR
    refine ⟨⟨?_, fun i w num ps hi => ?_⟩, ?_, ?_, ?_, ?_, fun i hi => ?_, ?_, ?_, ?_⟩
    · rw [zm_up_at, if_neg (by omega)]; exact h1
    · rw [zm_up_row (by decide), zm_up_row (by decide), zm_up_row (by decide)]; exact h1' i w num ps hi
    · rw [zm_up_at, if_neg (by omega)]; exact h2
    · rw [zm_up_at, if_neg (by omega)]; exact h3
    · rw [zm_up_at, if_neg (by omega)]; exact h4
    · rw [zm_up_at, if_neg (by omega)]; exact h5
    · rw [zm_up_row (by decide)]; exact h6 i hi
    · rw [zm_up_at, if_neg (by omega)]; exact h7
    · rw [zm_up_at, if_neg (by omega)]; exact h8
    · rw [zm_up_at, if_pos ⟨rfl, rfl⟩]
  have a2 : RE (zm_up (zm_up μ 22 55 0) 22 52 (nI (b + 1))) vs s (b + 1) t B E f := RE_22 (Or.inr (Or.inr rfl)) a1 (fun z => absurd z (by omega)) (fun z => absurd z (by omega)) (fun _ => rfl) (fun _ => rfl) (fun _ => ⟨rfl, fun _ _ => rfl⟩) (fun z => absurd rfl z)
  have a3 : RE (zm_up (zm_up (zm_up μ 22 55 0) 22 52 (nI (b + 1))) 22 50 (nI t)) vs s (b + 1) t t E f := RE_22 (Or.inl rfl) a2 (fun _ => rfl) (fun z => absurd z (by omega)) (fun z => absurd z (by omega)) (fun z => absurd rfl z) (fun _ => ⟨rfl, fun _ _ => rfl⟩) (fun _ => rfl)
  refine RE_push (RE_E a3 (fun i hi => ?_)) ?_ rfl
  · show (if i = t then v else E i) = E i
    rw [if_neg (by omega)]
  · show (if t = t then v else E t) = v
    rw [if_pos rfl]
theorem JC_call (hB : BD L μ0) (hJ : Jv X L μ0 dc dr g) (hg : 7 * (4 - b) + e ≤ g) (hd : dc + 3 ≤ d ∧ 8 ≤ d) (hdr : 8 ≤ dr) (h : TT L μ0 e p u n 9 ns) (hI : EInv (e + 1) b vs s t B f E) (hlt : vs.length < s) : JC X μ0 d dr p (u + n - 1) 9 vs s b t B f E := by
  have hn : ns.length = 1 := by
    rw [h.2.2.2.2.2.1, ar_ne (by omega)]; rfl
  have hf : f < 60 := by have := hI.2.2.2.2.2.1; omega
  obtain ⟨m0, hm0⟩ := ns_at (ns := ns) (j := 0) (by omega)
  obtain ⟨o1, vs1, s1, p1, i1, c1, r1⟩ := jpart (d := d - 1) (K := fun _ => 0) hJ hg (by omega) hdr (by omega) (by omega) h hI hm0 (rst_call hdr hf hI.2.1 h) (q := 0) (by omega) (fun _ _ => Iff.rfl)
  rcases r1 with ⟨ho, rb⟩ | ⟨v1, w1, a1, ps1, rfl, hv1, hw1, hq1, go1⟩
  · refine ⟨o1, vs1, s1, EPost_m p1, cx_call (fun μ hs hc => ?_), RX_RB (by omega) h hf rb⟩
    refine zI_at [0, 1] (by omega) rfl (k77_0 ⟨_, ci_step c1 hs hc, fun r μ1 hr => ?_⟩)
    obtain ⟨rfl, hj⟩ := hr
    exact k77_7 (fun z => absurd z (ho_nn ho)) (fun z => absurd z (ho_nn ho)) (fun _ => ⟨rfl, hj.2⟩)
  have l1 := EP_lt p1 hlt
  have g1 := i1.2.1
  have gb := i1.2.2.1
  have vl1 := (List.getElem?_eq_some_iff.mp hv1).1
  have e4 : (4 : Int32) = nI 4 := rfl
  have it := i1.2.2.2.2.1
  have iff1 := i1.2.2.2.2.2.1
  by_cases hb : b = 4
  · subst hb
    refine ⟨-1, vs1, s1, EPost_o p1 (Or.inr (Or.inl rfl)), cx_call (fun μ hs hc => ?_), RX_RB (by omega) h hf (go1 _ _ _ ?_)⟩
    · refine zI_at [0, 1] (by omega) rfl (k77_0 ⟨_, ci_step c1 hs hc, fun r μ1 hr => ?_⟩)
      obtain ⟨rfl, hj⟩ := hr
      have h5 := hj.2.1.2.2.2.1
      refine k77_7 (fun _ z => ?_) (fun _ _ => ⟨rfl, hj.2⟩) (fun z => absurd (nI_ge0 (by omega)) z)
      rw [h5] at z
      exact absurd z (by decide)
    · intro μ hs hR hF hK hg P hP
      refine k149_88 (fun _ _ z => absurd rfl z) (fun _ _ z => absurd rfl z) (fun _ _ z => absurd rfl z) (fun _ _ _ => ⟨HB X dr P, zO_at [0, 1, 2] (by omega) rfl ?_, fun μ1 hq => k149_131 (k149_185 hq)⟩) (fun _ z => absurd z (by decide)) n9
      refine k152_0 (fun _ z => absurd rfl z) (fun _ _ z => absurd hR.2.2.1 z) (fun _ _ _ => ?_) (fun z => absurd z zn_10)
      refine k152_36 (Or.inr rfl) (fun z => absurd z zn_10) (fun z => absurd z zn_10) (fun _ => hP _ (RFr_22 (by omega)) (Or.inr (Or.inl ⟨rfl, ?_, ?_, ?_⟩)))
      · rw [zm_up_at, if_neg (by omega)]; exact hR.2.1
      · rw [zm_up_at, if_pos ⟨rfl, rfl⟩]
      · rw [zm_up_at, if_neg (by omega)]; exact hR.2.2.2.2.2.2.2.1
  obtain ⟨nb, eb, hB1, hB2, hB3, hB4⟩ := hB
  have hI2 : EInv eb (b + 1) vs1 s1 (t + 1) t (f + 1) (fun i => if i = t then v1 else E i) := by
    obtain ⟨q1, q2, q3, q4, q5, q6, q7, q8⟩ := i1
    refine ⟨q1, q2, by omega, by omega, by omega, by omega, fun i hi => ?_, q8⟩
    show (if i = t then v1 else E i) < vs1.length
    split
    · exact vl1
    · exact q7 i (by omega)
  obtain ⟨o2, vs2, s2, p2, c2, r2⟩ := hJ eb 480 480 nb (b + 1) vs1 s1 (t + 1) t (f + 1) _ (by omega) hB4 hI2
  have hl2 : vs2.length ≤ 600 := by have := EP_lt p2 l1.1; have := p2.2.2.2.2.1; omega
  refine ⟨o2, vs2, s2, EPost_m (EPost_tr p1 p2), cx_call (fun μ hs hc => ?_), RX_RB (by omega) h hf (go1 _ _ _ ?_)⟩
  · refine zI_at [0, 1] (by omega) rfl (k77_0 ⟨_, ci_step c1 hs hc, fun r μ1 hr => ?_⟩)
    obtain ⟨rfl, hj⟩ := hr
    obtain ⟨hs1, hc1, hf1⟩ := hj
    have h3 := hc1.2.1
    have h4 := hc1.2.2.1
    have h5 := hc1.2.2.2.1
    have hlt4 : μ1 4 5 < (4 : Int32) := by rw [h5, e4, nI_ltI (by omega) (by omega)]; omega
    refine k77_7 (fun _ _ => ?_) (fun _ z => absurd hlt4 z) (fun z => absurd (nI_ge0 (by omega)) z)
    rw [h4, h3]
    obtain ⟨k1, k2⟩ := CE_4 (j := 3) (x := nI t) (B2 := t) (t2 := t) (b2 := b) (Or.inl rfl) hc1 (fun _ => rfl) (fun z => absurd z (by omega)) (fun z => absurd z (by omega)) (fun z => absurd rfl z) (fun _ => rfl) (fun _ => rfl)
    have k1' := CE_E (E2 := fun i => if i = t then v1 else E i) k1 (fun i hi => by rw [if_neg (by omega)])
    refine ⟨_, c_add (by omega) k1' (by omega) (if_pos rfl), fun μ2 hr => ?_⟩
    obtain ⟨m1, m2, m3⟩ := hr
    have h52 : μ2 4 5 + 1 = nI (b + 1) := by rw [m1.2.2.2.1, ← nI_one, nI_add]
    obtain ⟨k3, k4⟩ := CE_4 (j := 5) (x := nI (b + 1)) (B2 := t) (t2 := t + 1) (b2 := b + 1) (Or.inr (Or.inr rfl)) m1 (fun z => absurd z (by omega)) (fun z => absurd z (by omega)) (fun _ => rfl) (fun _ => rfl) (fun _ => rfl) (fun z => absurd rfl z)
    have hs2 : SA μ0 (zm_up μ2 4 5 (nI (b + 1))) := SA_C (SA_C (SA_C hs1 k2) m2) k4
    refine k77_48 ⟨fun r μ' => μ' = zm_up μ2 4 5 (nI (b + 1)) ∧ r = nI (480 + nb - 1), ?_, fun r μ3 hr => ?_⟩
    · rw [h52]
      refine zI_at [0] (by omega) rfl (k30_0 ⟨rfl, ?_⟩)
      rw [hs2.2.2.2.2.2]
      exact hB3
    · obtain ⟨rfl, rfl⟩ := hr
      refine k77_66 ⟨_, zI_mono (c2 _ hs2 k3) (by omega) (fun _ _ q => q), fun r μ4 hr => k77_69 ?_⟩
      obtain ⟨rfl, k5, k6⟩ := hr
      have e45 : μ4 4 5 - 1 = nI b := by rw [k5.2.2.2.1, nI_pr]
      rw [e45]
      obtain ⟨n1, n2⟩ := CE_4 (j := 5) (x := nI b) (B2 := t) (t2 := t + 1) (b2 := b) (Or.inr (Or.inr rfl)) k5 (fun z => absurd z (by omega)) (fun z => absurd z (by omega)) (fun _ => rfl) (fun _ => rfl) (fun _ => rfl) (fun z => absurd rfl z)
      obtain ⟨n3, n4⟩ := CE_4 (j := 3) (x := nI B) (B2 := B) (t2 := t + 1) (b2 := b) (Or.inl rfl) n1 (fun _ => rfl) (fun z => absurd z (by omega)) (fun z => absurd z (by omega)) (fun z => absurd rfl z) (fun _ => rfl) (fun _ => rfl)
      obtain ⟨n5, n6⟩ := CE_4 (j := 4) (x := nI t) (B2 := B) (t2 := t) (b2 := b) (Or.inr (Or.inl rfl)) n3 (fun z => absurd z (by omega)) (fun _ => ⟨rfl, by omega⟩) (fun z => absurd z (by omega)) (fun _ => rfl) (fun z => absurd rfl z) (fun _ => rfl)
      exact ⟨rfl, CE_E n5 (fun i hi => by rw [if_neg (by omega)]), CFr_tr hf1 (CFr_tr k2 (CFr_tr m2 (CFr_tr k4 (CFr_tr k6 (CFr_tr n2 (CFr_tr n4 n6))))))⟩
  · refine rb_env (b2 := b + 1) (t2 := t + 1) (B2 := t) (E2 := fun i => if i = t then v1 else E i) (pk := 480) hdr hf (Or.inl rfl) h p2 hl2 rfl (by omega) (fun i hi => if_neg (by omega)) (fun μ hs hR hF hg Q hQ => ?_) r2
    have g53 : μ 22 53 = nI v1 := hg
    refine k149_88 (fun _ _ z => absurd rfl z) (fun _ _ z => absurd rfl z) (fun _ _ z => absurd rfl z) (fun _ _ _ => ⟨Q, zO_at [0, 1, 2] (by omega) rfl ?_, fun μ1 hq => k149_131 (k149_185 hq)⟩) (fun _ z => absurd z (by decide)) n9
    have nb4 : ¬ μ 22 52 = (4 : Int32) := by rw [hR.2.2.1, e4, nI_inj (by omega) (by omega)]; exact hb
    refine k152_0 (fun _ z => absurd rfl z) (fun _ _ _ => ?_) (fun _ _ z => absurd z nb4) (fun z => absurd z zn_10)
    have h51 := hR.2.2.2.2.1
    refine k152_36 (Or.inl rfl) (fun _ => by rw [h51, nI_t (by omega)]; omega) (fun _ => ?_) (fun z => absurd rfl z)
    have c51 : (μ 22 51).toNatClampNeg = t := by rw [h51, nI_c (by omega)]
    rw [c51, h51, g53, hR.2.2.1, ← nI_one, nI_add, nI_add]
    have hR5 := RE_call (v := v1) hR
    refine ⟨_, st_ok (pk := 480) (by omega) hf g1 hR5 rfl, fun μ3 hr3 => k152_95 (k152_116 ?_)⟩
    obtain rfl := hr3
    refine hQ _ ?_ hR5
    exact RFr_tr (RFr_tr (RFr_tr (RFr_tr (RFr_22 (by omega)) (RFr_22 (by omega))) (RFr_22 (by omega))) (RFr_row (c := 57) (j := t) (by omega) (by omega))) (RFr_22 (by omega))
end ED2

theorem bit_1 : ∀ a, a < 64 → ∀ m, m < 6 → (nI a &&& ((1 : Int32) <<< (nI m &&& 31)) = 0 ↔ a / 2 ^ m % 2 = 0) := by decide +kernel
theorem bit_2 : ∀ a, a < 64 → ∀ m, m < 6 → nI a &&& (((1 : Int32) <<< (nI m &&& 31)) - 1) = nI (a % 2 ^ m) := by decide +kernel
theorem bit_3 : ∀ a, a < 64 → ∀ m, m < 6 → a / 2 ^ m % 2 ≠ 0 → 1 + pop6 (a % 2 ^ m) < 1 + pop6 a := by decide +kernel
theorem bit_4 : ∀ a, a < 64 → ∀ m, m < 6 → a % 2 ^ m < 64 := by decide +kernel
section EW
variable {X : zm_T} {d dc dr L g : Nat} {μ μ' μ0 μ1 : zm_u} {vs vs' vs1 vs2 : List vE} {s s1 s2 b b2 t t2 B B2 f i w p q k st pk e u n j m a : Nat} {E E2 K : Nat → Nat} {num o o1 o2 oT x : Int32} {ps ns : List Nat}
theorem TT_17 (h : TT L μ0 e p u n 17 ns) : ∃ a, a < 64 ∧ μ0 10 (u + n - 1) = nI a ∧ ns.length = 1 + pop6 a := by
  obtain ⟨h1, h2, h3, h4, h5, h6, h7, h8⟩ := h
  obtain ⟨a1, a2⟩ := h5.2.1 rfl
  refine ⟨(μ0 10 (u + n - 1)).toInt.toNat, by omega, zn_toN (by omega), ?_⟩
  rw [h6]
  have : μ0 10 (u + n - 1) = nI (μ0 10 (u + n - 1)).toInt.toNat := zn_toN (by omega)
  rw [this]
  have e17 : nI 17 = 17 := rfl
  rw [e17, ar_17 (by omega), ← this]
theorem c_caseFor (hd : 6 ≤ d) (h : TT L μ0 e p u n 17 ns) (hs : SA μ0 μ) (ha : a < 64) (ea : μ0 10 (u + n - 1) = nI a) (hl : ns.length = 1 + pop6 a) (hm : m < 6) :
    zI X d 35 [.inr 2, .inl (nI (u + n - 1)), .inl (nI (11 + m))] μ (fun r μ' => μ' = μ ∧ (a / 2 ^ m % 2 = 0 ∧ r = -1 ∨ a / 2 ^ m % 2 ≠ 0 ∧ ∃ z, ns[1 + pop6 (a % 2 ^ m)]? = some z ∧ r = nI (u + (ns.take (1 + pop6 (a % 2 ^ m))).sum + z - 1))) := by
  obtain ⟨h1, h2, h3, h4, h5, h6, h7, h8⟩ := h
  refine zI_at [0, 1, 2] (by omega) rfl (k35_0 ⟨_, c_argSA (by omega) hs (by omega), fun r μ1 hr => ?_⟩)
  obtain ⟨rfl, rfl⟩ := hr
  rw [ea]
  refine k35_5 ⟨_, c_isMaker (by omega), fun r μ1 hr => ?_⟩
  have e11 : nI (11 + m) - 11 = nI m := by
    have e : (11 : Int32) = nI 11 := rfl
    rw [e, nI_sub (by omega)]
    congr 1
    omega
  rw [e11]
  obtain ⟨rfl, ⟨_, _, rfl⟩ | ⟨z, _⟩⟩ := hr
  · refine k35_18 (fun z => absurd z zn_10) (fun _ z => ?_) (fun _ z => ⟨rfl, Or.inl ⟨(bit_1 a ha m hm).mp z, rfl⟩⟩)
    have hz : a / 2 ^ m % 2 ≠ 0 := fun y => z ((bit_1 a ha m hm).mpr y)
    obtain ⟨zz, hzz⟩ := ns_at (ns := ns) (j := 1 + pop6 (a % 2 ^ m)) (by rw [hl]; exact bit_3 a ha m hm hz)
    rw [bit_2 a ha m hm]
    refine ⟨_, c_bitCount (by omega) (bit_4 a ha m hm), fun r μ2 hr => ?_⟩
    obtain ⟨rfl, rfl⟩ := hr
    refine k35_42 ?_
    rw [nI_1p]
    refine ⟨_, c_part (p := p + 1) (e := e) (L := L) (m := zz) (by omega) ⟨h1.1, h1.2.1⟩ (by rw [hs.1, hs.2.1, h3]; exact h6) (by rw [hs.1, hs.2.1, h3]; exact h5) h7 (Tl_SA hs h8) hzz, fun r μ2 hr => k35_46 ?_⟩
    obtain ⟨rfl, rfl⟩ := hr
    exact ⟨rfl, Or.inr ⟨hz, zz, hzz, rfl⟩⟩
  · rw [nI_t (by omega)] at z
    omega
theorem RV_51 {v : Nat} (h : RV μ vs) (hv : vs[v]? = some (w, num, ps)) (hj : j < 3) : μ 51 (3 * v + j) = gp ps j := by
  obtain ⟨_, _, a1, a2, a3⟩ := h.2 v w num ps hv
  rcases (show j = 0 ∨ j = 1 ∨ j = 2 by omega) with rfl | rfl | rfl
  · exact a1
  · exact a2
  · exact a3
def Ev (E : Nat → Nat) (t : Nat) (ps : List Nat) : Nat → Nat := fun i => if i < t then E i else ps.getD (i - t) 0
theorem Ev_at {y : Nat} (h : ps[j]? = some y) : Ev E t ps (t + j) = y := by
  unfold Ev
  rw [if_neg (by omega), Nat.add_sub_cancel_left, List.getD_eq_getElem?_getD, h]
  rfl
theorem Ev_lt (h : i < t) : Ev E t ps i = E i := by
  unfold Ev
  rw [if_pos h]
theorem JC_cases (hJ : Jv X L μ0 dc dr g) (hg : 7 * (4 - b) + e ≤ g) (hd : dc + 3 ≤ d ∧ 10 ≤ d) (hdr : 10 ≤ dr) (h : TT L μ0 e p u n 17 ns) (hI : EInv (e + 1) b vs s t B f E) (hlt : vs.length < s) : JC X μ0 d dr p (u + n - 1) 17 vs s b t B f E := by
  obtain ⟨a, ha, ea, hl⟩ := TT_17 h
  have hf : f < 60 := by have := hI.2.2.2.2.2.1; omega
  obtain ⟨m0, hm0⟩ := ns_at (ns := ns) (j := 0) (by omega)
  have hsu : ∀ w, wok w → (su_ok 17 (0 + 1) w ↔ wn_ok 4 w) := by
    intro w _
    constructor
    · intro z
      rcases z with z | z
      · exact z
      · omega
    · exact fun z => Or.inl z
  obtain ⟨o1, vs1, s1, p1, i1, c1, r1⟩ := jpart (d := d - 1) (K := fun _ => 0) hJ hg (by omega) (by omega) (by omega) (by omega) h hI hm0 (rst_cases (by omega) hf hI.2.1 h) (q := 4) (by omega) hsu
  rcases r1 with ⟨ho, rb⟩ | ⟨v1, w1, a1, ps1, rfl, hv1, hw1, hq1, go1⟩
  · refine ⟨o1, vs1, s1, EPost_m p1, cx_cases (fun μ hs hc => ?_), RX_RB (by omega) h hf rb⟩
    refine zI_at [0, 1] (by omega) rfl (k78_0 ⟨_, ci_step c1 hs hc, fun r μ1 hr => ?_⟩)
    obtain ⟨rfl, hj⟩ := hr
    exact k78_7 (fun z => absurd z (ho_nn ho)) (fun _ => ⟨rfl, hj.2⟩)
  have l1 := EP_lt p1 hlt
  have g1 := i1.2.1
  have vl1 := (List.getElem?_eq_some_iff.mp hv1).1
  have it := i1.2.2.2.2.1
  have iff1 := i1.2.2.2.2.2.1
  have hw16 : 1011 ≤ w1 ∧ w1 ≤ 1016 := by
    have q1 : 1011 ≤ w1 := hq1
    refine ⟨q1, ?_⟩
    unfold wok at hw1
    omega
  obtain ⟨_, _, z3, z4⟩ := p1.2.1 v1 _ _ _ hv1
  have hl3 : ps1.length ≤ 3 := by rw [z3]; exact vpn_le _
  obtain ⟨mm, hmm, rfl⟩ : ∃ mm, mm < 6 ∧ w1 = 1011 + mm := ⟨w1 - 1011, by omega, by omega⟩
  have emk : 1011 + mm - 1000 = 11 + mm := by omega
  have eset : ∀ μ : zm_u, SA μ0 μ → μ 28 p = nI a := fun μ hs => by rw [hs.2.2.2.2.1, h.2.2.2.1]; exact ea
  have cp : (nI p).toNatClampNeg = p := nI_c (by have := h.1; omega)
  have gm : ∀ μ : zm_u, RE μ vs1 s1 b t B E (f + 1) → μ 22 53 = nI v1 → (0 ≤ (μ 22 53).toInt ∧ (μ 22 53).toInt < ((1300 : Nat) : Int)) ∧ μ 49 (μ 22 53).toNatClampNeg - 1011 = nI mm := by
    intro μ hR hg
    refine ⟨by rw [hg, nI_t (by omega)]; omega, ?_⟩
    have e1 : (1011 : Int32) = nI 1011 := rfl
    rw [hg, nI_c (by omega), (hR.1.2 v1 _ _ _ hv1).1, e1, nI_sub (by omega), Nat.add_sub_cancel_left]
  have pb : 0 ≤ (nI p).toInt ∧ (nI p).toInt < ((560 : Nat) : Int) := by have := h.1; rw [nI_t (by omega)]; omega
  by_cases hbit : a / 2 ^ mm % 2 = 0
  · refine ⟨-2, vs1, s1, EPost_o p1 (Or.inr (Or.inr rfl)), cx_cases (fun μ hs hc => ?_), RX_RB (by omega) h hf (go1 _ _ _ ?_)⟩
    · refine zI_at [0, 1] (by omega) rfl (k78_0 ⟨_, ci_step c1 hs hc, fun r μ1 hr => ?_⟩)
      obtain ⟨rfl, hj⟩ := hr
      refine k78_7 (fun _ => ⟨_, c_makerOf (by omega) hj.2.1.1 hw1 hv1, fun r μ2 hr => ?_⟩) (fun z => absurd (nI_ge0 (by omega)) z)
      obtain ⟨rfl, rfl⟩ := hr
      rw [emk]
      refine k78_27 ⟨_, c_caseFor (by omega) h hj.1 ha ea hl hmm, fun r μ3 hr => ?_⟩
      obtain ⟨rfl, ⟨_, rfl⟩ | ⟨z, _⟩⟩ := hr
      · exact k78_30 (fun z => absurd rfl z) (fun _ => ⟨rfl, hj.2⟩)
      · exact absurd hbit z
    · intro μ hs hR hF hK hg P hP
      obtain ⟨b53, e49⟩ := gm μ hR (hg (by omega))
      refine k149_88 (fun _ _ _ z => absurd rfl z) (fun _ _ _ z => absurd rfl z) (fun _ _ _ _ => ⟨HB X dr P, zO_at [0, 1, 2] (by omega) rfl ?_, fun μ1 hq => k149_147 (k149_185 hq)⟩) (fun _ _ z => absurd z (by decide)) (fun _ z => absurd z (by decide)) n17
      refine k153_0 (fun _ _ => b53) (fun _ _ => pb) (fun _ _ z => ?_) (fun _ _ _ => Or.inr rfl) (fun _ _ _ => hP _ (RFr_22 (by omega)) (Or.inr (Or.inr ⟨rfl, ?_, ?_, ?_⟩))) (fun _ z => absurd z zn_12) (fun z => absurd z zn_10)
      · rw [e49, cp, eset μ hs, m_bits_step a ha mm hmm, hbit] at z
        exact absurd rfl z
      · rw [zm_up_at, if_neg (by omega)]; exact hR.2.1
      · rw [zm_up_at, if_pos ⟨rfl, rfl⟩]
      · rw [zm_up_at, if_neg (by omega)]; exact hR.2.2.2.2.2.2.2.2
  obtain ⟨zz, hzz⟩ := ns_at (ns := ns) (j := 1 + pop6 (a % 2 ^ mm)) (by rw [hl]; exact bit_3 a ha mm hmm hbit)
  have hTm := Tl_at ns (p + 1) u _ zz h.2.2.2.2.2.2.2 hzz
  have he1 : 1 ≤ e := by
    rcases e with _ | e
    · exact absurd hTm (fun z => z)
    · omega
  have hI2 : EInv e b vs1 s1 (t + ps1.length) B (f + 1) (Ev E t ps1) := by
    obtain ⟨q1, q2, q3, q4, q5, q6, q7, q8⟩ := i1
    refine ⟨q1, q2, q3, by omega, by omega, by omega, fun i hi => ?_, q8⟩
    by_cases z : i < t
    · rw [Ev_lt z]; exact q7 i z
    · obtain ⟨y, hy⟩ := ns_at (ns := ps1) (j := i - t) (by omega)
      have e1 : i = t + (i - t) := by omega
      rw [e1, Ev_at hy]
      have := z4 y (List.mem_of_getElem? hy)
      omega
  obtain ⟨o2, vs2, s2, p2, c2, r2⟩ := hJ e _ _ zz b vs1 s1 (t + ps1.length) B (f + 1) _ hg hTm hI2
  have hl2 : vs2.length ≤ 600 := by have := EP_lt p2 l1.1; have := p2.2.2.2.2.1; omega
  refine ⟨o2, vs2, s2, EPost_m (EPost_tr p1 p2), cx_cases (fun μ hs hc => ?_), RX_RB (by omega) h hf (go1 _ _ _ ?_)⟩
  · refine zI_at [0, 1] (by omega) rfl (k78_0 ⟨_, ci_step c1 hs hc, fun r μ1 hr => ?_⟩)
    obtain ⟨rfl, hj⟩ := hr
    refine k78_7 (fun _ => ⟨_, c_makerOf (by omega) hj.2.1.1 hw1 hv1, fun r μ2 hr => ?_⟩) (fun z => absurd (nI_ge0 (by omega)) z)
    obtain ⟨rfl, rfl⟩ := hr
    rw [emk]
    refine k78_27 ⟨_, c_caseFor (by omega) h hj.1 ha ea hl hmm, fun r μ3 hr => ?_⟩
    obtain ⟨rfl, ⟨z, _⟩ | ⟨_, z2, hz2, rfl⟩⟩ := hr
    · exact absurd z hbit
    rw [hzz] at hz2
    obtain rfl : zz = z2 := Option.some.inj hz2
    obtain ⟨hs3, hc3, hf3⟩ := hj
    have hpz := Tm_pos hTm
    refine k78_30 (fun _ => ?_) (fun z => ?_)
    · rw [hc3.2.2.1]
      have loop : ∀ (r j : Nat), j + r = ps1.length → ∀ μ4 : zm_u, SA μ0 μ4 → CFr μ μ4 → CE μ4 vs1 s1 b (t + j) B (Ev E t ps1) →
          zV X (d - 1) 78 48 [(0, .inr 4), (2, .inl (nI v1)), (3, .inl (nI (u + (ns.take (1 + pop6 (a % 2 ^ mm))).sum + zz - 1))), (4, .inl (nI t)), (5, .inl (nI j))] [] μ4 (zpi (fun r μ' => r = o2 ∧ CE μ' vs2 s2 b t B E ∧ CFr μ μ')) := by
        intro r
        induction r with
        | zero =>
          intro j hjr μ4 hs4 hf4 hc4
          refine k78_48 ⟨_, c_partCount (by omega) hc4.1 hw1 hv1, fun r μ5 hr => ?_⟩
          obtain ⟨rfl, rfl⟩ := hr
          obtain rfl : j = ps1.length := by omega
          rw [← z3]
          refine k78_58 (fun _ => ⟨_, zI_mono (c2 _ hs4 hc4) (by omega) (fun _ _ q => q), fun r μ6 hr => k78_86 ?_⟩) (fun z => absurd (by rw [nI_leI (by omega) (by omega)]; omega) z)
          obtain ⟨rfl, k5, k6⟩ := hr
          obtain ⟨n5, n6⟩ := CE_4 (j := 4) (x := nI t) (B2 := B) (t2 := t) (b2 := b) (Or.inr (Or.inl rfl)) k5 (fun z => absurd z (by omega)) (fun _ => ⟨rfl, by omega⟩) (fun z => absurd z (by omega)) (fun _ => rfl) (fun z => absurd rfl z) (fun _ => rfl)
          exact ⟨rfl, CE_E n5 (fun i hi => (Ev_lt hi).symm), CFr_tr hf4 (CFr_tr k6 n6)⟩
        | succ r ih =>
          intro j hjr μ4 hs4 hf4 hc4
          refine k78_48 ⟨_, c_partCount (by omega) hc4.1 hw1 hv1, fun r μ5 hr => ?_⟩
          obtain ⟨rfl, rfl⟩ := hr
          rw [← z3]
          obtain ⟨y, hy⟩ := ns_at (ns := ps1) (j := j) (by omega)
          refine k78_58 (fun z => absurd z (by rw [nI_leI (by omega) (by omega)]; omega)) (fun _ => ⟨_, c_vpart (by omega) hc4.1 hw1 hv1 z3 (by omega), fun r μ6 hr => ?_⟩)
          obtain ⟨rfl, rfl⟩ := hr
          rw [gp_at hy]
          refine k78_72 ⟨_, c_add (by omega) hc4 (by omega) (Ev_at hy), fun μ7 hr => k78_75 ?_⟩
          obtain ⟨k1, k2, _⟩ := hr
          have := ih (j + 1) (by omega) μ7 (SA_C hs4 k2) (CFr_tr hf4 k2) k1
          rw [← nI_one, nI_add]
          exact this
      exact loop ps1.length 0 (by omega) μ3 hs3 hf3 (CE_E hc3 (fun i hi => Ev_lt hi))
    · exact absurd z (nI_m1 (by omega))
  · refine rb_env (b2 := b) (t2 := t + ps1.length) (B2 := B) (E2 := Ev E t ps1) (pk := p + 1 + (ns.take (1 + pop6 (a % 2 ^ mm))).sum) (by omega) hf (Or.inr rfl) h p2 hl2 rfl (by omega) (fun i hi => Ev_lt hi) (fun μ hs hR hF hg Q hQ => ?_) r2
    have g53 : μ 22 53 = nI v1 := hg
    obtain ⟨b53, e49⟩ := gm μ hR g53
    refine k149_88 (fun _ _ _ z => absurd rfl z) (fun _ _ _ z => absurd rfl z) (fun _ _ _ _ => ⟨Q, zO_at [0, 1, 2] (by omega) rfl ?_, fun μ1 hq => k149_147 (k149_185 hq)⟩) (fun _ _ z => absurd z (by decide)) (fun _ z => absurd z (by decide)) n17
    refine k153_0 (fun _ _ => b53) (fun _ _ => pb) (fun _ _ _ => ?_) (fun _ _ z => ?_) (fun _ _ z => ?_) (fun _ z => absurd z zn_12) (fun z => absurd z zn_10)
    · rw [e49]
      have e3 : (3 : Int32) = nI 3 := rfl
      have loop : ∀ (r j : Nat), j + r = 3 → ∀ μ4 : zm_u, RFr (f + 1) μ μ4 → μ4 22 53 = nI v1 → RE μ4 vs1 s1 b (t + min j ps1.length) B (Ev E t ps1) (f + 1) →
          zV X (dr - 1 - 1) 153 65 [(0, .inr 22), (1, .inl (nI p)), (3, .inl (nI mm)), (4, .inl (nI j))] [] μ4 (zpo Q) := by
        intro r
        induction r with
        | zero =>
          intro j hjr μ4 hf4 hg4 hR4
          obtain rfl : j = 3 := by omega
          have hs4 := SA_R hs hf4
          have hmin : min 3 ps1.length = ps1.length := by omega
          rw [hmin] at hR4
          refine k153_65 (fun _ => pb) (fun _ => ?_) (fun z => absurd (by decide) z) (fun z => absurd (by decide) z) (fun z => absurd (by decide) z) (fun z => absurd (by decide) z) (fun z => absurd (by decide) z)
          rw [cp, eset μ4 hs4, bit_2 a ha mm hmm]
          refine ⟨_, m_bits (by omega) (bit_4 a ha mm hmm), fun r μ5 hr => ?_⟩
          obtain ⟨rfl, rfl⟩ := hr
          refine k153_146 ?_
          rw [nI_1p]
          obtain ⟨h1, h2, h3, h4, h5, h6, h7, h8⟩ := h
          have hzl := (List.getElem?_eq_some_iff.mp hzz).1
          have hp6 := pop6_le a
          refine ⟨_, m_part (m := 0) (L := L) (e := e) (u := u) (by omega) (by omega) (by omega) (by omega) (Tl_SA hs4 h8) (by omega), fun r μ6 hr => ?_⟩
          obtain ⟨rfl, rfl⟩ := hr
          refine k153_150 ⟨_, st_ok (pk := p + 1 + (ns.take (1 + pop6 (a % 2 ^ mm))).sum) (by omega) hf g1 hR4 rfl, fun μ7 hr => k153_153 ?_⟩
          obtain rfl := hr
          exact hQ _ hf4 hR4
        | succ r ih =>
          intro j hjr μ4 hf4 hg4 hR4
          have n3 : ¬ (3 : Int32) ≤ nI j := by rw [e3, nI_leI (by omega) (by omega)]; omega
          have e53 : (3 : Int32) * μ4 22 53 + nI j = nI (3 * v1 + j) := by rw [hg4, nI_3, nI_add]
          have c51 : ((3 : Int32) * μ4 22 53 + nI j).toNatClampNeg = 3 * v1 + j := by rw [e53, nI_c (by omega)]
          have bb : 0 ≤ ((3 : Int32) * μ4 22 53 + nI j).toInt ∧ ((3 : Int32) * μ4 22 53 + nI j).toInt < ((3900 : Nat) : Int) := by rw [e53, nI_t (by omega)]; omega
          have x51 := RV_51 hR4.1 hv1 (j := j) (by omega)
          have h51 := hR4.2.2.2.2.1
          refine k153_65 (fun z => absurd z n3) (fun z => absurd z n3) (fun _ => bb) (fun _ z => k153_121 ?_) (fun _ _ => bb) (fun _ z => ?_) (fun _ z => k153_121 ?_)
          · rw [c51, x51] at z
            have hjl : ps1.length ≤ j := by
              by_cases hjl : ps1.length ≤ j
              · exact hjl
              · obtain ⟨y, hy⟩ := ns_at (ns := ps1) (j := j) (by omega)
                have := z4 y (List.mem_of_getElem? hy)
                rw [gp_at hy] at z
                exact absurd z (nI_pos (by omega))
            have := ih (j + 1) (by omega) μ4 hf4 hg4 (by
              have e1 : min (j + 1) ps1.length = min j ps1.length := by omega
              rw [e1]; exact hR4)
            rw [← nI_one, nI_add]
            exact this
          · rw [h51, nI_t (by omega)]; omega
          · rw [c51, x51] at z
            have hjl : j < ps1.length := by
              by_cases hjl : j < ps1.length
              · exact hjl
              · rw [gp_no (by omega)] at z
                exact absurd neg_m1 z
            obtain ⟨y, hy⟩ := ns_at (ns := ps1) (j := j) hjl
            have e1 : min j ps1.length = j := by omega
            have e2 : min (j + 1) ps1.length = j + 1 := by omega
            rw [e1] at hR4 h51
            rw [c51, x51, gp_at hy, h51, nI_c (by omega), ← nI_one, nI_add, nI_add]
            refine ih (j + 1) (by omega) _ (RFr_tr hf4 (RFr_tr (RFr_row (c := 57) (j := t + j) (by omega) (by omega)) (RFr_22 (by omega)))) ?_ ?_
            · rw [zm_up_at, if_neg (by omega), zm_up_row (by decide)]; exact hg4
            · rw [e2]
              exact RE_push hR4 (Ev_at hy) rfl
      exact loop 3 0 (by omega) μ RFr_rf g53 (RE_E (by simpa using hR) (fun i hi => Ev_lt (by simpa using hi)))
    · exact Or.inr rfl
    · rw [e49, cp, eset μ hs, m_bits_step a ha mm hmm] at z
      have : a / 2 ^ mm % 2 = 1 := by omega
      rw [this] at z
      exact absurd z (by decide)
end EW

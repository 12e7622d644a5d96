section EN
variable {X : zm_T} {d dc dr L g : Nat} {μ μ' μ0 μ1 : zm_u} {vs vs' vs1 vs2 : List vE} {s s1 s2 b t B f i w p q k st pk e u n j m : Nat} {E K : Nat → Nat} {num o o1 o2 oT x : Int32} {ps ns : List Nat}
theorem ho_nn (h : o = -1 ∨ o = -2) : ¬ 0 ≤ o := by rcases h with rfl | rfl <;> decide
theorem ho_lt (h : o = -1 ∨ o = -2) : o < 0 := by rcases h with rfl | rfl <;> decide
theorem nI_ge0 {v : Nat} (h : v < 1000) : (0 : Int32) ≤ nI v := by
  rw [Int32.le_iff_toInt_le, nI_t (by omega)]
  simp
theorem kf_b (hf : f < 60) : (0 ≤ ((3 : Int32) * nI f).toInt ∧ ((3 : Int32) * nI f).toInt < ((192 : Nat) : Int)) ∧ (0 ≤ ((3 : Int32) * nI f + 1).toInt ∧ ((3 : Int32) * nI f + 1).toInt < ((192 : Nat) : Int)) ∧ (0 ≤ ((3 : Int32) * nI f + 2).toInt ∧ ((3 : Int32) * nI f + 2).toInt < ((192 : Nat) : Int)) := by
  have e2 : (2 : Int32) = nI 2 := rfl
  rw [nI_3, ← nI_one, e2, nI_add, nI_add, nI_t (by omega), nI_t (by omega), nI_t (by omega)]
  omega
theorem kf_0 (hf : f < 60) : ((3 : Int32) * nI f).toNatClampNeg = 3 * f := by rw [nI_3, nI_c (by omega)]
theorem kf_1 (hf : f < 60) : ((3 : Int32) * nI f + 1).toNatClampNeg = 3 * f + 1 := by rw [nI_3, ← nI_one, nI_add, nI_c (by omega)]
theorem kf_2 (hf : f < 60) : ((3 : Int32) * nI f + 2).toNatClampNeg = 3 * f + 2 := by
  have e2 : (2 : Int32) = nI 2 := rfl
  rw [nI_3, e2, nI_add, nI_c (by omega)]
theorem fin_new {c a r : Int32} (hd : 1 ≤ d) (hf : f < 60) (hR : RE μ vs s b t B E (f + 1)) (hF : FD μ f p st B t) (ha : a = gp ps 0) (hc : c = gp ps 1) (he : r = gp ps 2) : zO X d 146 [.inr 22, .inl (nI vs.length)] (rv_put μ vs.length w num a c r) (fun μ' => RO μ' (nI vs.length) (vs ++ [(w, num, ps)]) s b t B E f ∧ RFr f μ μ') := by
  refine zO_mono (m_give (f := f) (B := B) (t := t) hd (by omega) ?_ ?_ ?_) (Nat.le_refl _) (fun μ' h => ?_)
  · rw [rv_22]; simp [upd]; exact hR.2.2.2.2.2.2.1
  · rw [rv_row (by decide) (by decide) (by decide) (by decide)]; exact hF.2.2.1
  · rw [rv_row (by decide) (by decide) (by decide) (by decide)]; exact hF.2.2.2
  · subst h
    exact ro_new hR ha hc he
theorem fin_old {v : Nat} (hd : 1 ≤ d) (hf : f < 60) (hR : RE μ vs s b t B E (f + 1)) (hF : FD μ f p st B t) (hv : v < vs.length) : zO X d 146 [.inr 22, .inl (nI v)] μ (fun μ' => RO μ' (nI v) vs s b t B E f ∧ RFr f μ μ') := by
  refine zO_mono (m_give (f := f) (B := B) (t := t) hd (by omega) hR.2.2.2.2.2.2.1 hF.2.2.1 hF.2.2.2) (Nat.le_refl _) (fun μ' h => ?_)
  subst h
  exact ro_old hR hv
theorem su_num (hk : k = 3 ∨ k = 4) : ∀ w, wok w → (su_ok k st w ↔ wn_ok 1 w) := by
  intro w _
  rcases hk with rfl | rfl <;> exact Iff.rfl
theorem rb_num (hdr : 8 ≤ dr) (hf : f < 60) (hl : vs.length < 600) (h : TT L μ0 e p u n k ns) (hk : k = 3 ∨ k = 4) (hn : ns.length = 2) {v1 v2 : Nat} {a1 a2 : Int32} {p1 p2 : List Nat} (hv1 : vs[v1]? = some (1000, a1, p1)) (hv2 : vs[v2]? = some (1000, a2, p2)) (k1 : K 0 = v1) (k2 : K 1 = v2) :
    RB X dr μ0 p k 2 K vs s b t B E f (nI vs.length) (vs ++ [if k = 3 then (1000, a1 + a2, []) else (if a1 < a2 then 1001 else 1002, 0, [])]) s := by
  have hl1 := (List.getElem?_eq_some_iff.mp hv1).1
  have hl2 := (List.getElem?_eq_some_iff.mp hv2).1
  refine rb_comb hdr hf h (by omega) hn.symm (fun μ hs hR hF hK P hP => ?_)
  have q0 : μ 56 (3 * f) = nI v1 := by rw [← k1]; exact hK 0 (by omega)
  have q1 : μ 56 (3 * f + 1) = nI v2 := by rw [← k2]; exact hK 1 (by omega)
  have x1 := (hR.1.2 v1 _ _ _ hv1).2.1
  have x2 := (hR.1.2 v2 _ _ _ hv2).2.1
  obtain ⟨b0, b1, b2⟩ := kf_b hf
  have d1 : 0 ≤ (nI v1).toInt ∧ (nI v1).toInt < ((1300 : Nat) : Int) := by rw [nI_t (by omega)]; omega
  have d2 : 0 ≤ (nI v2).toInt ∧ (nI v2).toInt < ((1300 : Nat) : Int) := by rw [nI_t (by omega)]; omega
  have cc1 : (nI v1).toNatClampNeg = v1 := nI_c (by omega)
  have cc2 : (nI v2).toNatClampNeg = v2 := nI_c (by omega)
  rcases hk with rfl | rfl
  · refine k154_0 b0 b1 b2 ?_ ?_ ?_ ?_ ?_ ?_ ?_ ?_ ?_ ?_ ?_ ?_ ?_ ?_ ?_ ?_ ?_ ?_ ?_ ?_ ?_
    all_goals first
      | (intros; contradiction)
      | (intro _; rw [kf_0 hf, q0]; exact d1)
      | (intro _; rw [kf_1 hf, q1]; exact d2)
      | skip
    intro _
    rw [kf_0 hf, kf_1 hf, q0, q1, cc1, cc2, x1, x2]
    rw [if_pos rfl] at hP
    refine ⟨_, m_newValue (w := 1000) (by omega) hR.1 (by omega) rfl, fun r μ1 hr => ?_⟩
    obtain ⟨rfl, rfl⟩ := hr
    exact k154_125 ⟨_, fin_new (w := 1000) (ps := []) (by omega) hf hR hF rfl rfl rfl, fun μ2 hg => k154_128 (k154_297 (hP _ hg.2 hg.1))⟩
  · refine k154_0 b0 b1 b2 ?_ ?_ ?_ ?_ ?_ ?_ ?_ ?_ ?_ ?_ ?_ ?_ ?_ ?_ ?_ ?_ ?_ ?_ ?_ ?_ ?_
    all_goals first
      | (intros; contradiction)
      | (intro _ _; rw [kf_0 hf, q0]; exact d1)
      | (intro _ _; rw [kf_1 hf, q1]; exact d2)
      | skip
    · intro _ _ z
      rw [kf_0 hf, kf_1 hf, q0, q1, cc1, cc2, x1, x2] at z
      have z2 : ¬ a1 < a2 := by rw [Int32.lt_iff_toInt_lt]; rw [Int32.le_iff_toInt_le] at z; omega
      rw [if_neg (by decide), if_neg z2] at hP
      refine k154_154 ⟨_, m_truth (by omega) hR.1 (by omega), fun r μ1 hr => ?_⟩
      obtain ⟨rfl, rfl⟩ := hr
      exact k154_157 ⟨_, fin_new (w := 1002) (ps := []) (by omega) hf hR hF rfl rfl rfl, fun μ2 hg => k154_160 (k154_297 (hP _ hg.2 hg.1))⟩
    · intro _ _ z
      rw [kf_0 hf, kf_1 hf, q0, q1, cc1, cc2, x1, x2] at z
      have z2 : a1 < a2 := by rw [Int32.lt_iff_toInt_lt]; rw [Int32.le_iff_toInt_le] at z; omega
      rw [if_neg (by decide), if_pos z2] at hP
      refine k154_154 ⟨_, m_truth (by omega) hR.1 (by omega), fun r μ1 hr => ?_⟩
      obtain ⟨rfl, rfl⟩ := hr
      exact k154_157 ⟨_, fin_new (w := 1001) (ps := []) (by omega) hf hR hF rfl rfl rfl, fun μ2 hg => k154_160 (k154_297 (hP _ hg.2 hg.1))⟩
theorem ns_at (h : j < ns.length) : ∃ m, ns[j]? = some m := ⟨ns[j], List.getElem?_eq_getElem h⟩
theorem JC_num (hJ : Jv X L μ0 dc dr g) (hg : 7 * (4 - b) + e ≤ g) (hd : dc + 3 ≤ d ∧ 8 ≤ d) (hdr : 8 ≤ dr) (h : TT L μ0 e p u n k ns) (hk : k = 3 ∨ k = 4) (hI : EInv (e + 1) b vs s t B f E) (hlt : vs.length < s) : JC X μ0 d dr p (u + n - 1) k vs s b t B f E := by
  have hn : ns.length = 2 := by
    rw [h.2.2.2.2.2.1]
    rcases hk with rfl | rfl <;> rw [ar_ne (by omega)] <;> rfl
  have hf : f < 60 := by have := hI.2.2.2.2.2.1; omega
  have hq : u + n - 1 < 560 := by have := h.1; omega
  obtain ⟨m0, hm0⟩ := ns_at (ns := ns) (j := 0) (by omega)
  obtain ⟨m1, hm1⟩ := ns_at (ns := ns) (j := 1) (by omega)
  obtain ⟨o1, vs1, s1, p1, i1, c1, r1⟩ := jpart (d := d - 1) (K := fun _ => 0) hJ hg (by omega) hdr (by omega) (by omega) h hI hm0 (rst_gen hdr hf hI.2.1 h (by omega) (by omega) (by omega)) (q := 1) (by omega) (su_num hk)
  rcases r1 with ⟨ho, rb⟩ | ⟨v1, w1, a1, ps1, rfl, hv1, hw1, hq1, go1⟩
  · refine ⟨o1, vs1, s1, EPost_m p1, cx_nums hk (fun μ hs hc => ?_), RX_RB (by omega) h hf rb⟩
    refine zI_at [0, 1] (by omega) rfl (k73_0 ⟨_, ci_step c1 hs hc, fun r μ1 hr => ?_⟩)
    obtain ⟨rfl, hj⟩ := hr
    exact k73_7 (fun z => absurd z (ho_nn ho)) (fun _ => ⟨rfl, hj.2⟩)
  · obtain ⟨o2, vs2, s2, p2, i2, c2, r2⟩ := jpart (d := d - 1) hJ hg (by omega) hdr (by omega) (by omega) h i1 hm1 (rst_gen hdr hf i1.2.1 h (by omega) (by omega) (by omega)) (q := 1) (by omega) (su_num hk)
    have l1 := EP_lt p1 hlt
    have l2 := EP_lt p2 l1.1
    have g1 := i1.2.1
    have g2 := i2.2.1
    have vl1 := (List.getElem?_eq_some_iff.mp hv1).1
    rcases r2 with ⟨ho, rb⟩ | ⟨v2, w2, a2, ps2, rfl, hv2, hw2, hq2, go2⟩
    · refine ⟨o2, vs2, s2, EPost_m (EPost_tr p1 p2), cx_nums hk (fun μ hs hc => ?_), RX_RB (by omega) h hf (go1 _ _ _ rb)⟩
      refine zI_at [0, 1] (by omega) rfl (k73_0 ⟨_, ci_step c1 hs hc, fun r μ1 hr => ?_⟩)
      obtain ⟨rfl, hj⟩ := hr
      refine k73_7 (fun _ => ⟨_, ci_step c2 hj.1 hj.2.1, fun r μ2 hr => ?_⟩) (fun z => absurd (nI_ge0 (by omega)) z)
      obtain ⟨rfl, hj2⟩ := hr
      exact k73_21 (fun z => absurd z (ho_nn ho)) (fun _ => ⟨rfl, hj2.2.1, CFr_tr hj.2.2 hj2.2.2⟩)
    · have vl2 := (List.getElem?_eq_some_iff.mp hv2).1
      obtain rfl : w1 = 1000 := hq1
      obtain rfl : w2 = 1000 := hq2
      have hv1' := EP_get p2 hv1
      have rb := rb_num (X := X) (b := b) (t := t) (B := B) (E := E) (s := s2) (K := fun i => if i = 1 then v2 else if i = 0 then v1 else 0) hdr hf (by omega) h hk hn hv1' hv2 rfl rfl
      refine ⟨nI vs2.length, _, s2, ?_, cx_nums hk (fun μ hs hc => ?_), RX_RB (by omega) h hf (go1 _ _ _ (go2 _ _ _ rb))⟩
      · split
        · exact EPost_put (EPost_tr p1 p2) hlt (Or.inl rfl) (fun z => absurd rfl z) rfl (fun j hj => by simp at hj)
        · exact EPost_put (EPost_tr p1 p2) hlt (by split <;> unfold wok <;> omega) (fun _ => rfl) (by split <;> rfl) (fun j hj => by simp at hj)
      · refine zI_at [0, 1] (by omega) rfl (k73_0 ⟨_, ci_step c1 hs hc, fun r μ1 hr => ?_⟩)
        obtain ⟨rfl, hj⟩ := hr
        refine k73_7 (fun _ => ⟨_, ci_step c2 hj.1 hj.2.1, fun r μ2 hr => ?_⟩) (fun z => absurd (nI_ge0 (by omega)) z)
        obtain ⟨rfl, hj2⟩ := hr
        refine k73_21 (fun _ => ⟨_, c_numberOf (by omega) hj2.2.1.1 (Or.inl rfl) hv1', fun r μ3 hr => ?_⟩) (fun z => absurd (nI_ge0 (by omega)) z)
        obtain ⟨rfl, hr⟩ := hr
        rw [if_pos rfl] at hr
        rw [hr]
        refine k73_36 ⟨_, c_numberOf (by omega) hj2.2.1.1 (Or.inl rfl) hv2, fun r μ4 hr => ?_⟩
        obtain ⟨rfl, hr⟩ := hr
        rw [if_pos rfl] at hr
        rw [hr]
        refine k73_46 ⟨_, c_opOf (by omega) hq, fun r μ5 hr => ?_⟩
        obtain ⟨rfl, rfl⟩ := hr
        rw [hj2.1.1, h.2.2.1]
        rcases hk with rfl | rfl
        · refine k73_56 (fun z => absurd rfl z) (fun z => absurd rfl z) (fun _ => ⟨_, c_ofNumber (by omega) hj2.2.1 (by omega), fun r μ6 hr => k73_72 (k73_94 ?_)⟩)
          obtain ⟨rfl, h1, h2⟩ := hr
          rw [if_pos rfl]
          exact ⟨rfl, h1, CFr_tr hj.2.2 (CFr_tr hj2.2.2 h2)⟩
        · rw [if_neg (by decide)]
          refine k73_56 (fun _ z => ?_) (fun _ z => ?_) (fun z => absurd z (by decide))
          · have z2 : ¬ a1 < a2 := by rw [Int32.lt_iff_toInt_lt]; rw [Int32.le_iff_toInt_le] at z; omega
            refine k73_91 ⟨_, c_ofTruth (by omega) hj2.2.1 (by omega), fun r μ6 hr => k73_94 ?_⟩
            obtain ⟨rfl, h1, h2⟩ := hr
            rw [if_neg z2]
            exact ⟨rfl, h1, CFr_tr hj.2.2 (CFr_tr hj2.2.2 h2)⟩
          · have z2 : a1 < a2 := by rw [Int32.lt_iff_toInt_lt]; rw [Int32.le_iff_toInt_le] at z; omega
            refine k73_91 ⟨_, c_ofTruth (by omega) hj2.2.1 (by omega), fun r μ6 hr => k73_94 ?_⟩
            obtain ⟨rfl, h1, h2⟩ := hr
            rw [if_pos z2]
            exact ⟨rfl, h1, CFr_tr hj.2.2 (CFr_tr hj2.2.2 h2)⟩
end EN

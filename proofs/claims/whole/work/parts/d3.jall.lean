section JC3
variable {X : zm_T} {d d' dc dr L n i j k a b e h hh hf p u q res m m0 c v w ip ic r s wc wr z : Nat} {μ μ' μ0 μ1 μs : zm_u} {T T' T1 T0 Tb Tc0 Tc Tc1 Tc2 : tT} {D D' : Nat → Option Nat} {S S' : Nat → Tr} {V V' W W' : List Nat} {N N' : Nat → Prop} {ν ν' : Nat → Tr} {Q Q' : List (Nat × Nat)} {x y part : Int32} {ok op : Bool} {Mt : Tr} {ns : List Nat} {P : Int32 → zm_u → Prop} {o1 : Option Tr}
theorem tl_none (hD : TD Tc D S) : D (tl D ic) = none := by
  unfold tl
  rcases h : D ic with _ | t
  · exact h
  · show D t = none
    rcases h2 : D t with _ | t2
    · rfl
    · obtain ⟨a, b, h3⟩ := ((hD t).2 t2 h2).1
      obtain ⟨k, a', b', h4, h5⟩ := ((hD ic).2 t h).2.1
      rw [h3] at h4
      simp only [Option.some.injEq, Prod.mk.injEq] at h4
      omega

theorem ri_cases (hdr : 20 ≤ dr) (hT : TT L μ0 e p u n 17 ns) (h0 : ns[0]? = some m0) (hb : b < 38) (hL : L ≤ Tb.length) (hwr : wr < 900) (hM : ∀ T, Rx Tb T → MO T N ν Q)
    (hRF : ∀ T, Rx Tb T → T.length ≤ Tb.length → RFd X dr L μ0 N ν m0 T Q W (b + 1) (p + 1 + (ns.take 0).sum) o1) (hno : o1.bind (pj 3 false) = none → ok = false)
    (hyes : ∀ Mt, o1.bind (pj 3 false) = some Mt → ∀ (T : tT) (μ : zm_u) (P : Int32 → zm_u → Prop), Rz L μ0 μ → RQd μ T Q W (b + 1) → Rn (11 * m0) Tb T → Fz μ b p (nI wr) 2 W.length Q.length → Hd N ν b Mt T μ → μ 40 b = nI 11 → KI X dr L μ0 n Tb Q W b ok P μ → zV X (dr - 3) 134 2 [(0, .inr 22), (1, .inl (nI b)), (2, .inl (nI p)), (3, .inl 0)] [] μ (zpo (HC X dr P))) : RIs X dr L μ0 n Tb Q W b p wr ok := by
  intro μ P hz hq hP
  have hK : KI X dr L μ0 n Tb Q W b ok P (bgn μ p (nI wr) b) := ⟨fun z μ' h1 h2 h3 => hP μ' (FK_tr bgn_FK h1) h2 (Or.inl ⟨z, h3⟩), fun z μ' T' h1 h2 h3 h4 => hP μ' (FK_tr bgn_FK h1) h2 (Or.inr ⟨z, T', h3, h4⟩)⟩
  have hz1 := bgn_Rz (p := p) (wt := nI wr) (b := b) hz
  have hq1 := bgn_RQ (p := p) (wt := nI wr) hq
  have hF1 := bgn_Fz (p := p) (wt := nI wr) hq
  generalize bgn μ p (nI wr) b = μ1 at hK hz1 hq1 hF1 ⊢
  have cb : (nI b).toNatClampNeg = b := nI_c (by omega)
  have bf : 0 ≤ (nI b).toInt ∧ (nI b).toInt < ((40 : Nat) : Int) := by rw [nI_t (by omega)]; omega
  have hp5 := hT.1
  have op17 : ∀ {μ : zm_u}, Rz L μ0 μ → μ 27 p = nI 17 := fun hz => by rw [(Rz_SA hz).2.2.2.1]; exact hT.2.1
  have step : ∀ {s : Nat} {μ : zm_u} {T : tT}, Rz L μ0 μ → RQ μ T Q W (b + 1) → Fz μ b p (nI wr) s W.length Q.length → s < 90 → (Rz L μ0 (zm_up μ 38 b (nI (s + 1))) → RQ (zm_up μ 38 b (nI (s + 1))) T Q W (b + 1) → Fz (zm_up μ 38 b (nI (s + 1))) b p (nI wr) (s + 1) W.length Q.length → zO X (dr - 1) 139 [.inr 22, .inl (nI b), .inl (nI p), .inl (nI s)] (zm_up μ 38 b (nI (s + 1))) (HC X dr P)) → HC X dr P μ := by
    intro s μ T hz hq hF hs H
    obtain ⟨f1, f2, f3, f4, f5⟩ := hF
    refine m_it hq.2.2.2.1 (by omega) hq.2.2.2.2 (go_17 (s := s) (by omega) ⟨hq.2.2.2.1, by omega, f1, by omega, f3, by omega, op17 hz⟩ (H (Rz_row hz (by omega)) (RQ_row hq (by omega)) ⟨?_, ?_, ?_, ?_, ?_⟩))
    · rw [zm_up_row (by decide)]; exact f1
    · rw [zm_up_row (by decide)]; exact f2
    · rw [zm_up_at, if_pos ⟨rfl, rfl⟩]
    · rw [zm_up_row (by decide)]; exact f4
    · rw [zm_up_row (by decide)]; exact f5
  refine step hz1 hq1 hF1 (by omega) (fun hz2 hq2 hF2 => ?_)
  have hfk2 : FK b μ1 (zm_up μ1 38 b (nI (0 + 1))) := FK_row (Nat.le_refl _)
  generalize zm_up μ1 38 b (nI (0 + 1)) = μ2 at hz2 hq2 hF2 hfk2 ⊢
  have nn2 : 0 ≤ μ2 37 (nI b).toNatClampNeg := by rw [cb, hF2.2.1]; exact nI_ge0 (by omega)
  have hs := Rz_SA hz2
  have hil := (List.getElem?_eq_some_iff.mp h0).1
  have hak : ns.length ≤ 9 := by rw [hT.2.2.2.2.2.1]; exact ar_le _ _
  refine zO_at [0, 1, 2, 3] (by omega) rfl (k139_0 bf (fun _ z => absurd rfl z) (fun _ z => absurd rfl z) (fun _ _ => ⟨HC X dr P, zO_at [0, 1, 2] (by omega) rfl (k128_0 ⟨_, m_part (k := 0) (m := 0) (L := L) (e := e) (u := u) (by omega) hT.1.2.2.2 (by have := hT.2.2.2.2.2.2.1; omega) (by omega) (Tl_SA hs hT.2.2.2.2.2.2.2) (by omega), fun r μ3 hr => ?_⟩), fun _ z => k139_27 (k139_70 z)⟩) (fun z => absurd nn2 z) (fun z => absurd nn2 z))
  obtain ⟨rfl, rfl⟩ := hr
  refine k128_7 ⟨_, m_begin (by omega) hq2.2.2.2.1 (by omega) rfl, fun μ4 hr => k128_11 ?_⟩
  subst hr
  refine hRF Tb (Rx_rf (RQ_len hq).2) (Nat.le_refl _) μ3 P hz2 hq2 (fun μ5 h1 h2 h3 => ?_)
  rcases h3 with ⟨h3, h4⟩ | ⟨t, T1, h3, h4, h5, h6⟩
  · exact hK.1 (hno (by rw [h3]; rfl)) μ5 (FK_tr hfk2 (FK_le h1 (by omega))) h2 h4
  · rw [h3, Option.bind_some] at hno hyes
    have hF5 := FK_Fz h1 (by omega) hF2
    have hfk5 : FK b μ1 μ5 := FK_tr hfk2 (FK_le h1 (by omega))
    refine step h2 h5 hF5 (by omega) (fun hz6 hq6 hF6 => ?_)
    have hfk6 : FK b μ1 (zm_up μ5 38 b (nI (0 + 1 + 1))) := FK_tr hfk5 (FK_row (Nat.le_refl _))
    have h66 := Fo_38 (b := b) (v := nI (0 + 1 + 1)) h6
    generalize zm_up μ5 38 b (nI (0 + 1 + 1)) = μ6 at hz6 hq6 hF6 hfk6 h66 ⊢
    obtain ⟨r, e28, lr, er⟩ := h66
    have nn6 : 0 ≤ μ6 37 (nI b).toNatClampNeg := by rw [cb, hF6.2.1]; exact nI_ge0 (by omega)
    refine zO_at [0, 1, 2, 3] (by omega) rfl (k139_0 bf (fun _ _ z => absurd rfl z) (fun _ _ _ => ?_) (fun _ z => absurd z zn_10) (fun z => absurd nn6 z) (fun z => absurd nn6 z))
    rw [e28]
    refine ⟨_, m_formExp (by omega) hq6.1 hq6.2.1 (hM T1 h4.1) lr hq6.2.2.2.2, fun r' μ7 hr => k139_48 bf bf ?_⟩
    rw [cb]
    rcases hr with ⟨hf7, e', rfl, le', ee⟩ | ⟨hne, rfl, μ8, hf8, rfl⟩
    · rw [er] at ee
      have hz7 := Tf_Rz (Tf_SF hf7) hz6
      have hq7 := Tf_RQ (L := L) (Tf_SF hf7) (RP_SF hq6.1 hf7) hq6
      have hF7 := Tf_Fz (L := L) (Tf_SF hf7) hF6
      have hfk7 : FK b μ1 μ7 := FK_tr hfk6 (Tf_FK (Tf_SF (L := L) hf7))
      have hfk8 : FK b μ1 (zm_up (zm_up μ7 39 b (nI e')) 40 b 11) := FK_tr hfk7 (FK_tr (FK_row (Nat.le_refl _)) (FK_row (Nat.le_refl _)))
      have hq8 : RQ (zm_up (zm_up μ7 39 b (nI e')) 40 b 11) T1 Q W (b + 1) := RQ_row (RQ_row hq7 (by omega)) (by omega)
      refine k139_57 (fun z => absurd hq8.2.2.2.2 z) (fun _ => ⟨HC X dr P, zO_at [0, 1, 2] (by omega) rfl (k134_0 (hyes (tJ T1 ν e') (by rw [ee, pj_E]) T1 _ P (Rz_row (Rz_row hz7 (by omega)) (by omega)) (RQd_of hq8 ⟨[], by simp⟩ ⟨[], by simp⟩) h4 ?_ ⟨e', ?_, le', rfl⟩ ?_ (KI_mono hK hfk8))), fun _ z => k139_70 z⟩)
      · obtain ⟨a1, a2, a3, a4, a5⟩ := hF7
        exact ⟨by rw [zm_up_row (by decide), zm_up_row (by decide)]; exact a1, by rw [zm_up_row (by decide), zm_up_row (by decide)]; exact a2, by rw [zm_up_row (by decide), zm_up_row (by decide)]; exact a3, by rw [zm_up_row (by decide), zm_up_row (by decide)]; exact a4, by rw [zm_up_row (by decide), zm_up_row (by decide)]; exact a5⟩
      · rw [zm_up_row (by decide), zm_up_at, if_pos ⟨rfl, rfl⟩]
      · rw [zm_up_at, if_pos ⟨rfl, rfl⟩]
        rfl
    · rw [er] at hne
      have e29 : (zm_up (zm_up (zm_up μ8 22 29 1) 39 b 0) 40 b 11) 22 29 = 1 := by rw [zm_up_row (by decide), zm_up_row (by decide), zm_up_at, if_pos ⟨rfl, rfl⟩]
      refine k139_57 (fun _ => k139_70 (hK.1 (hno (pj_no hne)) _ (FK_tr hfk6 (FK_tr (Tf_FK (Tf_SF (L := L) hf8)) (FK_tr FK_22 (FK_tr (FK_row (Nat.le_refl _)) (FK_row (Nat.le_refl _)))))) (Rz_row (Rz_row (Rz_22 (Tf_Rz (Tf_SF hf8) hz6) (by omega)) (by omega)) (by omega)) e29)) (fun z => absurd (e29.symm.trans z) zn_10)
theorem ji_cases (hd : dc + 4 ≤ d) (hdc : 10 ≤ dc) (hdr : 20 ≤ dr) (hLT : LT L res T0) (hJ : Jc X L res T0 μ0 dc dr e) (hT : TT L μ0 e p u n 17 ns) (hC : CPc L T0 Tc D S V h) (hR : Rmc (e + 1) n Tc V h) (hwc : wc < Tc.length) : JIa X L res T0 μ0 d dr (e + 1) p u n Tc D S V wc := by
  obtain ⟨a, ha, ea, hnl⟩ := TT_17 hT
  have hl := hR.1
  have hns : n = 1 + ns.sum := hT.2.2.2.2.2.2.1
  obtain ⟨m0, h0⟩ := ns_at (ns := ns) (j := 0) (by omega)
  have hsg0 : sg7 ns a 0 = m0 := by
    unfold sg7
    rw [(bit_6 a ha).2]
    match ns, h0 with
    | y :: r, h0 =>
      simp at h0
      simp [h0]
  have hsle := sg_le (ns := ns) (a := a) (j := 0)
  obtain ⟨he, ⟨Tc1, x0, P1, F1, A1, B1⟩, _⟩ := j_part (j := 0) (m := m0) hJ hT h0 hC hR (by omega)
  have hC1 := CPc_mono hC P1.1
  have p1 := P1.2
  obtain ⟨g1, g2⟩ := cArg_m (kk := 3) (sd := false) hC1.1.1 hC1.1.2.2 (FOc_vc F1) (Or.inl ⟨rfl, rfl⟩)
  have e17 : ¬ nI 17 = 5 := by decide
  have cls : ∀ (v : Int32) (Tc' : tT), (v = 0 ∨ v = 1) → (∀ μs μ, CQ μ0 res Tc1 D V μs μ → zV X (d - 2) 48 10 [(0, .inr 3), (1, .inl (nI (u + n - 1))), (2, .inl (nI wc))] [.inl (oc (cArg Tc1 D 3 false x0))] μ (zpi (fun r' μ' => r' = v ∧ CC μ' Tc' D V res ∧ CK μs μ'))) → CM X d μ0 res 46 [.inr 3, .inl (nI (u + n - 1)), .inl (nI wc)] Tc D V v Tc' := by
    intro v Tc' hv H μ hs hc
    refine zI_at [0, 1, 2] (by omega) rfl (k46_0 ⟨_, CM_use (cm_op (d := d - 1) (by omega) hT) (Nat.le_refl _) (CQ_0 hs hc), fun r μ1 hr => ?_⟩)
    obtain ⟨rfl, hq⟩ := hr
    refine k46_8 (fun z => absurd z e17) (fun _ _ => ⟨fun r' μ' => r' = v ∧ CC μ' Tc' D V res ∧ CK μ μ', zI_at [0, 1, 2] (by omega) rfl (k48_0 ⟨_, CM_use (cm_findPart (d := d - 2) (by omega) (by omega) hT h0 rfl A1) (Nat.le_refl _) hq, fun r1 μ2 hr => ?_⟩), fun r1 μ2 hr => k46_99 (by rw [hr.1]; exact hv) hr⟩) (fun _ z => absurd rfl z)
    obtain ⟨rfl, hq2⟩ := hr
    refine k48_7 ⟨_, CM_use (cm_inside (d := d - 2) (by omega) hC1.1.2.2 (FOc_vc F1)) (Nat.le_refl _) hq2, fun r μ3 hr => ?_⟩
    obtain ⟨rfl, hq3⟩ := hr
    exact H μ μ3 hq3
  have rfd : ∀ {Tr' : tT} {N : Nat → Prop} {ν : Nat → Tr} {Q : List (Nat × Nat)} {W : List Nat} {b : Nat}, CPr L T0 Tc S V Tr' N ν Q W → Rmr (e + 1) n Tr' Q b → ∀ T, Rx Tr' T → T.length ≤ Tr'.length → RFd X dr L μ0 N ν m0 T Q W (b + 1) (p + 1 + (ns.take 0).sum) (x0.map (cT Tc1 S)) := fun hP hRr T hx hlT => B1 T _ _ _ _ _ (CPr_mono hC hP (Ex_rf hC.1.1 hC.1.2.1) hx) (Rmr_part (c := 0) hRr ⟨hx, by omega⟩ (by omega))
  rcases hc : cArg Tc1 D 3 false x0 with _ | ic
  · rw [hc] at g2
    refine ⟨Tc1, false, En_le P1 (by omega), cls 0 Tc1 (Or.inl rfl) (fun μs μ hq => by rw [hc]; exact k48_10 (fun z => absurd rfl z) (fun _ => ⟨rfl, hq.2⟩)), fun Tr' N ν Q W b wr hP hRr lw ew => ?_⟩
    have hb := hRr.2.2
    have := hRr.1
    have lw1 := lw.1
    exact ri_cases (by omega) hT h0 (by omega) hP.2.1.1 (by omega) (CPr_MO hC hP) (rfd hP hRr) (fun _ => rfl) (fun Mt hMt => by rw [← g2] at hMt; simp at hMt)
  · rw [hc] at g1 g2
    have hic := g1 ic rfl
    obtain ⟨t1, t2⟩ := tl_cT hC1.1.2.2 hic
    have hip := tl_lt hC1.1.2.2 hic
    have hh0 := hR.2.2
    have hMh : th (cT Tc1 S (tl D ic)) + 1 ≤ h + 2 * (e - 1) := by
      rw [t1]
      rcases hx : x0.map (cT Tc1 S) with _ | t
      · rw [hx] at g2; simp at g2
      rw [hx, Option.bind_some] at g2
      have := FOc_th F1 hx
      have := th_pj3 g2.symm
      omega
    have hPip : Pip Tc1 D S (tl D ic) := ⟨hip, tl_none hC1.1.2.2, fun k4 => t2 (k1 Tc1 (tl D ic)) (k2 Tc1 (tl D ic)) (by have := at_kd hip; rw [k4] at this; exact this)⟩
    obtain ⟨Tc', ok, q1, q2, q3, q4⟩ := jl_all (X := X) (dr := dr) (d := d - 2) (hf := h + 2 * (e - 1)) (ip := tl D ic) (Mt := cT Tc1 S (tl D ic)) (by omega) hdc hdr hLT hJ hT ha ea hnl he hC hR hwc rfl 6 0 (by omega) Tc1 (CPc_h hC1 (by omega)) P1.1 hic rfl hPip rfl hMh (by rw [hsg0]; show Tc1.length + 11 * (ns.sum - m0) + 11 ≤ _; omega)
    have nic : ¬ nI ic = -1 := nI_m1 (by omega)
    refine ⟨Tc', ok, ⟨Ex_tr P1.1 q1, q2⟩, cls _ Tc' (by cases ok <;> simp) (fun μs μ hq => by rw [hc]; exact k48_10 (fun _ => q3 μs μ hq) (fun z => absurd z nic)), fun Tr' N ν Q W b wr hP hRr lw ew => ?_⟩
    have hb := hRr.2.2
    have := hRr.1
    have lw1 := lw.1
    refine ri_cases (by omega) hT h0 (by omega) hP.2.1.1 (by omega) (CPr_MO hC hP) (rfd hP hRr) (fun z => by rw [← g2] at z; simp at z) (fun Mt hMt T μ P hz hq hn hF hH h40 hK => ?_)
    rw [← g2] at hMt
    simp only [Option.map_some, Option.some.injEq] at hMt
    rw [← t1] at hMt
    subst hMt
    have hnl' := hn.2
    exact q4 Tr' N ν Q W b wr hP hRr lw ew T 2 μ P ⟨hz, hq, hn.1, by rw [hsg0]; show T.length + 11 * (ns.sum - m0) + 11 ≤ _; omega, hF, hH, h40⟩ (by omega) (by omega) hK

theorem Jc_all (hdr : 20 ≤ dr) (hLT : LT L res T0) (h11 : μ0 22 11 = nI res) : ∀ e, e ≤ 90 → Jc X L res T0 μ0 (50 + 8 * e) dr e := by
  intro e
  induction e with
  | zero => intro _ p u n hT; exact absurd hT (by simp [Tm])
  | succ e ih =>
    intro he p u n hTm Tc D S V h hC hR
    have hJ := ih (by omega)
    obtain ⟨k, ns, hk, hT⟩ := TT_of hTm (by omega)
    have hV := hR.2.1
    have ofB : k ≠ 5 ∧ k ≠ 17 → JBd X L res T0 μ0 (55 + 8 * e) dr (e + 1) p u n Tc D S V h → _ := fun hk5 hB => J_of_B (d := 50 + 8 * (e + 1)) hB (by omega) (by omega) hT hk5 hk hC hR
    rcases (show k = 0 ∨ k = 1 ∨ k = 2 ∨ k = 3 ∨ k = 4 ∨ k = 5 ∨ k = 6 ∨ k = 7 ∨ k = 8 ∨ k = 9 ∨ k = 10 ∨ k = 11 ∨ k = 12 ∨ k = 13 ∨ k = 14 ∨ k = 15 ∨ k = 16 ∨ k = 17 by omega) with rfl | rfl | rfl | rfl | rfl | rfl | rfl | rfl | rfl | rfl | rfl | rfl | rfl | rfl | rfl | rfl | rfl | rfl
    · exact ofB (by omega) (jb_const (by omega) (by omega) hLT hT (Or.inl rfl) hC)
    · exact ofB (by omega) (jb_const (by omega) (by omega) hLT hT (Or.inr rfl) hC)
    · exact ofB (by omega) (jb_var (by omega) (by omega) (by omega) hT hC)
    · exact ofB (by omega) (jb_num (by omega) (by omega) (by omega) hLT hJ hT (Or.inl rfl) hC hR)
    · exact ofB (by omega) (jb_num (by omega) (by omega) (by omega) hLT hJ hT (Or.inr rfl) hC hR)
    · exact ⟨jf_none (by omega) (by omega) hT (Or.inl rfl) hC, fun wc hwc => ji_if (by omega) (by omega) (by omega) hLT hJ hT hC hR hwc⟩
    · exact ofB (by omega) (jb_both (by omega) (by omega) (by omega) hJ hT hC hR)
    · exact ofB (by omega) (jb_proj (by omega) (by omega) (by omega) hJ hT (Or.inl rfl) hC hR)
    · exact ofB (by omega) (jb_proj (by omega) (by omega) (by omega) hJ hT (Or.inr rfl) hC hR)
    · exact ofB (by omega) (jb_call (by omega) (by omega) (by omega) hLT h11 hJ hT hC hR)
    · exact ofB (by omega) (jb_as (by omega) (by omega) (by omega) hLT hJ hT hC hR)
    · exact ofB (by omega) (jb_lit (by omega) (by omega) (by omega) hLT hJ hT (Or.inl rfl) hC hR)
    · exact ofB (by omega) (jb_lit (by omega) (by omega) (by omega) hLT hJ hT (Or.inr rfl) hC hR)
    · exact ofB (by omega) (jb_sum (by omega) (by omega) (by omega) hLT hJ hT hC hR)
    · exact ofB (by omega) (jb_when (by omega) (by omega) (by omega) hLT hJ hT hC hR)
    · exact ofB (by omega) (jb_duo (by omega) (by omega) (by omega) hJ hT hC hR)
    · exact ofB (by omega) (jb_left (by omega) (by omega) (by omega) hJ hT hC hR)
    · exact ⟨jf_none (by omega) (by omega) hT (Or.inr rfl) hC, fun wc hwc => ji_cases (by omega) (by omega) (by omega) hLT hJ hT hC hR hwc⟩
end JC3

def JL (X : zm_T) (L res : Nat) (T0 : tT) (μ0 : zm_u) (d dr e p q n : Nat) (Tc0 : tT) (D : Nat → Option Nat) (S : Nat → Tr) (V : List Nat) (wc ic : Nat) (Mt : Tr) (ns : List Nat) (a j : Nat) (Tc : tT) : Prop :=
  ∃ (Tc' : tT) (ok : Bool), Ex Tc Tc' ∧ Tc'.length ≤ Tc0.length + 11 * n ∧ (∀ μs μ, CQ μ0 res Tc D V μs μ → zV X d 48 22 [(0, .inr 3), (1, .inl (nI q)), (2, .inl (nI wc)), (3, .inl (nI ic)), (4, .inl (nI (11 + j)))] [] μ (zpi (fun r' μ' => r' = (if ok then 1 else 0) ∧ CC μ' Tc' D V res ∧ CK μs μ'))) ∧
    ∀ (Tb : tT) (N : Nat → Prop) (ν : Nat → Tr) (Q : List (Nat × Nat)) (W : List Nat) (b wr : Nat), CPr L T0 Tc0 S V Tb N ν Q W → Rmr (e + 1) n Tb Q b → Lv Tb N wr → cT Tc0 S wc = tJ Tb ν wr →
      ∀ (T : tT) (s : Nat) (μ : zm_u) (P : Int32 → zm_u → Prop), NG L μ0 N ν Mt n Tb Q W b p wr ns a j s T μ → 2 ≤ s → s ≤ 3 + j → KI X dr L μ0 n Tb Q W b ok P μ → zV X (dr - 3) 134 2 [(0, .inr 22), (1, .inl (nI b)), (2, .inl (nI p)), (3, .inl 0)] [] μ (zpo (HC X dr P))
section JC2
variable {X : zm_T} {d d' dc dr L n i j k a b e h hh hf p u q res m m0 c v w ip ic r s wc wr z : Nat} {μ μ' μ0 μ1 μs : zm_u} {T T' T1 T0 Tb Tc0 Tc Tc1 Tc2 : tT} {D D' : Nat → Option Nat} {S S' : Nat → Tr} {V V' W W' : List Nat} {N N' : Nat → Prop} {ν ν' : Nat → Tr} {Q Q' : List (Nat × Nat)} {x y part : Int32} {ok op : Bool} {Mt : Tr} {ns : List Nat} {P : Int32 → zm_u → Prop}
theorem jl_all (hd : dc + 2 ≤ d) (hdc : 10 ≤ dc) (hdr : 20 ≤ dr) (hLT : LT L res T0) (hJ : Jc X L res T0 μ0 dc dr e) (hT : TT L μ0 e p u n 17 ns) (ha : a < 64) (ea : μ0 10 (u + n - 1) = nI a) (hnl : ns.length = 1 + pop6 a) (he : 1 ≤ e)
    (hC0 : CPc L T0 Tc0 D S V h) (hR0 : Rmc (e + 1) n Tc0 V h) (hwc : wc < Tc0.length) (hhf : hf = h + 2 * (e - 1)) :
    ∀ (r j : Nat), j + r = 6 → ∀ Tc, CPc L T0 Tc D S V hf → Ex Tc0 Tc → ic < Tc.length → tl D ic = ip → Pip Tc D S ip → cT Tc S ip = Mt → th Mt + 1 ≤ hf → Tc.length + 11 * (ns.sum - sg7 ns a j) + crm (11 + j) ≤ Tc0.length + 11 * n → JL X L res T0 μ0 d dr e p (u + n - 1) n Tc0 D S V wc ic Mt ns a j Tc := by
  have hns : n = 1 + ns.sum := hT.2.2.2.2.2.2.1
  intro r
  induction r with
  | zero =>
    intro j hj Tc hC hx hic hip hP hM hMh hlen
    obtain rfl : j = 6 := by omega
    refine ⟨Tc, true, Ex_rf hC.1.1 hC.1.2.1, by omega, fun μs μ hq => ?_, fun Tb N ν Q W b wr hPr hRr lw ew T s μ P hG hs2 hs hK => ?_⟩
    · exact k48_22 (fun _ => ⟨rfl, hq.2⟩) (fun z => absurd (show (16 : Int32) < nI (11 + 6) by decide) z)
    · obtain ⟨hz, hq, hxT, hlT, hF, hH, h40⟩ := hG
      have hb := hRr.2.2
      have cb : (nI b).toNatClampNeg = b := nI_c (by omega)
      have bf : 0 ≤ (nI b).toInt ∧ (nI b).toInt < ((40 : Nat) : Int) := by rw [nI_t (by omega)]; omega
      have hlt : (16 : Int32) < μ 40 (nI b).toNatClampNeg := by rw [cb, h40]; decide
      have e29 := hq.2.2.2.2
      have e27 : μ 22 27 - 1 = nI b := by rw [hq.2.2.2.1, ← nI_one, nI_sub (by omega)]; rfl
      refine k134_2 (fun z => absurd rfl z) (fun _ => bf) (fun _ _ => k134_169 (fun z => absurd rfl z) (fun _ _ => bf) (fun _ _ => bf) (fun _ _ => bf) (fun _ _ => ?_) (fun _ z => absurd e29 z)) (fun _ z => absurd hlt z) (fun _ z => absurd hlt z) (fun _ z => absurd hlt z) (fun _ z => absurd hlt z) (fun _ z => absurd hlt z) (fun _ z => absurd hlt z) (fun _ z => absurd hlt z) (fun _ z => absurd hlt z)
      rw [cb, hF.2.2.2.1, hF.2.2.2.2, e27]
      exact hK.2 rfl _ T (FK_tr (FK_tr (FK_tr FK_22 FK_22) FK_22) FK_22) (Rz_22 (Rz_22 (Rz_22 (Rz_22 hz (by omega)) (by omega)) (by omega)) (by omega)) ⟨hxT, by omega⟩ (RQ_27 (RQ_28 (RQd_RQ hq)))
  | succ r ih =>
    intro j hj Tc hC hx hic hip hP hM hMh hlen
    have hj6 : j < 6 := by omega
    have hcc := com_crm hj6
    have hsg := sg_le (ns := ns) (a := a) (j := j)
    have hsg1 := sg_le (ns := ns) (a := a) (j := j + 1)
    have h466 := hR0.1
    have hV0 := hR0.2.1
    have hh0 := hR0.2.2
    have hq1 : hqb (e + 1) = hqb e + 2 * e := rfl
    have hmI : nI (11 + j) + 1 = nI (11 + (j + 1)) := by rw [← nI_one, nI_add]; rfl
    have n16 : ¬ (16 : Int32) < nI (11 + j) := by rw [show (16 : Int32) = nI 16 from rfl, nI_ltI (by omega) (by omega)]; omega
    have e11 : nI (11 + j) - 11 = nI j := by
      rw [show (11 : Int32) = nI 11 from rfl, nI_sub (by omega)]
      congr 1
      omega

    have cls : ∀ (rp : Int32) (v : Int32) (Tc2 : tT), (∀ μ, SA μ0 μ → zI X d 35 [.inr 2, .inl (nI (u + n - 1)), .inl (nI (11 + j))] μ (fun r μ' => μ' = μ ∧ r = rp)) → CM X d μ0 res 49 [.inr 3, .inl (nI (11 + j)), .inl rp, .inl (nI ip), .inl (nI wc)] Tc D V v Tc2 → ∀ (v' : Int32) (Tc3 : tT), (v = 0 → v' = 0 ∧ Tc3 = Tc2) → (¬ v = 0 → ∀ μs μ, CQ μ0 res Tc2 D V μs μ → zV X d 48 22 [(0, .inr 3), (1, .inl (nI (u + n - 1))), (2, .inl (nI wc)), (3, .inl (nI ic)), (4, .inl (nI (11 + (j + 1))))] [] μ (zpi (fun r' μ' => r' = v' ∧ CC μ' Tc3 D V res ∧ CK μs μ'))) → ∀ μs μ, CQ μ0 res Tc D V μs μ → zV X d 48 22 [(0, .inr 3), (1, .inl (nI (u + n - 1))), (2, .inl (nI wc)), (3, .inl (nI ic)), (4, .inl (nI (11 + j)))] [] μ (zpi (fun r' μ' => r' = v' ∧ CC μ' Tc3 D V res ∧ CK μs μ')) := by
      intro rp v Tc2 hcf hCM v' Tc3 h0 h1 μs μ hq
      refine k48_22 (fun z => absurd z n16) (fun _ => ⟨_, hcf μ hq.1, fun r1 μ1 hr => ?_⟩)
      obtain ⟨rfl, rfl⟩ := hr
      refine k48_42 ⟨_, c_asTold (c := some ic) (by omega) hq.2.1 hC.1.2.2 (fun i hi => by simp at hi; omega), fun r2 μ2 hr => ?_⟩
      obtain ⟨rfl, rfl⟩ := hr
      rw [Option.map_some, hip]
      refine k48_47 ⟨_, CM_use hCM (Nat.le_refl _) hq, fun r3 μ3 hr => ?_⟩
      obtain ⟨rfl, hq3⟩ := hr
      refine k48_51 (fun z => ?_) (fun z => ?_)
      · rw [hmI]
        exact h1 z μs μ3 hq3
      · obtain ⟨rfl, rfl⟩ := h0 z
        exact ⟨rfl, hq3.2⟩

    have ref : ∀ (ok : Bool), (∀ (Tb : tT) (N : Nat → Prop) (ν : Nat → Tr) (Q : List (Nat × Nat)) (W : List Nat) (b wr : Nat), CPr L T0 Tc0 S V Tb N ν Q W → Rmr (e + 1) n Tb Q b → Lv Tb N wr → cT Tc0 S wc = tJ Tb ν wr → ∀ (T : tT) (s : Nat) (μ : zm_u) (P : Int32 → zm_u → Prop), NG L μ0 N ν Mt n Tb Q W b p wr ns a j s T μ → 2 ≤ s → s ≤ 3 + j → KI X dr L μ0 n Tb Q W b ok P μ → ∀ (e' : Nat) (μ1 : zm_u), Rin L T0 Tc S V (11 + j) ip T N ν Q W e' (b + 1) μ1 → Rz L μ0 μ1 → FK b μ μ1 → Fz μ1 b p (nI wr) s W.length Q.length → μ1 40 b = nI (11 + (j + 1)) → Hd N ν b Mt T μ1 →
        ∃ G : Int32 → zm_u → Prop, zI X (dr - 3) 135 [.inr 22, .inl (nI (11 + j)), .inl (nI e')] μ1 G ∧ ∀ (r : Int32) (μ2 : zm_u), G r μ2 → zV X (dr - 3) 134 74 [(0, .inr 22), (1, .inl (nI b)), (2, .inl (nI p)), (4, .inl (nI (11 + j)))] [.inl r] μ2 (zpo (HC X dr P))) →
        ∀ (Tb : tT) (N : Nat → Prop) (ν : Nat → Tr) (Q : List (Nat × Nat)) (W : List Nat) (b wr : Nat), CPr L T0 Tc0 S V Tb N ν Q W → Rmr (e + 1) n Tb Q b → Lv Tb N wr → cT Tc0 S wc = tJ Tb ν wr → ∀ (T : tT) (s : Nat) (μ : zm_u) (P : Int32 → zm_u → Prop), NG L μ0 N ν Mt n Tb Q W b p wr ns a j s T μ → 2 ≤ s → s ≤ 3 + j → KI X dr L μ0 n Tb Q W b ok P μ → zV X (dr - 3) 134 2 [(0, .inr 22), (1, .inl (nI b)), (2, .inl (nI p)), (3, .inl 0)] [] μ (zpo (HC X dr P)) := by
      intro ok H Tb N ν Q W b wr hPr hRr lw ew T s μ P hG hs2 hs hK
      have hG' := hG
      obtain ⟨hz, hq, hxT, hlT, hF, hH, h40⟩ := hG
      have hb := hRr.2.2
      have hr6 := hRr.1
      have hQ40 := hRr.2.1
      have cb : (nI b).toNatClampNeg = b := nI_c (by omega)
      have bf : 0 ≤ (nI b).toInt ∧ (nI b).toInt < ((40 : Nat) : Int) := by rw [nI_t (by omega)]; omega
      have hlt : ¬ (16 : Int32) < μ 40 (nI b).toNatClampNeg := by rw [cb, h40]; exact n16
      have e29 := hq.2.2.2.2
      refine k134_2 (fun z => absurd rfl z) (fun _ => bf) (fun _ z => absurd z hlt) (fun _ _ z => absurd e29 z) (fun _ _ _ => bf) (fun _ _ _ => bf) (fun _ _ _ => bf) (fun _ _ _ => bf) (fun _ _ _ => bf) (fun _ _ _ => bf) (fun _ _ _ => ?_)
      obtain ⟨e', h39, le', ee'⟩ := hH
      have hH : Hd N ν b Mt T μ := ⟨e', h39, le', ee'⟩
      rw [cb, h40, h39, hF.2.2.2.1, hF.2.2.2.2, hmI]
      refine H Tb N ν Q W b wr hPr hRr lw ew T s μ P hG' hs2 hs hK e' _ ⟨CPr_mono hC0 hPr hx hxT, le', by rw [ee', hM], RQ_row (RQd_RQ hq) (by omega), by omega, by omega⟩ (Rz_row (Rz_22 (Rz_22 hz (by omega)) (by omega)) (by omega)) (FK_tr (FK_tr FK_22 FK_22) (FK_row (Nat.le_refl _))) ?_ ?_ ?_
      · have h1 := Fz_22 (i := 17) (v := nI Q.length) (Fz_22 (i := 19) (v := nI W.length) hF)
        obtain ⟨a1, a2, a3, a4, a5⟩ := h1
        exact ⟨by rw [zm_up_row (by decide)]; exact a1, by rw [zm_up_row (by decide)]; exact a2, by rw [zm_up_row (by decide)]; exact a3, by rw [zm_up_row (by decide)]; exact a4, by rw [zm_up_row (by decide)]; exact a5⟩
      · rw [zm_up_at, if_pos ⟨rfl, rfl⟩]
      · refine ⟨e', ?_, le', ee'⟩
        rw [zm_up_row (by decide), zm_up_row (by decide), zm_up_row (by decide)]
        exact h39
    have hMt2 : th (cT Tc S ip) + 1 ≤ hf := by rw [hM]; exact hMh

    have go : ∀ Tc2, Ex Tc Tc2 → Tc2.length + 11 * (ns.sum - sg7 ns a (j + 1)) + crm (11 + (j + 1)) ≤ Tc0.length + 11 * n → JL X L res T0 μ0 d dr e p (u + n - 1) n Tc0 D S V wc ic Mt ns a (j + 1) Tc2 := by
      intro Tc2 hx2 hl2
      obtain ⟨p1, p2, p3⟩ := hP
      refine ih (j + 1) (by omega) Tc2 (CPc_mono hC hx2) (Ex_tr hx hx2) (by have := hx2.2.1; omega) hip ⟨by have := hx2.2.1; omega, p2, fun k4 => ?_⟩ (by rw [Ex_cT hC.1.1 hx2 p1]; exact hM) hMh hl2
      rw [Ex_cT hC.1.1 hx2 p1]
      refine p3 ?_
      have := hx2.1 ip p1
      unfold kd at k4 ⊢
      rw [← this]
      exact k4

    rcases cs_all (X := X) (μ0 := μ0) hLT hC hP hMt2 hj6 (by omega) (by omega) with ⟨Tce, hEn, hcl, href⟩ | ⟨Tce, Tcv, D', S', V', hEn, hEv, hCv, hVl, hno, hyes, href⟩
    ·
      have hEl := hEn.2
      have hsle : sg7 ns a j ≤ sg7 ns a (j + 1) := by
        by_cases hb0 : a / 2 ^ j % 2 = 0
        · rw [sg_next ha hj6 hb0]; exact Nat.le_refl _
        · obtain ⟨zz, hzz⟩ := ns_at (ns := ns) (j := 1 + pop6 (a % 2 ^ j)) (by rw [hnl]; exact bit_3 a ha j hj6 hb0)
          rw [sg_bit ha hj6 hb0 hzz]; omega
      obtain ⟨Tc3, ok, g1, g2, g3, g4⟩ := go Tce hEn.1 (by omega)
      refine ⟨Tc3, ok, Ex_tr hEn.1 g1, g2, ?_, ?_⟩
      · by_cases hb0 : a / 2 ^ j % 2 = 0
        · refine cls (-1) 1 Tce (fun μ hs => zI_mono (c_caseFor (by omega) hT hs ha ea hnl hj6) (Nat.le_refl _) (fun r μ' q => ⟨q.1, ?_⟩)) (hcl _ _ d (by omega)) _ Tc3 (fun z => absurd z zn_10) (fun _ => g3)
          rcases q.2 with ⟨_, q⟩ | ⟨q, _⟩
          · exact q
          · exact absurd hb0 q
        · obtain ⟨zz, hzz⟩ := ns_at (ns := ns) (j := 1 + pop6 (a % 2 ^ j)) (by rw [hnl]; exact bit_3 a ha j hj6 hb0)
          refine cls (nI (u + (ns.take (1 + pop6 (a % 2 ^ j))).sum + zz - 1)) 1 Tce (fun μ hs => zI_mono (c_caseFor (by omega) hT hs ha ea hnl hj6) (Nat.le_refl _) (fun r μ' q => ⟨q.1, ?_⟩)) (hcl _ _ d (by omega)) _ Tc3 (fun z => absurd z zn_10) (fun _ => g3)
          rcases q.2 with ⟨q, _⟩ | ⟨_, z', q1, q2⟩
          · exact absurd q hb0
          · rw [hzz] at q1
            simp only [Option.some.injEq] at q1
            rw [q2, q1]
      · refine ref ok (fun Tb N ν Q W b wr hPr hRr lw ew T s μ P hG hs2 hs hK e' μ1 hRin hz1 hfk hF1 h401 hH1 => ⟨_, href T N ν Q W e' (b + 1) μ1 (dr - 3) (by omega) hRin, fun r μ2 hr => ?_⟩)
        obtain ⟨rfl, hcf, T', Q', hq2, hn2, hQ'⟩ := hr
        have hb := hRr.2.2
        have hz2 := Cf_Rz hcf hz1
        have hs2' := Rz_SA hz2
        have e28 : μ2 28 p = nI a := by rw [hs2'.2.2.2.2.1, hT.2.2.2.1, ea]
        have bp : 0 ≤ (nI p).toInt ∧ (nI p).toInt < ((560 : Nat) : Int) := by have := hT.1; rw [nI_t (by omega)]; omega
        have e29 := hq2.2.2.2.2
        have next : zV X (dr - 3) 134 122 [(0, .inr 22), (1, .inl (nI b)), (2, .inl (nI p)), (3, .inl 0), (4, .inl (nI (11 + j))), (5, .inl 0)] [.inl 0, .inr 22] μ2 (zpo (HC X dr P)) ∧ zV X (dr - 3) 134 122 [(0, .inr 22), (1, .inl (nI b)), (2, .inl (nI p)), (3, .inl 0), (4, .inl (nI (11 + j))), (5, .inl 1)] [.inl 0, .inr 22] μ2 (zpo (HC X dr P)) := by
          have body : zV X (dr - 3) 134 2 [(0, .inr 22), (1, .inl (nI b)), (2, .inl (nI p)), (3, .inl 0)] [] (zm_up μ2 22 29 0) (zpo (HC X dr P)) := by
            rw [up29_0 e29]
            obtain ⟨hz, hq, hxT, hlT, hF, hH, h40⟩ := hG
            have hn2l := hn2.2
            have hwT := (RQ_len hRin.2.2.2.1).2
            refine g4 Tb N ν Q W b wr hPr hRr lw ew T' s μ2 P ⟨hz2, RQd_of hq2 hQ' ⟨[], by simp⟩, Rx_tr hxT hn2.1, by omega, ?_, Hd_st hwT hn2.1 (Cf_FK hcf) hH1, ?_⟩ hs2 (by omega) (KI_mono hK (FK_tr hfk (Cf_FK hcf)))
            · obtain ⟨a1, a2, a3, a4, a5⟩ := hF1
              have r : ∀ c, 36 ≤ c → c ≤ 42 → μ2 c b = μ1 c b := fun c h1 h2 => Cf_FK (b := b + 1) hcf b (by omega) c h1 h2
              exact ⟨(r 36 (by omega) (by omega)).trans a1, (r 37 (by omega) (by omega)).trans a2, (r 38 (by omega) (by omega)).trans a3, (r 41 (by omega) (by omega)).trans a4, (r 42 (by omega) (by omega)).trans a5⟩
            · exact (Cf_FK (b := b + 1) hcf b (by omega) 40 (by omega) (by omega)).trans h401
          exact ⟨k134_122 (Or.inl rfl) (fun _ => k134_166 body) (fun z => absurd rfl z) (fun z => absurd rfl z) (fun z => absurd rfl z), k134_122 (Or.inl rfl) (fun _ => k134_166 body) (fun z => absurd rfl z) (fun z => absurd rfl z) (fun z => absurd rfl z)⟩
        refine k134_74 bp (fun _ => ?_) (fun _ => ?_)
        · exact k134_98 (fun z => absurd e29 z) (fun _ _ => k134_121 next.1) (fun _ z => absurd rfl z) (fun _ z => absurd rfl z)
        · exact k134_98 (fun z => absurd e29 z) (fun _ _ => k134_121 next.2) (fun _ z => absurd rfl z) (fun _ z => absurd rfl z)
    ·
      have hEl := hEn.2
      have hEvl := hEv.2
      by_cases hb0 : a / 2 ^ j % 2 = 0
      ·
        refine ⟨Tce, false, hEn.1, by omega, ?_, ?_⟩
        · refine cls (-1) 0 Tce (fun μ hs => zI_mono (c_caseFor (by omega) hT hs ha ea hnl hj6) (Nat.le_refl _) (fun r μ' q => ⟨q.1, ?_⟩)) (hno _ d (by omega)) _ Tce (fun _ => ⟨rfl, rfl⟩) (fun z => absurd rfl z)
          rcases q.2 with ⟨_, q⟩ | ⟨q, _⟩
          · exact q
          · exact absurd hb0 q
        · refine ref false (fun Tb N ν Q W b wr hPr hRr lw ew T s μ P hG hs2 hs hK e' μ1 hRin hz1 hfk hF1 h401 hH1 => ⟨_, href T N ν Q W e' (b + 1) μ1 (dr - 3) (by omega) hRin, fun r μ2 hr => ?_⟩)
          obtain ⟨rfl, hcf, T', N', ν', Q', W', hq2, hn2, hEnr⟩ := hr
          have hz2 := Cf_Rz hcf hz1
          have hs2' := Rz_SA hz2
          have e28 : μ2 28 p = nI a := by rw [hs2'.2.2.2.2.1, hT.2.2.2.1, ea]
          have bp : 0 ≤ (nI p).toInt ∧ (nI p).toInt < ((560 : Nat) : Int) := by have := hT.1; rw [nI_t (by omega)]; omega
          have cp : (nI p).toNatClampNeg = p := by have := hT.1; exact nI_c (by omega)
          have e29 := hq2.2.2.2.2
          have ebit : ((μ2 28 (nI p).toNatClampNeg) >>> ((nI (11 + j) - 11) &&& 31)) &&& 1 = nI (a / 2 ^ j % 2) := by rw [cp, e28, e11]; exact m_bits_step a ha j hj6
          have nb : ¬ ((μ2 28 (nI p).toNatClampNeg) >>> ((nI (11 + j) - 11) &&& 31)) &&& 1 = 1 := by rw [ebit, hb0]; decide
          refine k134_74 bp (fun _ => ?_) (fun z => absurd z nb)
          refine k134_98 (fun z => absurd e29 z) (fun _ z => absurd z zn_10) (fun _ _ z => absurd rfl z) (fun _ _ _ => k134_117 ?_)
          refine k134_122 (Or.inr rfl) (fun z => absurd z zn_10) (fun _ _ => k134_166 (k134_2 (fun _ => k134_169 (fun _ => ?_) (fun z => absurd z zn_10) (fun z => absurd z zn_10) (fun z => absurd z zn_10) (fun z => absurd z zn_10) (fun z => absurd z zn_10)) (fun z => absurd z zn_10) (fun z => absurd z zn_10) (fun z => absurd z zn_10) (fun z => absurd z zn_10) (fun z => absurd z zn_10) (fun z => absurd z zn_10) (fun z => absurd z zn_10) (fun z => absurd z zn_10) (fun z => absurd z zn_10) (fun z => absurd z zn_10))) (fun _ z => absurd rfl z) (fun _ z => absurd rfl z)
          exact hK.1 rfl _ (FK_tr hfk (FK_tr (Cf_FK hcf) FK_22)) (Rz_22 hz2 (by omega)) (by rw [zm_up_at, if_pos ⟨rfl, rfl⟩])
      ·
        obtain ⟨zz, hzz⟩ := ns_at (ns := ns) (j := 1 + pop6 (a % 2 ^ j)) (by rw [hnl]; exact bit_3 a ha j hj6 hb0)
        have hsb := sg_bit ha hj6 hb0 hzz
        have hTm := Tl_at ns (p + 1) u _ zz hT.2.2.2.2.2.2.2 hzz
        have hTmp := Tm_pos hTm
        have hwcv : wc < Tcv.length := by have := hx.2.1; have := hEv.1.2.1; omega
        obtain ⟨Tc2, okp, Q2, A2, B2⟩ := (hJ _ _ zz hTm Tcv D' S' V' (hf + 1) hCv ⟨by omega, by omega, by omega⟩).2 wc hwcv
        have Q2l := Q2.2
        have hx2 : Ex Tc Tc2 := Ex_tr hEv.1 Q2.1
        have hpn : ¬ nI (u + (ns.take (1 + pop6 (a % 2 ^ j))).sum + zz - 1) = -1 := by
          intro z
          have := congrArg Int32.toInt z
          rw [nI_t (by omega), zn_m1] at this
          omega
        have hCM := hyes _ (nI wc) okp Tc2 d dc hpn (by omega) (by omega) A2
        have hcf : ∀ μ, SA μ0 μ → zI X d 35 [.inr 2, .inl (nI (u + n - 1)), .inl (nI (11 + j))] μ (fun r μ' => μ' = μ ∧ r = nI (u + (ns.take (1 + pop6 (a % 2 ^ j))).sum + zz - 1)) := fun μ hs => zI_mono (c_caseFor (by omega) hT hs ha ea hnl hj6) (Nat.le_refl _) (fun r μ' q => ⟨q.1, by
          rcases q.2 with ⟨q, _⟩ | ⟨_, z', q1, q2⟩
          · exact absurd q hb0
          · rw [hzz] at q1
            simp only [Option.some.injEq] at q1
            rw [q2, q1]⟩)

        have refp : ∀ (ok : Bool), (okp = false → ok = false) → (okp = true → ∀ (Tb : tT) (N : Nat → Prop) (ν : Nat → Tr) (Q : List (Nat × Nat)) (W : List Nat) (b wr : Nat), CPr L T0 Tc0 S V Tb N ν Q W → Rmr (e + 1) n Tb Q b → Lv Tb N wr → cT Tc0 S wc = tJ Tb ν wr → ∀ (T : tT) (s : Nat) (μ : zm_u) (P : Int32 → zm_u → Prop), NG L μ0 N ν Mt n Tb Q W b p wr ns a (j + 1) s T μ → 2 ≤ s → s ≤ 3 + (j + 1) → KI X dr L μ0 n Tb Q W b ok P μ → zV X (dr - 3) 134 2 [(0, .inr 22), (1, .inl (nI b)), (2, .inl (nI p)), (3, .inl 0)] [] μ (zpo (HC X dr P))) →
            ∀ (Tb : tT) (N : Nat → Prop) (ν : Nat → Tr) (Q : List (Nat × Nat)) (W : List Nat) (b wr : Nat), CPr L T0 Tc0 S V Tb N ν Q W → Rmr (e + 1) n Tb Q b → Lv Tb N wr → cT Tc0 S wc = tJ Tb ν wr → ∀ (T : tT) (s : Nat) (μ : zm_u) (P : Int32 → zm_u → Prop), NG L μ0 N ν Mt n Tb Q W b p wr ns a j s T μ → 2 ≤ s → s ≤ 3 + j → KI X dr L μ0 n Tb Q W b ok P μ → zV X (dr - 3) 134 2 [(0, .inr 22), (1, .inl (nI b)), (2, .inl (nI p)), (3, .inl 0)] [] μ (zpo (HC X dr P)) := by
          intro ok hok0 hok1
          refine ref ok (fun Tb N ν Q W b wr hPr hRr lw ew T s μ P hG hs2 hs hK e' μ1 hRin hz1 hfk hF1 h401 hH1 => ⟨_, href T N ν Q W e' (b + 1) μ1 (dr - 3) (by omega) hRin, fun r μ2 hr => ?_⟩)
          obtain ⟨rfl, hcf2, T', N', ν', Q', W', hq2, hn2, hP', ⟨qq, eQ, hql⟩, ⟨ww, eW⟩, htr⟩ := hr
          have hb := hRr.2.2
          have hr6 := hRr.1
          have hQ40 := hRr.2.1
          have hz2 := Cf_Rz hcf2 hz1
          have hs2' := Rz_SA hz2
          have e28 : μ2 28 p = nI a := by rw [hs2'.2.2.2.2.1, hT.2.2.2.1, ea]
          have bp : 0 ≤ (nI p).toInt ∧ (nI p).toInt < ((560 : Nat) : Int) := by have := hT.1; rw [nI_t (by omega)]; omega
          have cp : (nI p).toNatClampNeg = p := by have := hT.1; exact nI_c (by omega)
          have cb : (nI b).toNatClampNeg = b := nI_c (by omega)
          have bf : 0 ≤ (nI b).toInt ∧ (nI b).toInt < ((40 : Nat) : Int) := by rw [nI_t (by omega)]; omega
          have e29 := hq2.2.2.2.2
          have hb1 : a / 2 ^ j % 2 = 1 := by have := bit_7 a ha j hj6; omega
          have ebit : ((μ2 28 (nI p).toNatClampNeg) >>> ((nI (11 + j) - 11) &&& 31)) &&& 1 = nI (a / 2 ^ j % 2) := by rw [cp, e28, e11]; exact m_bits_step a ha j hj6
          have yb : ((μ2 28 (nI p).toNatClampNeg) >>> ((nI (11 + j) - 11) &&& 31)) &&& 1 = 1 := by rw [ebit, hb1]; rfl
          refine k134_74 bp (fun z => absurd yb z) (fun _ => ?_)
          refine k134_98 (fun z => absurd e29 z) (fun _ z => absurd z zn_10) (fun _ _ _ => k134_121 ?_) (fun _ _ z => absurd z zn_10)
          refine k134_122 (Or.inl rfl) (fun z => absurd z zn_10) (fun _ z => absurd z zn_10) (fun _ _ => bp) (fun _ _ => ?_)
          rw [cp, e28, e11, bit_2 a ha j hj6, up29_0 e29]
          refine ⟨_, m_bits (by omega) (bit_4 a ha j hj6), fun r μ3 hr => ?_⟩
          obtain ⟨rfl, rfl⟩ := hr
          have e37 : μ3 37 b = nI wr := (Cf_FK (b := b + 1) hcf2 b (by omega) 37 (by omega) (by omega)).trans hF1.2.1
          have s27 : μ3 22 27 = nI (b + 1) := hq2.2.2.2.1
          have hak : ns.length ≤ 9 := by rw [hT.2.2.2.2.2.1]; exact ar_le _ _
          have hzl := (List.getElem?_eq_some_iff.mp hzz).1
          have hwT := (RQ_len hRin.2.2.2.1).2
          obtain ⟨hz0, hq0, hxT, hlT, hF, hH, h40⟩ := hG
          have hn2l := hn2.2
          obtain ⟨lw', ew'⟩ := htr wc wr (by have := hx.2.1; omega) (Rx_Lv hPr.1.1 hxT lw) (by rw [Ex_cT hC0.1.1 hx hwc, ew, Rx_tJ hPr.1.1 hxT lw.1])
          have hRI := B2 T' N' ν' Q' W' (b + 1) wr hP' ⟨by omega, by rw [eQ]; simp; omega, by omega⟩ lw' ew'
          refine k134_156 bf ?_
          rw [nI_1p, cb, e37]
          refine ⟨HC X dr P, zO_at [0, 1, 2, 3] (by omega) rfl (k127_0 ⟨_, m_part (m := 0) (L := L) (e := e) (u := u) (by omega) hT.1.2.2.2 (by have := hT.1; have := hT.2.2.2.2.2.2.1; omega) (by omega) (Tl_SA hs2' hT.2.2.2.2.2.2.2) (by omega), fun r μ4 hr => ?_⟩), fun μ5 h5 => k134_166 (k134_2 (fun _ => k134_169 (fun _ => h5) (fun z => absurd z zn_10) (fun z => absurd z zn_10) (fun z => absurd z zn_10) (fun z => absurd z zn_10) (fun z => absurd z zn_10)) (fun z => absurd z zn_10) (fun z => absurd z zn_10) (fun z => absurd z zn_10) (fun z => absurd z zn_10) (fun z => absurd z zn_10) (fun z => absurd z zn_10) (fun z => absurd z zn_10) (fun z => absurd z zn_10) (fun z => absurd z zn_10) (fun z => absurd z zn_10))⟩
          obtain ⟨rfl, rfl⟩ := hr
          refine k127_7 ⟨_, m_begin (by omega) s27 (by omega) rfl, fun μ5 hr => k127_11 ?_⟩
          subst hr
          refine hRI μ4 P hz2 hq2 (fun μ6 h1 h2 h3 => ?_)
          have hfk6 : FK b μ μ6 := FK_tr hfk (FK_tr (Cf_FK hcf2) (FK_le h1 (by omega)))
          rcases h3 with ⟨h3, h4⟩ | ⟨h3, T6, h4, h5⟩
          · exact hK.1 (hok0 h3) μ6 hfk6 h2 h4
          · have h4l := h4.2
            have r6 : ∀ c, 36 ≤ c → c ≤ 42 → μ6 c b = μ1 c b := fun c g1 g2 => (h1 b (by omega) c g1 g2).trans (Cf_FK (b := b + 1) hcf2 b (by omega) c g1 g2)
            have lw1 := lw.1
            refine nc_it (P := P) (j := j + 1) (s := s) (N := N) (ν := ν) (Mt := Mt) (n := n) (Tb := Tb) (Q := Q) (W := W) (wr := wr) (a := a) (T := T6) (by omega) (by omega) hT ⟨h2, RQd_of h5 ⟨qq, eQ⟩ ⟨ww, eW⟩, Rx_tr hxT (Rx_tr hn2.1 h4.1), ?_, ?_, ?_, (r6 40 (by omega) (by omega)).trans h401⟩ hs2 (by omega) (by omega) (fun μ7 hf7 hG7 => ?_)
            · omega
            · obtain ⟨a1, a2, a3, a4, a5⟩ := hF1
              exact ⟨(r6 36 (by omega) (by omega)).trans a1, (r6 37 (by omega) (by omega)).trans a2, (r6 38 (by omega) (by omega)).trans a3, (r6 41 (by omega) (by omega)).trans a4, (r6 42 (by omega) (by omega)).trans a5⟩
            · exact Hd_st hwT (Rx_tr hn2.1 h4.1) (FK_tr (Cf_FK hcf2) (FK_le h1 (by omega))) hH1
            · exact hok1 h3 Tb N ν Q W b wr hPr hRr lw ew T6 (s + 1) μ7 P hG7 (by omega) (by omega) (KI_mono hK (FK_tr hfk6 hf7))
        cases okp with
        | false =>
          refine ⟨Tc2, false, hx2, by omega, cls _ 0 Tc2 hcf hCM _ Tc2 (fun _ => ⟨rfl, rfl⟩) (fun z => absurd rfl z), refp false (fun _ => rfl) (fun z => by simp at z)⟩
        | true =>
          obtain ⟨Tc3, ok, g1, g2, g3, g4⟩ := go Tc2 hx2 (by omega)
          exact ⟨Tc3, ok, Ex_tr hx2 g1, g2, cls _ 1 Tc2 hcf hCM _ Tc3 (fun z => absurd z zn_10) (fun _ => g3), refp ok (fun z => by simp at z) (fun _ => g4)⟩
end JC2

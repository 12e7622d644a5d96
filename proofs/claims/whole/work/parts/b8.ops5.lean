section OP5
variable {X : zm_T} {d d' dc dr L n i j k a b e h hh p u q res m m0 m1 m2 c r c1 r1 s f wr wc : Nat} {μ μ' μ0 μ1 μs : zm_u} {T T' T1 T0 Tb Tc Tc1 Tc2 Tr' Tr1 Tr2 : tT} {D : Nat → Option Nat} {S S' : Nat → Tr} {V W : List Nat} {N : Nat → Prop} {ν ν' : Nat → Tr} {Q : List (Nat × Nat)} {as : List zm_v} {v x wt : Int32} {o o1 : Option Tr} {t t0 t1 t' : Tr} {ns : List Nat} {x1 x2 : Option Nat} {P : Int32 → zm_u → Prop} {PP : zm_u → Prop} {C C1 : tT → zm_u → Prop} {ok ok0 ok1 ok2 sd : Bool}

theorem cExp_l (hLT : LT L res T0) (hC : CPc L T0 Tc D S V h) (hl : Tc.length < 466) (ha : a < L) : ∃ j, (cExp Tc (some a)).2 = some j ∧ En 1 Tc (cExp Tc (some a)).1 ∧ j < (cExp Tc (some a)).1.length ∧ cT (cExp Tc (some a)).1 S j = tE (cT Tc S a) ∧ vc Tc (some a) := by
  have l := (CPc_last hLT hC ha).1
  have v1 : vc Tc (some a) := fun i hi => by simp at hi; omega
  obtain ⟨g1, g2, g3⟩ := cExp_m (S := S) hC.1.1 hC.1.2.1 hl v1
  obtain ⟨j, hj⟩ : ∃ j, (cExp Tc (some a)).2 = some j := ⟨_, rfl⟩
  refine ⟨j, hj, g1, g2 j hj, ?_, v1⟩
  rw [hj] at g3
  simp only [Option.map_some, Option.some.injEq] at g3
  exact g3

theorem go13 (hdr : 8 ≤ dr) (hb : b < 38) (hL : L ≤ Tb.length) (hg : GF μ b p s 13) (hG : GG L μ0 Tb T Q W b p wt (s + 1) c C (zm_up μ 38 b (nI (s + 1)))) (l0 : Lv T N 0) (hl : Tb.length + c + 1 < 600)
    (H : ∀ (μ3 : zm_u) (T2 : tT) (r1 r2 : Nat), GG L μ0 Tb T2 Q W b p wt (s + 1) (c + 2) (fun _ _ => True) μ3 → FK b (zm_up μ 38 b (nI (s + 1))) μ3 → Rx T T2 → Lv T2 N r1 → tJ T2 ν r1 = tE (tJ T ν 0) → Lv T2 N r2 → tJ T2 ν r2 = tE (tJ T ν 0) → (s < 2 → zO X (dr - 2) 127 [.inr 22, .inl (nI p), .inl (nI s), .inl (nI r1)] μ3 PP) ∧ (2 ≤ s → zO X (dr - 2) 126 [.inr 22, .inl (nI r2)] μ3 PP)) (hs : s < 90) : zO X dr 136 [.inr 22] μ PP := by
  refine go_13 (by omega) hg ?_
  generalize (zm_up μ 38 b (nI (s + 1))) = μ2 at hG H ⊢
  have hw := (RQ_len hG.2.1).2
  have hT6 : T.length < 599 := by have := hG.2.2.1.2; omega
  obtain ⟨y1, y2, y3⟩ := r_exp (ν := ν) hw (by omega) l0
  have y1l := y1.2
  refine ⟨_, m_exp (by omega) hG.2.1.1 (GG_L hG hL) (by omega) l0.1 rfl, fun r1 μ3 hr => ?_⟩
  obtain ⟨rfl, hR3, hf3⟩ := hr
  have hG3 := GG_Tf (C1 := fun _ _ => True) hG hf3 hR3 y1 trivial
  have l0' := Rx_Lv hw y1.1 l0
  obtain ⟨z1, z2, z3⟩ := r_exp (ν := ν) y1.1.2.2 (by omega) l0'
  refine ⟨_, m_exp (by omega) hR3 (GG_L hG3 hL) (by omega) l0'.1 rfl, fun r2 μ4 hr => ?_⟩
  obtain ⟨rfl, hR4, hf4⟩ := hr
  have hG4 := GG_Tf (C1 := fun _ _ => True) hG3 hf4 hR4 z1 trivial
  obtain ⟨h1, h2⟩ := H μ4 _ _ _ hG4 (FK_tr (Tf_FK hf3) (Tf_FK hf4)) (Rx_tr y1.1 z1.1) (Rx_Lv y1.1.2.2 z1.1 y2) (by rw [Rx_tJ y1.1.2.2 z1.1 y2.1, y3]) z2 (by rw [z3, Rx_tJ hw y1.1 l0.1])
  refine zO_at [0, 1, 2, 3, 4] (by omega) rfl (k137_0 (fun z => ⟨_, ?_, fun μ1 q => k137_21 q⟩) (fun z => ⟨_, ?_, fun μ1 q => k137_12 (k137_21 q)⟩))
  · rw [show (2 : Int32) = nI 2 from rfl, nI_leI (by omega) (by omega)] at z
    exact h2 z
  · rw [show (2 : Int32) = nI 2 from rfl, nI_leI (by omega) (by omega)] at z
    exact h1 (by omega)
theorem jb_sum (hd : dc + 5 ≤ d) (hdc : 6 ≤ dc) (hdr : 14 ≤ dr) (hLT : LT L res T0) (hJ : Jc X L res T0 μ0 dc dr e) (hT : TT L μ0 e p u n 13 ns) (hC : CPc L T0 Tc D S V h) (hR : Rmc (e + 1) n Tc V h) : JBd X L res T0 μ0 d dr (e + 1) p u n Tc D S V h := by
  obtain ⟨m0, m1, rfl, hsum⟩ := two_parts hT (by rw [hT.2.2.2.2.2.1, ar_ne (by omega)]; rfl)
  have hL2 := LT_2 hLT
  have hl := hR.1
  obtain ⟨ja, w1, w2, w3, w4, w5⟩ := cExp_l hLT hC (by omega) (show 0 < L by omega)
  have hCa := CPc_mono hC w2.1
  have w2l := w2.2
  obtain ⟨he, _, q0⟩ := j_part (j := 0) (m := m0) hJ hT rfl hCa hR (by omega)
  obtain ⟨Tc1, ok0, P1, A1, B1⟩ := q0 ja w3
  have hC1 := CPc_mono hCa P1.1
  have p1 := P1.2
  obtain ⟨_, _, q1⟩ := j_part (j := 1) (m := m1) hJ hT rfl hC1 hR (by omega)
  obtain ⟨Tc2, ok1, P2, A2, B2⟩ := q1 ja (by have := P1.1.2.1; omega)
  have hC2 := CPc_mono hC1 P2.1
  have p2 := P2.2
  obtain ⟨jb, v1, v2, v3, v4, v5⟩ := cExp_l hLT hC2 (by omega) (show 0 < L by omega)
  have c0 : ∀ {Tc' : tT} (hC' : CPc L T0 Tc' D S V h), cT Tc' S 0 = tI := fun hC' => by rw [(CPc_last hLT hC' (show 0 < L by omega)).2.2, tJ_0 hLT.2.2.2.1.1.1]
  have h4 : 4 ≤ h := by have := hC.2.2.2 0; have := th_pos (S 0); omega

  have cls : ∀ (Tc3 : tT) (ok : Bool) (hC3 : CPc L T0 Tc3 D S V h) (hl3 : Tc3.length < 466), CM X (dc + 1) μ0 res 47 [.inr 3, .inl (nI (u + n - 1)), .inl (nI ja)] (cExp Tc (some 0)).1 D V (if ok then 1 else 0) Tc3 → CM X d μ0 res 53 [.inr 3, .inl (nI (u + n - 1))] Tc D V (oc (if ok then (cExp Tc3 (some 0)).2 else none)) (if ok then (cExp Tc3 (some 0)).1 else Tc3) := by
    intro Tc3 ok hC3 hl3 hCM
    have v3' : vc Tc3 (some 0) := fun i hi => by
      have := (CPc_last hLT hC3 (show 0 < L by omega)).1
      simp at hi; omega
    refine cm_55 (by omega) (by omega) hT (fun μs μ1 hq => ?_)
    refine k55_8 ?_ ?_ (fun _ _ _ => ⟨_, CM_use (cm_exp (x1 := some 0) (d := d - 2) (by omega) (by omega) w5) (Nat.le_refl _) hq, fun r μ2 hr => ?_⟩) ?_ ?_ ?_ ?_ <;> first | (intros; contradiction) | skip
    obtain ⟨rfl, hq2⟩ := hr
    rw [w1]
    refine k55_118 ⟨_, CM_use hCM (by omega) hq2, fun r μ3 hr => ?_⟩
    obtain ⟨rfl, hq3⟩ := hr
    cases ok with
    | true =>
      refine k55_121 (fun z => absurd z zn_10) (fun _ => ⟨_, CM_use (cm_exp (x1 := some 0) (d := d - 2) (by omega) hl3 v3') (Nat.le_refl _) hq3, fun r μ5 hr => k55_132 ?_⟩)
      obtain ⟨rfl, hq5⟩ := hr
      exact ⟨rfl, hq5.2⟩
    | false => exact k55_121 (fun _ => ⟨rfl, hq3.2⟩) (fun z => absurd rfl z)
  cases ok0 with
  | false =>
    refine ⟨Tc1, none, En_tr w2 P1 (by omega), FOc_none, cls Tc1 false hC1 (by omega) (cm_both (ok0 := false) (ok1 := false) (Tc1 := Tc1) (m0 := m0) (m1 := m1) (wc := ja) (d' := dc) (by omega) (by omega) hT rfl rfl A1 (fun z => absurd z (by simp)) (fun _ => ⟨rfl, rfl⟩) rfl), fun Tr' N ν Q W b hP hRr wt => ?_⟩
    have hb := hRr.2.2
    have hr6 := hRr.1
    refine RBd_go (by omega) (by omega) hT st8_T (fun μ T P hg hG hK _ _ => ?_)
    have hPT := CPr_mono hC hP (Ex_rf hC.1.1 hC.1.2.1) hG.2.2.1.1
    obtain ⟨f1, f2⟩ := CPr_last hLT hC hPT (show 0 < L by omega)
    refine go13 (ν := ν) (by omega) (by omega) hP.2.1.1 hg hG f1 (by omega) (fun μ3 T2 r1 r2 hG3 hf3 hx l1 e1 l2 e2 => ⟨fun _ => ?_, fun z => by omega⟩) (by omega)
    exact st_is (i := 0) (m := m0) (wr := r1) (C0 := fun _ _ => True) (c1 := 11 * n) (by omega) (by omega) hT rfl rfl rfl stb_T (B1 T2 N ν Q W (b + 1) r1 (CPr_mono hC hP w2.1 hG3.2.2.1.1) (Rmr_part hRr hG3.2.2.1 (by omega)) l1 (by rw [w4, e1, f2])) (fun _ => rfl) (fun z => absurd z (by simp)) (by omega) hG3 (Kt_mono hK hf3)
  | true =>
    refine ⟨if ok1 then (cExp Tc2 (some 0)).1 else Tc2, if ok1 then (cExp Tc2 (some 0)).2 else none, ?_, ?_, cls Tc2 ok1 hC2 (by omega) (cm_both (ok0 := true) (ok1 := ok1) (Tc1 := Tc1) (m0 := m0) (m1 := m1) (wc := ja) (d' := dc) (by omega) (by omega) hT rfl rfl A1 (fun _ => A2) (fun z => absurd z (by simp)) rfl), fun Tr' N ν Q W b hP hRr wt => ?_⟩
    · cases ok1 with
      | true => exact En_tr (En_tr w2 (En_tr P1 P2 (Nat.le_refl _)) (Nat.le_refl _)) v2 (by omega)
      | false => exact En_tr w2 (En_tr P1 P2 (Nat.le_refl _)) (by omega)
    · cases ok1 with
      | true =>
        have z1 : FOc (cExp Tc2 (some 0)).1 S (h + 2 * (e + 1 - 1)) (cExp Tc2 (some 0)).2 := by
          rw [v1]
          refine FOc_some v3 ?_
          rw [v4, c0 hC2, th_E]
          show 1 + 1 ≤ _
          omega
        exact z1
      | false => exact FOc_none
    have hb := hRr.2.2
    have hr6 := hRr.1
    have gen : ∀ ok, ok = ok1 → Option.map (cT (if ok then (cExp Tc2 (some 0)).1 else Tc2) S) (if ok then (cExp Tc2 (some 0)).2 else none) = if ok then some (tE tI) else none := by
      intro ok _
      cases ok with
      | true =>
        show Option.map (cT (cExp Tc2 (some 0)).1 S) (cExp Tc2 (some 0)).2 = some (tE tI)
        rw [v1, Option.map_some, v4, c0 hC2]
      | false => rfl
    rw [gen ok1 rfl]
    have s2 : ok1 = true → RBd X dr L μ0 N ν n Tr' Q W b p wt 2 (2 + 11 * m0 + 2 + 11 * m1) (fun _ _ => True) (if ok1 then some (tE tI) else none) := by
      intro z
      subst z
      refine RBd_go (by omega) (by omega) hT st8_T (fun μ T P hg hG hK _ _ => ?_)
      have hPT := CPr_mono hC hP (Ex_rf hC.1.1 hC.1.2.1) hG.2.2.1.1
      obtain ⟨f1, f2⟩ := CPr_last hLT hC hPT (show 0 < L by omega)
      refine go13 (ν := ν) (by omega) (by omega) hP.2.1.1 hg hG f1 (by omega) (fun μ3 T2 r1 r2 hG3 hf3 hx l1 e1 l2 e2 => ⟨fun z => by omega, fun _ => ?_⟩) (by omega)
      exact kt_end (by omega) (Kt_mono hK hf3) hG3 (by omega) l2 (by rw [e2, ← f2, c0 hC]) rfl
    have s1 : RBd X dr L μ0 N ν n Tr' Q W b p wt 1 (2 + 11 * m0) (fun _ _ => True) (if ok1 then some (tE tI) else none) := by
      refine RBd_go (by omega) (by omega) hT st8_T (fun μ T P hg hG hK _ _ => ?_)
      have hPT := CPr_mono hC hP (Ex_rf hC.1.1 hC.1.2.1) hG.2.2.1.1
      obtain ⟨f1, f2⟩ := CPr_last hLT hC hPT (show 0 < L by omega)
      refine go13 (ν := ν) (by omega) (by omega) hP.2.1.1 hg hG f1 (by omega) (fun μ3 T2 r1 r2 hG3 hf3 hx l1 e1 l2 e2 => ⟨fun _ => ?_, fun z => by omega⟩) (by omega)
      exact st_is (i := 1) (m := m1) (wr := r1) (C0 := fun _ _ => True) (by omega) (by omega) hT rfl rfl rfl stb_T (B2 T2 N ν Q W (b + 1) r1 (CPr_mono hC hP (Ex_tr w2.1 P1.1) hG3.2.2.1.1) (Rmr_part hRr hG3.2.2.1 (by omega)) l1 (by rw [Ex_cT hCa.1.1 P1.1 w3, w4, e1, f2])) (fun z => by subst z; rfl) s2 (by omega) hG3 (Kt_mono hK hf3)
    refine RBd_go (by omega) (by omega) hT st8_T (fun μ T P hg hG hK _ _ => ?_)
    have hPT := CPr_mono hC hP (Ex_rf hC.1.1 hC.1.2.1) hG.2.2.1.1
    obtain ⟨f1, f2⟩ := CPr_last hLT hC hPT (show 0 < L by omega)
    refine go13 (ν := ν) (by omega) (by omega) hP.2.1.1 hg hG f1 (by omega) (fun μ3 T2 r1 r2 hG3 hf3 hx l1 e1 l2 e2 => ⟨fun _ => ?_, fun z => by omega⟩) (by omega)
    exact st_is (i := 0) (m := m0) (wr := r1) (C0 := fun _ _ => True) (by omega) (by omega) hT rfl rfl rfl stb_T (B1 T2 N ν Q W (b + 1) r1 (CPr_mono hC hP w2.1 hG3.2.2.1.1) (Rmr_part hRr hG3.2.2.1 (by omega)) l1 (by rw [w4, e1, f2])) (fun z => absurd z (by simp)) (fun _ => s1) (by omega) hG3 (Kt_mono hK hf3)
end OP5

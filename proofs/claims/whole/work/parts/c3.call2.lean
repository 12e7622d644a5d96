section CL3
variable {X : zm_T} {d d' dc dr L n i j k a b e h hh p u q res m m0 m1 m2 c r c1 r1 s f l wc wr : Nat} {μ μ' μ0 μ1 μs : zm_u} {T T' T1 T0 Tb Tc Tc1 Tc2 Tr' Tr1 Tr2 : tT} {D : Nat → Option Nat} {S S' : Nat → Tr} {V W : List Nat} {N : Nat → Prop} {ν ν' : Nat → Tr} {Q : List (Nat × Nat)} {as : List zm_v} {v x wt : Int32} {t t0 t1 t' : Tr} {ns : List Nat} {x1 x2 : Option Nat} {o : Option Tr} {P : Int32 → zm_u → Prop} {PP : zm_u → Prop} {C C1 : tT → zm_u → Prop} {ok ok0 ok1 ok2 sd : Bool}
theorem GG_Tn (hG : GG L μ0 Tb T Q W b p wt s c C μ) (hf : Tf L μ μ1) (hR : RP μ1 T1) (hn : Rn m T T1) (hc : C1 T1 μ1) : GG L μ0 Tb T1 Q W b p wt s (c + m) C1 μ1 :=
  ⟨Tf_Rz hf hG.1, Tf_RQ hf hR hG.2.1, Rn_tr hG.2.2.1 hn (Nat.le_refl _), Tf_Fz hf hG.2.2.2.1, hc⟩
theorem rb_call (hdr : 16 ≤ dr) (hb : b < 38) (hLT : LT L res T0) (h11 : μ0 22 11 = nI res) (hL : L ≤ Tb.length) (hpre : ∀ i, i < L → Tb[i]? = T0[i]?) (hN : ∀ i a b, T0[i]? = some (4, a, b) → N i ∧ ν i = S i) (hT : TT L μ0 e p u j 9 ns) (hM : ∀ T, Rx Tb T → MO T N ν Q) (hc : c + 7 ≤ 11 * n) (hl : Tb.length + c + 8 ≤ 600) : RBd X dr L μ0 N ν n Tb Q W b p wt 1 c (fun T μ => True ∧ Fo N ν t T μ) ((pj 3 false t).map (fun t0 => tJ T0 (sg T0 t0 S) res)) := by
  refine RBd_go (by omega) (by omega) hT (fun _ _ _ q => ⟨trivial, Fo_38 q.2⟩) (fun μ T P hg hG hK _ _ => go_over (by omega) (by omega) hg ?_)
  generalize (zm_up μ 38 b (nI (1 + 1))) = μ2 at hG hK ⊢
  obtain ⟨r, e28, lr, er⟩ := hG.2.2.2.2.2
  have hw := (RQ_len hG.2.1).2
  have hx := hG.2.2.1.1
  have hT6 : T.length + 8 ≤ 600 := by have := hG.2.2.1.2; omega
  have h29 := hG.2.1.2.2.2.2
  refine zO_at [0, 1, 2, 3, 4] (by omega) rfl (over_in (by omega) (fun y hy => ?_))
  obtain rfl : y = 0 := by rcases hy with hy | hy; exact hy.1; omega
  refine k140_17 (fun _ z => absurd rfl z) (fun _ _ _ => ?_) (fun _ _ z => absurd rfl z) (fun _ _ z => absurd rfl z) (fun z => absurd z zn_10)
  refine k140_87 (by intros; contradiction) (by intros; contradiction) (fun _ _ _ => ?_) (by intros; contradiction) (by intros; contradiction) (by intros; contradiction)
  rw [e28]
  refine ⟨_, m_formExp (by omega) hG.2.1.1 hG.2.1.2.1 (hM T hG.2.2.1.1) lr h29, fun r' μ3 hr => ?_⟩
  rcases hr with ⟨hf, e', rfl, le', ee⟩ | ⟨h1, rfl, μ4, hf, rfl⟩
  · have hG3 := GG_SF (C1 := fun _ _ => True) hG hf trivial
    have hK3 := Kt_mono hK (Tf_FK (Tf_SF (L := L) hf))
    have h29' := hG3.2.1.2.2.2.2
    rw [er] at ee
    rw [ee, pj_E, Option.map_some] at hK3
    refine k140_176 (fun z => absurd h29' z) (fun _ => ⟨_, m_resultAt (tt := tJ T ν e') (ν := ν) (by omega) hLT hG3.2.1.1 hT6 (GG_L hG hL) (fun i hi => (hx.1 i (by omega)).trans (hpre i hi)) (fun i a b hi => (hN i a b hi).1) ((hG3.1.2.2 11 (by decide) (by decide) (by decide) (by decide) (by decide) (by decide) (by decide)).trans h11) le' rfl, fun r' μ5 hr => ?_⟩)
    obtain ⟨T1, r1, rfl, hR5, hn5, hf5, l5, e5⟩ := hr
    have eS : tJ T0 (sg T0 (tJ T ν e') ν) res = tJ T0 (sg T0 (tJ T ν e') S) res := by
      refine tJ_ext hLT.2.2.2.1 hLT.2.2.2.1 (fun _ _ => rfl) (fun i a b hi => ?_) res (by rw [hLT.1]; exact hLT.2.2.1)
      unfold sg
      rw [(hN i a b hi).2]
    refine k140_192 ⟨_, ?_, fun _ z => k140_195 (k140_295 z)⟩
    exact kt_end (by omega) (Kt_mono hK3 (Tf_FK hf5)) (GG_Tn (C1 := fun _ _ => True) hG3 hf5 hR5 hn5 trivial) hc l5 (by rw [e5, eS]) rfl
  · rw [er] at h1
    rw [pj_no h1] at hK
    exact k140_176 (fun _ => k140_195 (k140_295 (kt_no hK hG.1 hf))) (fun z => absurd z up29)
theorem cm62_none (hd : 1 ≤ d) : CM X d μ0 res 62 [.inr 3, .inl v, .inl (-1), .inl x] Tc D V (-1) Tc :=
  fun μ hs hc => zI_at [0, 1, 2, 3] hd rfl (k62_0 (fun _ => ⟨rfl, hc, CK_rf⟩) (fun z => absurd rfl z) (fun z => absurd rfl z))
theorem jb_call (hd : dc + 4 ≤ d) (hdc : 8 ≤ dc) (hdr : 16 ≤ dr) (hLT : LT L res T0) (h11 : μ0 22 11 = nI res) (hJ : Jc X L res T0 μ0 dc dr e) (hT : TT L μ0 e p u n 9 ns) (hC : CPc L T0 Tc D S V h) (hR : Rmc (e + 1) n Tc V h) : JBd X L res T0 μ0 d dr (e + 1) p u n Tc D S V h := by
  obtain ⟨m0, rfl, hsum⟩ := one_part hT (by rw [hT.2.2.2.2.2.1, ar_ne (by omega)]; rfl)
  obtain ⟨he, ⟨Tc1, x0, P1, F1, A1, B1⟩, _⟩ := j_part (j := 0) (m := m0) hJ hT rfl hC hR (by have := hR.1; omega)
  have hC1 := CPc_mono hC P1.1
  have p1 := P1.2
  have hl := hR.1
  have hL24 := hLT.2.1
  obtain ⟨g1, g2⟩ := cArg_m (kk := 3) (sd := false) hC1.1.1 hC1.1.2.2 (FOc_vc F1) (Or.inl ⟨rfl, rfl⟩)
  have cls : ∀ (v : Int32) (Tc' : tT), CM X (d - 1) μ0 res 62 [.inr 3, .inl (nI res), .inl (oc (cArg Tc1 D 3 false x0)), .inl 4] Tc1 D V v Tc' → CM X d μ0 res 53 [.inr 3, .inl (nI (u + n - 1))] Tc D V v Tc' := by
    intro v Tc' hCM
    refine cm_53 (by omega) hT (fun μs μ1 hq => ?_)
    have e5 := hq.2.1.2.2.2.2.2
    refine k53_8 ?_ ?_ ?_ ?_ ?_ ?_ ?_ ?_ ?_ (fun _ _ _ _ _ _ _ _ _ _ => ⟨_, CM_use (cm_findPart (d := d - 1) (by omega) (by omega) hT rfl rfl A1) (Nat.le_refl _) hq, fun r μ2 hr => ?_⟩) ?_ ?_ <;> first | (intros; contradiction) | skip
    obtain ⟨rfl, hq2⟩ := hr
    rw [e5]
    refine k53_169 ⟨_, CM_use (cm_inside (d := d - 1) (by omega) hC1.1.2.2 (FOc_vc F1)) (Nat.le_refl _) hq2, fun r μ3 hr => ?_⟩
    obtain ⟨rfl, hq3⟩ := hr
    refine k53_172 ⟨_, CM_use hCM (Nat.le_refl _) hq3, fun r μ4 hr => k53_176 ?_⟩
    obtain ⟨rfl, hq4⟩ := hr
    exact ⟨rfl, hq4.2⟩
  have ref : ∀ (Tr' : tT) (N : Nat → Prop) (ν : Nat → Tr) (Q : List (Nat × Nat)) (W : List Nat) (b : Nat), CPr L T0 Tc S V Tr' N ν Q W → Rmr (e + 1) n Tr' Q b → ∀ wt : Int32, RBd X dr L μ0 N ν n Tr' Q W b p wt 0 0 (fun _ _ => True) ((x0.map (cT Tc1 S)).bind (fun t => (pj 3 false t).map (fun t0 => tJ T0 (sg T0 t0 S) res))) := by
    intro Tr' N ν Q W b hP hRr wt
    have hb := hRr.2.2
    have hr6 := hRr.1
    refine rb_over0 (by omega) (by omega) (by omega) hT rfl (fun T hx => B1 T N ν Q W (b + 1) (CPr_mono hC hP (Ex_rf hC.1.1 hC.1.2.1) hx.1) (Rmr_part hRr hx (by omega))) (fun z => by rw [z]; rfl) (fun t ht => ?_)
    rw [ht, Option.bind_some]
    exact rb_call (by omega) (by omega) hLT h11 hP.2.1.1 hP.2.1.2.1 hP.2.1.2.2 hT (CPr_MO hC hP) (by omega) (by omega)
  rcases hc : cArg Tc1 D 3 false x0 with _ | c
  · rw [hc] at g2
    refine ⟨Tc1, none, En_le P1 (by omega), FOc_none, cls (-1) _ (by rw [hc]; exact cm62_none (by omega)), fun Tr' N ν Q W b hP hRr wt => ?_⟩
    have e0 : (x0.map (cT Tc1 S)).bind (fun t => (pj 3 false t).map (fun t0 => tJ T0 (sg T0 t0 S) res)) = none := by
      rcases hx : x0.map (cT Tc1 S) with _ | t
      · rfl
      rw [hx, Option.bind_some] at g2
      rw [Option.bind_some, ← g2]
      rfl
    have := ref Tr' N ν Q W b hP hRr wt
    rw [e0] at this
    exact this
  · rw [hc] at g1 g2
    have hcl := g1 c rfl
    obtain ⟨Tc2, j, P2, l2, e2, A2⟩ := c_resultAt (X := X) (μ0 := μ0) (t := cT Tc1 S c) hLT 3 res Tc1 (by omega) hLT.2.2.1 (hLT.2.2.2.2 res hLT.2.2.1) hC1 hcl rfl (by have : nr 3 = 7 := rfl; omega)
    have nr3 : nr 3 = 7 := rfl
    rw [nr3] at P2
    have e0 : (x0.map (cT Tc1 S)).bind (fun t => (pj 3 false t).map (fun t0 => tJ T0 (sg T0 t0 S) res)) = some (cT Tc2 S j) := by
      rcases hx : x0.map (cT Tc1 S) with _ | t
      · rw [hx] at g2; simp at g2
      rw [hx, Option.bind_some] at g2
      rw [Option.bind_some, ← g2, e2]
      rfl
    refine ⟨Tc2, some j, En_tr P1 P2 (by omega), FOc_some l2 ?_, cls (nI j) _ (by rw [hc]; exact fun μ hs hcc => zI_mono (A2 μ hs hcc) (by omega) (fun _ _ q => q)), fun Tr' N ν Q W b hP hRr wt => ?_⟩
    ·
      have h0 := hC.2.2.2 0
      have hp := th_pos (S 0)
      have ht : th (cT Tc1 S c) + 1 ≤ h + 2 * (e - 1) := by
        rcases hx : x0.map (cT Tc1 S) with _ | t
        · rw [hx] at g2; simp at g2
        rw [hx, Option.bind_some] at g2
        have := FOc_th F1 hx
        have := th_pj3 (g2.symm)
        omega
      rw [e2, ← cT_tJ hLT.2.2.2.1 (by rw [hLT.1]; exact hLT.2.2.1)]
      show th (ts (sg T0 (cT Tc1 S c) S) (tJ T0 tA res)) ≤ _
      have h5 := th_ts (S := sg T0 (cT Tc1 S c) S) (m := h + 2 * (e - 1) - 2) (fun n => by
        unfold sg
        split
        · omega
        · have := hC.2.2.2 n; omega) (tJ T0 tA res)
      have := hLT.2.2.2.2 res hLT.2.2.1
      omega
    · have := ref Tr' N ν Q W b hP hRr wt
      rw [e0] at this
      exact this
end CL3

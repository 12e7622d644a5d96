section OP3
variable {X : zm_T} {d d' dc dr L n i j k a b e h hh p u q res m m0 m1 c r c1 r1 s f wr wc : Nat} {μ μ' μ0 μ1 μs : zm_u} {T T' T1 T0 Tb Tc Tc1 Tc2 Tr' Tr1 Tr2 : tT} {D : Nat → Option Nat} {S S' : Nat → Tr} {V W : List Nat} {N : Nat → Prop} {ν ν' : Nat → Tr} {Q : List (Nat × Nat)} {as : List zm_v} {v x wt : Int32} {o o1 : Option Tr} {t t0 t1 t' : Tr} {ns : List Nat} {x1 x2 : Option Nat} {P : Int32 → zm_u → Prop} {PP : zm_u → Prop} {C C1 : tT → zm_u → Prop} {ok ok0 ok1 sd : Bool}
theorem Hd_stb : Stb b (fun T μ => Hd N ν b t T μ) := fun _ _ _ _ hw hx hf h => Hd_st hw hx hf h

theorem GG_39 (hG : GG L μ0 Tb T Q W b p wt s c C μ) (hl : Lv T N r) (ht : tJ T ν r = t) : GG L μ0 Tb T Q W b p wt s c (fun T μ => Hd N ν b t T μ) (zm_up μ 39 b (nI r)) := by
  obtain ⟨g1, g2, g3, g4, g5⟩ := hG.2.2.2.1
  exact ⟨Rz_row hG.1 (by omega), RQ_row hG.2.1 (by omega), hG.2.2.1, ⟨by rw [zm_up_row (by decide)]; exact g1, by rw [zm_up_row (by decide)]; exact g2, by rw [zm_up_row (by decide)]; exact g3, by rw [zm_up_row (by decide)]; exact g4, by rw [zm_up_row (by decide)]; exact g5⟩, r, by rw [zm_up_at, if_pos ⟨rfl, rfl⟩], hl, ht⟩

theorem kt_no {μ4 : zm_u} (hK : Kt X dr L μ0 N ν n Tb Q W b wt none P μ) (hz : Rz L μ0 μ) (hf : SF μ μ4) : HC X dr P (zm_up μ4 22 29 1) :=
  hK.1 rfl _ (FK_tr (Tf_FK (Tf_SF (L := L) hf)) FK_22) (Rz_22 (Tf_Rz (Tf_SF hf) hz) (by omega)) (by rw [zm_up_at, if_pos ⟨rfl, rfl⟩])
theorem up29 : ¬ (zm_up μ 22 29 1) 22 29 = 0 := by rw [zm_up_at, if_pos ⟨rfl, rfl⟩]; exact zn_10
theorem GG_L (hG : GG L μ0 Tb T Q W b p wt s c C μ) (hL : L ≤ Tb.length) : L ≤ T.length := by have := hG.2.2.1.1.2.1; omega

theorem rb_both2 (hdr : 14 ≤ dr) (hb : b < 38) (hL : L ≤ Tb.length) (hT : TT L μ0 e p u j 6 ns) (hc : c + 1 ≤ 11 * n) (hl : Tb.length + c < 600) : RBd X dr L μ0 N ν n Tb Q W b p wt 2 c (fun T μ => Hd N ν b t0 T μ ∧ Fo N ν t1 T μ) (some (tP t0 t1)) := by
  refine RBd_go (by omega) (by omega) hT (fun _ _ _ q => ⟨Hd_38 q.1, Fo_38 q.2⟩) (fun μ T P hg hG hK _ _ => go_over (by omega) (by omega) hg ?_)
  generalize (zm_up μ 38 b (nI (2 + 1))) = μ2 at hG hK ⊢
  obtain ⟨⟨r0, e39, l0, q0⟩, ⟨r1, e28, l1, q1⟩⟩ := hG.2.2.2.2
  have hw := (RQ_len hG.2.1).2
  have hT6 : T.length < 600 := by have := hG.2.2.1.2; omega
  have l01 := l0.1
  have l11 := l1.1
  refine zO_at [0, 1, 2, 3, 4] (by omega) rfl (over_in (by omega) (fun y hy => ?_))
  refine k140_17 (fun _ _ => ?_) (fun _ z => absurd z (by decide)) (fun _ z => absurd z (by decide)) (fun _ z => absurd z (by decide)) (fun z => absurd z (by decide))
  refine k140_87 (by intros; contradiction) (by intros; contradiction) (by intros; contradiction) (by intros; contradiction) (fun _ => by rw [nI_t (by omega)]; omega) (fun _ => ?_)
  rw [nI_c (by omega), e39, e28]
  obtain ⟨y1, y2, y3⟩ := r_pair (ν := ν) hw hT6 l0 l1
  refine ⟨_, m_typeOf (kk := 2) (aa := r0) (bb := r1) (by omega) hG.2.1.1 (GG_L hG hL) hT6 (by omega) (Or.inl ⟨rfl, l01, l11⟩) (by omega) (by omega), fun r' μ3 hr => ?_⟩
  obtain ⟨rfl, hR3, hf⟩ := hr
  refine k140_109 ⟨_, ?_, fun _ z => k140_112 (k140_295 z)⟩
  exact kt_end (by omega) (Kt_mono hK (Tf_FK hf)) (GG_Tf (C1 := fun _ _ => True) hG hf hR3 y1 trivial) hc y2 (by rw [y3, q0, q1]) rfl
theorem rb_both1 (hdr : 14 ≤ dr) (hb : b < 38) (hL : L ≤ Tb.length) (hT : TT L μ0 e p u j 6 [m0, m1]) (hc : 11 * m0 + 11 * m1 + 1 ≤ 11 * n) (hl : Tb.length + 11 * m0 + 11 * m1 < 600)
    (hRF : ∀ T, Rn (11 * m0) Tb T → RFd X dr L μ0 N ν m1 T Q W (b + 1) (p + 1 + m0) o1) : RBd X dr L μ0 N ν n Tb Q W b p wt 1 (11 * m0) (fun T μ => True ∧ Fo N ν t0 T μ) (o1.map (tP t0)) := by
  refine RBd_go (by omega) (by omega) hT (fun _ _ _ q => ⟨trivial, Fo_38 q.2⟩) (fun μ T P hg hG hK _ _ => go_over (by omega) (by omega) hg ?_)
  generalize (zm_up μ 38 b (nI (1 + 1))) = μ2 at hG hK ⊢
  obtain ⟨r0, e28, l0, q0⟩ := hG.2.2.2.2.2
  have h29 := hG.2.1.2.2.2.2
  refine zO_at [0, 1, 2, 3, 4] (by omega) rfl (over_in (by omega) (fun y hy => ?_))
  obtain rfl : y = 1 := by rcases hy with hy | hy; omega; exact hy.1
  refine k140_17 (fun _ z => absurd rfl z) (fun _ _ z => absurd z zn_10) (fun _ _ _ _ => ?_) (fun _ _ _ z => absurd z (by decide)) (fun z => absurd z (by decide))
  rw [e28]
  refine k140_70 (by rw [nI_t (by omega)]; omega) (fun z => absurd h29 z) (fun _ => ?_)
  rw [nI_c (by omega)]
  refine ⟨_, st_find (i := 1) (m := m1) (c1 := 11 * m0 + 11 * m1) (by omega) (by omega) hT rfl rfl Hd_stb (by simpa using hRF T hG.2.2.1) (fun z => by rw [z]; rfl) (fun t1 h1 => ?_) (by omega) (GG_39 (ν := ν) hG l0 q0) (Kt_mono hK (FK_row (Nat.le_refl _))), fun _ z => k140_84 (k140_295 z)⟩
  rw [h1]
  exact rb_both2 (by omega) (by omega) hL hT (by omega) (by omega)
theorem jb_both (hd : dc + 3 ≤ d) (hdc : 6 ≤ dc) (hdr : 14 ≤ dr) (hJ : Jc X L res T0 μ0 dc dr e) (hT : TT L μ0 e p u n 6 ns) (hC : CPc L T0 Tc D S V h) (hR : Rmc (e + 1) n Tc V h) : JBd X L res T0 μ0 d dr (e + 1) p u n Tc D S V h := by
  obtain ⟨m0, m1, rfl, hsum⟩ := two_parts hT (by rw [hT.2.2.2.2.2.1, ar_ne (by omega)]; rfl)
  obtain ⟨he, ⟨Tc1, x0, P1, F1, A1, B1⟩, _⟩ := j_part (j := 0) (m := m0) hJ hT rfl hC hR (by have := hR.1; omega)
  have hC1 := CPc_mono hC P1.1
  have p1 := P1.2
  obtain ⟨_, ⟨Tc2, x1, P2, F2, A2, B2⟩, _⟩ := j_part (j := 1) (m := m1) hJ hT rfl hC1 hR (by have := hR.1; omega)
  have hC2 := CPc_mono hC1 P2.1
  have p2 := P2.2
  have hl := hR.1
  have v0 : vc Tc2 x0 := Ex_vc P2.1 (FOc_vc F1)
  obtain ⟨g1, g2, g3⟩ := cPair_m (S := S) hC2.1.1 hC2.1.2.1 (show Tc2.length < 466 by omega) v0 (FOc_vc F2)
  refine ⟨(cPair Tc2 x0 x1).1, (cPair Tc2 x0 x1).2, En_tr (En_tr P1 P2 (Nat.le_refl _)) g1 (by omega), FOc_of g2 (fun t ht => ?_), cm_53 (by omega) hT (fun μs μ1 hq => ?_), fun Tr' N ν Q W b hP hRr wt => ?_⟩
  · rw [g3, Ex_map hC1.1.1 P2.1 (FOc_vc F1)] at ht
    rcases hx : x0.map (cT Tc1 S) with _ | t0
    · rw [hx] at ht; simp [o2] at ht
    rcases hy : x1.map (cT Tc2 S) with _ | t1
    · rw [hx, hy] at ht; simp [o2] at ht
    rw [hx, hy] at ht
    simp only [o2, Option.some.injEq] at ht
    subst ht
    have := FOc_th F1 hx
    have := FOc_th F2 hy
    rw [th_P]
    omega
  · refine k53_8 ?_ ?_ ?_ ?_ ?_ ?_ (fun _ _ _ _ _ _ _ => ⟨_, CM_use (cm_findPart (d := d - 1) (by omega) (by omega) hT rfl rfl A1) (Nat.le_refl _) hq, fun r μ2 hr => ?_⟩) ?_ ?_ ?_ ?_ ?_ <;> first | (intros; contradiction) | skip
    obtain ⟨rfl, hq2⟩ := hr
    refine k53_125 ⟨_, CM_use (cm_findPart (d := d - 1) (by omega) (by omega) hT rfl rfl A2) (Nat.le_refl _) hq2, fun r μ3 hr => ?_⟩
    obtain ⟨rfl, hq3⟩ := hr
    refine k53_131 ⟨_, CM_use (cm_pair (d := d - 1) (by omega) (by omega) v0 (FOc_vc F2)) (Nat.le_refl _) hq3, fun r μ4 hr => k53_134 ?_⟩
    obtain ⟨rfl, hq4⟩ := hr
    exact ⟨rfl, hq4.2⟩
  · have hb := hRr.2.2
    have hr6 := hRr.1
    rw [g3, Ex_map hC1.1.1 P2.1 (FOc_vc F1)]
    refine rb_over0 (by omega) (by omega) (by omega) hT rfl (fun T hx => B1 T N ν Q W (b + 1) (CPr_mono hC hP (Ex_rf hC.1.1 hC.1.2.1) hx.1) (Rmr_part hRr hx (by omega))) (fun z => by rw [z]; rfl) (fun t ht => ?_)
    rw [ht]
    have e2 : o2 tP (some t) (x1.map (cT Tc2 S)) = (x1.map (cT Tc2 S)).map (tP t) := by cases x1 <;> rfl
    rw [e2]
    refine rb_both1 (by omega) (by omega) hP.2.1.1 hT (by omega) (by omega) (fun T hx => ?_)
    have := B2 T N ν Q W (b + 1) (CPr_mono hC hP P1.1 hx.1) (Rmr_part hRr hx (by omega))
    simpa using this

theorem rb_left (hdr : 16 ≤ dr) (hb : b < 38) (hL : L ≤ Tb.length) (hT : TT L μ0 e p u j 16 ns) (hM : ∀ T, Rx Tb T → MO T N ν Q) (hc : c + 1 ≤ 11 * n) (hl : Tb.length + c < 600) : RBd X dr L μ0 N ν n Tb Q W b p wt 1 c (fun T μ => True ∧ Fo N ν t T μ) (((pj 3 false t).bind (pj 2 false)).map tE) := by
  refine RBd_go (by omega) (by omega) hT (fun _ _ _ q => ⟨trivial, Fo_38 q.2⟩) (fun μ T P hg hG hK _ _ => go_over (by omega) (by omega) hg ?_)
  generalize (zm_up μ 38 b (nI (1 + 1))) = μ2 at hG hK ⊢
  obtain ⟨r, e28, lr, er⟩ := hG.2.2.2.2.2
  have hw := (RQ_len hG.2.1).2
  have hT6 : T.length < 600 := by have := hG.2.2.1.2; omega
  have h29 := hG.2.1.2.2.2.2
  refine zO_at [0, 1, 2, 3, 4] (by omega) rfl (over_in (by omega) (fun y hy => ?_))
  obtain rfl : y = 0 := by rcases hy with hy | hy; exact hy.1; omega
  refine k140_17 (fun _ z => absurd rfl z) (fun _ _ _ => ?_) (fun _ _ z => absurd rfl z) (fun _ _ z => absurd rfl z) (fun z => absurd z zn_10)
  refine k140_87 (by intros; contradiction) (fun _ _ _ _ => ?_) (by intros; contradiction) (by intros; contradiction) (by intros; contradiction) (by intros; contradiction)
  rw [e28]
  refine ⟨_, m_formExp (by omega) hG.2.1.1 hG.2.1.2.1 (hM T hG.2.2.1.1) lr h29, fun r' μ3 hr => k140_212 ?_⟩
  rcases hr with ⟨hf, e', rfl, le', ee⟩ | ⟨h1, rfl, μ4, hf, rfl⟩
  · have hG3 := GG_SF (C1 := fun _ _ => True) hG hf trivial
    have hK3 := Kt_mono hK (Tf_FK (Tf_SF (L := L) hf))
    have h29' := hG3.2.1.2.2.2.2
    rw [er] at ee
    rw [ee, pj_E, Option.bind_some] at hK3
    refine k140_219 (fun _ => ⟨_, m_form (k := 2) (by omega) hG3.2.1.1 hG3.2.1.2.1 (hM T hG.2.2.1.1) le' (Or.inl rfl), fun r' μ5 hr => ?_⟩) (fun z => absurd h29' z)
    rcases hr with ⟨h1, hf2, p', rfl, lp, kp, ep⟩ | ⟨h1, rfl, μ6, hf2, rfl⟩
    · have lp1 := lp.1
      have hG5 := GG_SF (C1 := fun _ _ => True) hG3 hf2 trivial
      have hK5 := Kt_mono hK3 (Tf_FK (Tf_SF (L := L) hf2))
      have e29 := hG5.2.1.2.2.2.2
      obtain ⟨p23, p24, p25⟩ := hG5.2.1.1.2.2.2 p' lp1
      have cp : (nI p').toNatClampNeg = p' := nI_c (by omega)
      have ap := at_kd lp1
      rw [kp] at ap
      have et : tJ T ν e' = tP (tJ T ν (k1 T p')) (tJ T ν (k2 T p')) := by rw [← ep]; exact tJ_2 hw ap
      rw [et, pj_P] at hK5
      obtain ⟨q1, q2⟩ := Lv_2 hw lp kp
      refine k140_239 (fun z => absurd e29 z) (fun _ _ _ => by rw [nI_t (by omega)]; omega) (fun _ _ _ => ?_) (fun _ _ z => absurd z (by decide)) (fun _ _ z => absurd z (by decide)) (fun _ z => absurd z (by decide)) (fun _ z => absurd z (by decide))
      rw [cp]
      obtain ⟨y1, y2, y3⟩ := r_exp (ν := ν) hw hT6 q1
      refine ⟨_, m_exp (by omega) hG5.2.1.1 (GG_L hG hL) hT6 q1.1 p24, fun r' μ7 hr => ?_⟩
      obtain ⟨rfl, hR7, hf7⟩ := hr
      refine k140_292 ⟨_, ?_, fun _ z => k140_295 z⟩
      exact kt_end (by omega) (Kt_mono hK5 (Tf_FK hf7)) (GG_Tf (C1 := fun _ _ => True) hG5 hf7 hR7 y1 trivial) hc y2 y3 rfl
    · rw [pj_no h1] at hK3
      exact k140_239 (fun _ => k140_295 (kt_no hK3 hG3.1 hf2)) (fun z => absurd z up29) (fun z => absurd z up29) (fun z => absurd z up29) (fun z => absurd z up29) (fun z => absurd z up29) (fun z => absurd z up29)
  · rw [er] at h1
    rw [pj_no h1] at hK
    exact k140_219 (fun z => absurd z up29) (fun _ => k140_239 (fun _ => k140_295 (kt_no hK hG.1 hf)) (fun z => absurd z up29) (fun z => absurd z up29) (fun z => absurd z up29) (fun z => absurd z up29) (fun z => absurd z up29) (fun z => absurd z up29))
theorem cm_55 (hd : 4 ≤ d) (hk : 11 ≤ k ∧ k ≤ 17) (hT : TT L μ0 e p u n k ns) (H : ∀ μs μ, CQ μ0 res Tc D V μs μ → zV X (d - 2) 55 8 [(0, .inr 3), (1, .inl (nI (u + n - 1)))] [.inl (nI k)] μ (zpi (fun r' μ' => r' = v ∧ CC μ' Tc1 D V res ∧ CK μs μ'))) : CM X d μ0 res 53 [.inr 3, .inl (nI (u + n - 1))] Tc D V v Tc1 := by
  have e : ∀ l : Nat, l < 11 → ¬ nI k = nI l := fun l hl => by rw [nI_inj (by omega) (by omega)]; omega
  refine cm_53 (by omega) hT (fun μs μ hq => ?_)
  refine k53_8 (fun z => absurd z (e 0 (by omega))) (fun _ z => absurd z (e 1 (by omega))) (fun _ _ z => absurd z (e 2 (by omega))) (fun _ _ _ z => absurd z (e 3 (by omega))) (fun _ _ _ _ z => absurd z (e 4 (by omega))) (fun _ _ _ _ _ z => absurd z (e 5 (by omega))) (fun _ _ _ _ _ _ z => absurd z (e 6 (by omega))) (fun _ _ _ _ _ _ _ z => absurd z (e 7 (by omega))) (fun _ _ _ _ _ _ _ _ z => absurd z (e 8 (by omega))) (fun _ _ _ _ _ _ _ _ _ z => absurd z (e 9 (by omega))) (fun _ _ _ _ _ _ _ _ _ _ z => absurd z (e 10 (by omega))) (fun _ _ _ _ _ _ _ _ _ _ _ => ⟨fun r' μ' => r' = v ∧ CC μ' Tc1 D V res ∧ CK μs μ', zI_at [0, 1] (by omega) rfl (k55_0 ⟨_, CM_use (cm_op (d := d - 2) (by omega) hT) (Nat.le_refl _) hq, fun r μ1 hr => ?_⟩), fun r μ1 hr => k53_219 hr⟩)
  obtain ⟨rfl, hq1⟩ := hr
  exact H μs μ1 hq1
theorem jb_left (hd : dc + 4 ≤ d) (hdc : 6 ≤ dc) (hdr : 16 ≤ dr) (hJ : Jc X L res T0 μ0 dc dr e) (hT : TT L μ0 e p u n 16 ns) (hC : CPc L T0 Tc D S V h) (hR : Rmc (e + 1) n Tc V h) : JBd X L res T0 μ0 d dr (e + 1) p u n Tc D S V h := by
  obtain ⟨m0, rfl, hsum⟩ := one_part hT (by rw [hT.2.2.2.2.2.1, ar_ne (by omega)]; rfl)
  obtain ⟨he, ⟨Tc1, x0, P1, F1, A1, B1⟩, _⟩ := j_part (j := 0) (m := m0) hJ hT rfl hC hR (by have := hR.1; omega)
  have hC1 := CPc_mono hC P1.1
  have p1 := P1.2
  have hl := hR.1
  obtain ⟨g1, g2⟩ := cArg_m (kk := 3) (sd := false) hC1.1.1 hC1.1.2.2 (FOc_vc F1) (Or.inl ⟨rfl, rfl⟩)
  obtain ⟨g3, g4⟩ := cArg_m (kk := 2) (sd := false) hC1.1.1 hC1.1.2.2 g1 (Or.inr rfl)
  obtain ⟨g5, g6, g7⟩ := cExp_m (S := S) hC1.1.1 hC1.1.2.1 (show Tc1.length < 466 by omega) g3
  refine ⟨_, _, En_tr P1 g5 (by omega), FOc_of g6 (fun t ht => ?_), cm_55 (by omega) (by omega) hT (fun μs μ1 hq => ?_), fun Tr' N ν Q W b hP hRr wt => ?_⟩
  · rw [g7, g4, g2] at ht
    rcases hx : x0.map (cT Tc1 S) with _ | t0
    · rw [hx] at ht; simp at ht
    rw [hx, Option.bind_some] at ht
    rcases hy : pj 3 false t0 with _ | t1
    · rw [hy] at ht; simp at ht
    rw [hy, Option.bind_some] at ht
    rcases hz : pj 2 false t1 with _ | t2
    · rw [hz] at ht; simp at ht
    rw [hz] at ht
    simp only [Option.map_some, Option.some.injEq] at ht
    subst ht
    have := FOc_th F1 hx
    have := th_pj3 hy
    have := th_pj2 hz
    rw [th_E]
    omega
  · refine k55_8 ?_ ?_ ?_ ?_ ?_ (fun _ _ _ _ _ _ => ⟨_, CM_use (cm_findPart (d := d - 2) (by omega) (by omega) hT rfl rfl A1) (Nat.le_refl _) hq, fun r μ2 hr => ?_⟩) ?_ <;> first | (intros; contradiction) | skip
    obtain ⟨rfl, hq2⟩ := hr
    refine k55_190 ⟨_, CM_use (cm_inside (d := d - 2) (by omega) hC1.1.2.2 (FOc_vc F1)) (Nat.le_refl _) hq2, fun r μ3 hr => ?_⟩
    obtain ⟨rfl, hq3⟩ := hr
    refine k55_193 ⟨_, CM_use (cm_first (d := d - 2) (by omega) hC1.1.2.2 g1) (Nat.le_refl _) hq3, fun r μ4 hr => ?_⟩
    obtain ⟨rfl, hq4⟩ := hr
    refine k55_196 ⟨_, CM_use (cm_exp (d := d - 2) (by omega) (by omega) g3) (Nat.le_refl _) hq4, fun r μ5 hr => k55_199 ?_⟩
    obtain ⟨rfl, hq5⟩ := hr
    exact ⟨rfl, hq5.2⟩
  · have hb := hRr.2.2
    have hr6 := hRr.1
    rw [g7, g4, g2]
    refine rb_over0 (by omega) (by omega) (by omega) hT rfl (fun T hx => B1 T N ν Q W (b + 1) (CPr_mono hC hP (Ex_rf hC.1.1 hC.1.2.1) hx.1) (Rmr_part hRr hx (by omega))) (fun z => by rw [z]; rfl) (fun t ht => ?_)
    rw [ht, Option.bind_some]
    exact rb_left (by omega) (by omega) hP.2.1.1 hT (CPr_MO hC hP) (by omega) (by omega)
end OP3

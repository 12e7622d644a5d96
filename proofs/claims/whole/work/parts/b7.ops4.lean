section OP4
variable {X : zm_T} {d d' dc dr L n i j k a b e h hh p u q res m m0 m1 m2 c r c1 r1 s f wr wc : Nat} {μ μ' μ0 μ1 μs : zm_u} {T T' T1 T0 Tb Tc Tc1 Tc2 Tr' Tr1 Tr2 : tT} {D : Nat → Option Nat} {S S' : Nat → Tr} {V W : List Nat} {N : Nat → Prop} {ν ν' : Nat → Tr} {Q : List (Nat × Nat)} {as : List zm_v} {v x wt : Int32} {o o1 : Option Tr} {t t0 t1 t' : Tr} {ns : List Nat} {x1 x2 : Option Nat} {P : Int32 → zm_u → Prop} {PP : zm_u → Prop} {C C1 : tT → zm_u → Prop} {ok ok0 ok1 sd : Bool}

theorem rb_duo2 (hdr : 16 ≤ dr) (hb : b < 38) (hL : L ≤ Tb.length) (hT : TT L μ0 e p u j 15 ns) (hM : ∀ T, Rx Tb T → MO T N ν Q) (hc : c + 2 ≤ 11 * n) (hl : Tb.length + c + 1 < 600) : RBd X dr L μ0 N ν n Tb Q W b p wt 2 c (fun T μ => Hd N ν b t0 T μ ∧ Fo N ν t1 T μ) ((pj 3 false t1).map (fun x => tE (tP t0 x))) := by
  refine RBd_go (by omega) (by omega) hT (fun _ _ _ q => ⟨Hd_38 q.1, Fo_38 q.2⟩) (fun μ T P hg hG hK _ _ => go_over (by omega) (by omega) hg ?_)
  generalize (zm_up μ 38 b (nI (2 + 1))) = μ2 at hG hK ⊢
  have hHd := hG.2.2.2.2.1
  obtain ⟨r1, e28, l1, q1⟩ := hG.2.2.2.2.2
  have hw := (RQ_len hG.2.1).2
  have hT6 : T.length < 599 := by have := hG.2.2.1.2; omega
  have h29 := hG.2.1.2.2.2.2
  refine zO_at [0, 1, 2, 3, 4] (by omega) rfl (over_in (by omega) (fun y hy => ?_))
  refine k140_17 (fun _ _ => ?_) (fun _ z => absurd z (by decide)) (fun _ z => absurd z (by decide)) (fun _ z => absurd z (by decide)) (fun z => absurd z (by decide))
  refine k140_87 (by intros; contradiction) (by intros; contradiction) (by intros; contradiction) (fun _ _ => ?_) (by intros; contradiction) (by intros; contradiction)
  rw [e28]
  refine ⟨_, m_formExp (by omega) hG.2.1.1 hG.2.1.2.1 (hM T hG.2.2.1.1) l1 h29, fun r' μ3 hr => ?_⟩
  rcases hr with ⟨hf, e', rfl, le', ee⟩ | ⟨h1, rfl, μ4, hf, rfl⟩
  · obtain ⟨r0, e39, l0, q0⟩ := Hd_Tf (L := L) hw (Rx_rf hw) (Tf_SF hf) hHd
    have hG3 := GG_SF (C1 := fun _ _ => True) hG hf trivial
    have hK3 := Kt_mono hK (Tf_FK (Tf_SF (L := L) hf))
    have h29' := hG3.2.1.2.2.2.2
    rw [q1] at ee
    rw [ee, pj_E, Option.map_some] at hK3
    have l01 := l0.1
    have le1 := le'.1
    refine k140_129 (fun z => absurd h29' z) (fun _ => by rw [nI_t (by omega)]; omega) (fun _ => ?_)
    rw [nI_c (by omega), e39]
    obtain ⟨y1, y2, y3⟩ := r_pair (ν := ν) hw (by omega) l0 le'
    refine ⟨_, m_typeOf (kk := 2) (aa := r0) (bb := e') (by omega) hG3.2.1.1 (GG_L hG hL) (by omega) (by omega) (Or.inl ⟨rfl, l01, le1⟩) (by omega) (by omega), fun r' μ5 hr => ?_⟩
    obtain ⟨rfl, hR5, hf5⟩ := hr
    have hG5 := GG_Tf (C1 := fun _ _ => True) hG3 hf5 hR5 y1 trivial
    have y1l := y1.2
    obtain ⟨z1, z2, z3⟩ := r_exp (ν := ν) y1.1.2.2 (by omega) y2
    refine k140_153 ⟨_, m_exp (by omega) hR5 (GG_L hG5 hL) (by omega) y2.1 rfl, fun r' μ6 hr => ?_⟩
    obtain ⟨rfl, hR6, hf6⟩ := hr
    refine k140_156 ⟨_, ?_, fun _ z => k140_159 (k140_295 z)⟩
    exact kt_end (by omega) (Kt_mono (Kt_mono hK3 (Tf_FK hf5)) (Tf_FK hf6)) (GG_Tf (C1 := fun _ _ => True) hG5 hf6 hR6 z1 trivial) hc z2 (by rw [z3, y3, q0]) rfl
  · rw [q1] at h1
    rw [pj_no h1] at hK
    exact k140_129 (fun _ => k140_159 (k140_295 (kt_no hK hG.1 hf))) (fun z => absurd z up29) (fun z => absurd z up29)
theorem rb_duo1 (hdr : 16 ≤ dr) (hb : b < 38) (hL : L ≤ Tb.length) (hT : TT L μ0 e p u j 15 [m0, m1]) (hM : ∀ T, Rx Tb T → MO T N ν Q) (hc : 11 * m0 + 11 * m1 + 2 ≤ 11 * n) (hl : Tb.length + 11 * m0 + 11 * m1 + 1 < 600)
    (hRF : ∀ T, Rn (11 * m0) Tb T → RFd X dr L μ0 N ν m1 T Q W (b + 1) (p + 1 + m0) o1) : RBd X dr L μ0 N ν n Tb Q W b p wt 1 (11 * m0) (fun T μ => True ∧ Fo N ν t T μ) ((pj 3 false t).bind (fun t0 => o1.bind (fun t1 => (pj 3 false t1).map (fun x => tE (tP t0 x))))) := by
  refine RBd_go (by omega) (by omega) hT (fun _ _ _ q => ⟨trivial, Fo_38 q.2⟩) (fun μ T P hg hG hK _ _ => go_over (by omega) (by omega) hg ?_)
  generalize (zm_up μ 38 b (nI (1 + 1))) = μ2 at hG hK ⊢
  obtain ⟨r, e28, lr, er⟩ := hG.2.2.2.2.2
  have hw := (RQ_len hG.2.1).2
  have h29 := hG.2.1.2.2.2.2
  refine zO_at [0, 1, 2, 3, 4] (by omega) rfl (over_in (by omega) (fun y hy => ?_))
  obtain rfl : y = 1 := by rcases hy with hy | hy; omega; exact hy.1
  refine k140_17 (fun _ z => absurd rfl z) (fun _ _ z => absurd z zn_10) (fun _ _ _ z => absurd rfl z) (fun _ _ _ _ => ?_) (fun z => absurd z (by decide))
  rw [e28]
  have bf : 0 ≤ (nI b).toInt ∧ (nI b).toInt < ((40 : Nat) : Int) := by rw [nI_t (by omega)]; omega
  refine ⟨_, m_formExp (by omega) hG.2.1.1 hG.2.1.2.1 (hM T hG.2.2.1.1) lr h29, fun r' μ3 hr => k140_63 ?_⟩
  rcases hr with ⟨hf, e', rfl, le', ee⟩ | ⟨h1, rfl, μ4, hf, rfl⟩
  · have hG3 := GG_SF (C1 := fun _ _ => True) hG hf trivial
    have hK3 := Kt_mono hK (Tf_FK (Tf_SF (L := L) hf))
    have h29' := hG3.2.1.2.2.2.2
    rw [er] at ee
    rw [ee, pj_E, Option.bind_some] at hK3
    refine k140_70 bf (fun z => absurd h29' z) (fun _ => ?_)
    rw [nI_c (by omega)]
    refine ⟨_, st_find (i := 1) (m := m1) (c1 := 11 * m0 + 11 * m1) (by omega) (by omega) hT rfl rfl Hd_stb (by simpa using hRF T hG.2.2.1) (fun z => by rw [z]; rfl) (fun t1 h1 => ?_) (by omega) (GG_39 (ν := ν) hG3 le' rfl) (Kt_mono hK3 (FK_row (Nat.le_refl _))), fun _ z => k140_84 (k140_295 z)⟩
    rw [h1, Option.bind_some]
    exact rb_duo2 (by omega) (by omega) hL hT hM (by omega) (by omega)
  · rw [er] at h1
    rw [pj_no h1] at hK
    refine k140_70 bf (fun _ => k140_295 ?_) (fun z => absurd z up29)
    rw [nI_c (by omega)]
    refine hK.1 rfl _ (FK_tr (FK_tr (Tf_FK (Tf_SF (L := L) hf)) FK_22) (FK_row (Nat.le_refl _))) (Rz_row (Rz_22 (Tf_Rz (Tf_SF hf) hG.1) (by omega)) (by omega)) ?_
    rw [zm_up_row (by decide), zm_up_at, if_pos ⟨rfl, rfl⟩]
theorem jb_duo (hd : dc + 4 ≤ d) (hdc : 6 ≤ dc) (hdr : 16 ≤ dr) (hJ : Jc X L res T0 μ0 dc dr e) (hT : TT L μ0 e p u n 15 ns) (hC : CPc L T0 Tc D S V h) (hR : Rmc (e + 1) n Tc V h) : JBd X L res T0 μ0 d dr (e + 1) p u n Tc D S V h := by
  obtain ⟨m0, m1, rfl, hsum⟩ := two_parts hT (by rw [hT.2.2.2.2.2.1, ar_ne (by omega)]; rfl)
  obtain ⟨he, ⟨Tc1, x0, P1, F1, A1, B1⟩, _⟩ := j_part (j := 0) (m := m0) hJ hT rfl hC hR (by have := hR.1; omega)
  have hC1 := CPc_mono hC P1.1
  have p1 := P1.2
  obtain ⟨_, ⟨Tc2, x1, P2, F2, A2, B2⟩, _⟩ := j_part (j := 1) (m := m1) hJ hT rfl hC1 hR (by have := hR.1; omega)
  have hC2 := CPc_mono hC1 P2.1
  have p2 := P2.2
  have hl := hR.1
  obtain ⟨g1, g2⟩ := cArg_m (kk := 3) (sd := false) hC1.1.1 hC1.1.2.2 (FOc_vc F1) (Or.inl ⟨rfl, rfl⟩)
  obtain ⟨g3, g4⟩ := cArg_m (kk := 3) (sd := false) hC2.1.1 hC2.1.2.2 (FOc_vc F2) (Or.inl ⟨rfl, rfl⟩)
  have v0 : vc Tc2 (cArg Tc1 D 3 false x0) := Ex_vc P2.1 g1
  have e0 := Ex_map (S := S) hC1.1.1 P2.1 g1
  obtain ⟨g5, g6, g7⟩ := cPair_m (S := S) hC2.1.1 hC2.1.2.1 (show Tc2.length < 466 by omega) v0 g3
  have hC3 := CPc_mono hC2 g5.1
  have p3 := g5.2
  obtain ⟨g8, g9, g10⟩ := cExp_m (S := S) hC3.1.1 hC3.1.2.1 (by omega) g6
  have ev : (cExp (cPair Tc2 (cArg Tc1 D 3 false x0) (cArg Tc2 D 3 false x1)).1 (cPair Tc2 (cArg Tc1 D 3 false x0) (cArg Tc2 D 3 false x1)).2).2.map (cT (cExp (cPair Tc2 (cArg Tc1 D 3 false x0) (cArg Tc2 D 3 false x1)).1 (cPair Tc2 (cArg Tc1 D 3 false x0) (cArg Tc2 D 3 false x1)).2).1 S) = (x0.map (cT Tc1 S)).bind (fun t => (pj 3 false t).bind (fun t0 => (x1.map (cT Tc2 S)).bind (fun t1 => (pj 3 false t1).map (fun x => tE (tP t0 x))))) := by
    rw [g10, g7, e0, g2, g4]
    rcases x0.map (cT Tc1 S) with _ | t
    · rfl
    simp only [Option.bind_some]
    rcases pj 3 false t with _ | t0
    · rfl
    simp only [Option.bind_some]
    rcases x1.map (cT Tc2 S) with _ | t1
    · rfl
    simp only [Option.bind_some]
    rcases pj 3 false t1 with _ | t2 <;> rfl
  refine ⟨_, _, En_tr (En_tr P1 P2 (Nat.le_refl _)) (En_tr g5 g8 (Nat.le_refl _)) (by omega), FOc_of g9 (fun t ht => ?_), cm_55 (by omega) (by omega) hT (fun μs μ1 hq => ?_), fun Tr' N ν Q W b hP hRr wt => ?_⟩
  · rw [ev] at ht
    rcases hx : x0.map (cT Tc1 S) with _ | t0
    · rw [hx] at ht; simp at ht
    rw [hx, Option.bind_some] at ht
    rcases hy : pj 3 false t0 with _ | t1
    · rw [hy] at ht; simp at ht
    rw [hy, Option.bind_some] at ht
    rcases hz : x1.map (cT Tc2 S) with _ | t2
    · rw [hz] at ht; simp at ht
    rw [hz, Option.bind_some] at ht
    rcases hw : pj 3 false t2 with _ | t3
    · rw [hw] at ht; simp at ht
    rw [hw] at ht
    simp only [Option.map_some, Option.some.injEq] at ht
    subst ht
    have := FOc_th F1 hx
    have := FOc_th F2 hz
    have := th_pj3 hy
    have := th_pj3 hw
    rw [th_E, th_P]
    omega
  · refine k55_8 ?_ ?_ ?_ ?_ (fun _ _ _ _ _ => ⟨_, CM_use (cm_findPart (d := d - 2) (by omega) (by omega) hT rfl rfl A1) (Nat.le_refl _) hq, fun r μ2 hr => ?_⟩) ?_ ?_ <;> first | (intros; contradiction) | skip
    obtain ⟨rfl, hq2⟩ := hr
    refine k55_158 ⟨_, CM_use (cm_inside (d := d - 2) (by omega) hC1.1.2.2 (FOc_vc F1)) (Nat.le_refl _) hq2, fun r μ3 hr => ?_⟩
    obtain ⟨rfl, hq3⟩ := hr
    refine k55_161 ⟨_, CM_use (cm_findPart (d := d - 2) (by omega) (by omega) hT rfl rfl A2) (Nat.le_refl _) hq3, fun r μ4 hr => ?_⟩
    obtain ⟨rfl, hq4⟩ := hr
    refine k55_168 ⟨_, CM_use (cm_inside (d := d - 2) (by omega) hC2.1.2.2 (FOc_vc F2)) (Nat.le_refl _) hq4, fun r μ5 hr => ?_⟩
    obtain ⟨rfl, hq5⟩ := hr
    refine k55_171 ⟨_, CM_use (cm_pair (d := d - 2) (by omega) (by omega) v0 g3) (Nat.le_refl _) hq5, fun r μ6 hr => ?_⟩
    obtain ⟨rfl, hq6⟩ := hr
    refine k55_174 ⟨_, CM_use (cm_exp (d := d - 2) (by omega) (by omega) g6) (Nat.le_refl _) hq6, fun r μ7 hr => k55_177 ?_⟩
    obtain ⟨rfl, hq7⟩ := hr
    exact ⟨rfl, hq7.2⟩
  · have hb := hRr.2.2
    have hr6 := hRr.1
    rw [ev]
    refine rb_over0 (by omega) (by omega) (by omega) hT rfl (fun T hx => B1 T N ν Q W (b + 1) (CPr_mono hC hP (Ex_rf hC.1.1 hC.1.2.1) hx.1) (Rmr_part hRr hx (by omega))) (fun z => by rw [z]; rfl) (fun t ht => ?_)
    rw [ht, Option.bind_some]
    refine rb_duo1 (by omega) (by omega) hP.2.1.1 hT (CPr_MO hC hP) (by omega) (by omega) (fun T hx => ?_)
    have := B2 T N ν Q W (b + 1) (CPr_mono hC hP P1.1 hx.1) (Rmr_part hRr hx (by omega))
    simpa using this

theorem jb_as (hd : dc + 3 ≤ d) (hdc : 6 ≤ dc) (hdr : 14 ≤ dr) (hLT : LT L res T0) (hJ : Jc X L res T0 μ0 dc dr e) (hT : TT L μ0 e p u n 10 ns) (hC : CPc L T0 Tc D S V h) (hR : Rmc (e + 1) n Tc V h) : JBd X L res T0 μ0 d dr (e + 1) p u n Tc D S V h := by
  obtain ⟨m0, rfl, hsum⟩ := one_part hT (by rw [hT.2.2.2.2.2.1, ar_ne (by omega)]; rfl)
  obtain ⟨a, ha, ea⟩ := nat_of (l := L) (hT.2.2.2.2.1.2.2.2.2 rfl)
  have hL24 := hLT.2.1
  obtain ⟨l0, _⟩ := CPc_last hLT hC ha
  obtain ⟨he, _, q0⟩ := j_part (j := 0) (m := m0) hJ hT rfl hC hR (by have := hR.1; omega)
  obtain ⟨Tc1, ok, P1, A1, B1⟩ := q0 a l0
  have hC1 := CPc_mono hC P1.1
  obtain ⟨l1, l2, _⟩ := CPc_last hLT hC1 ha
  have harg : ∀ {μ : zm_u}, SA μ0 μ → zI X (d - 1) 33 [.inr 2, .inl (nI (u + n - 1))] μ (fun r μ' => μ' = μ ∧ r = nI a) := fun hs => by
    have := c_argSA (X := X) (d := d - 1) (by omega) hs (q := u + n - 1) (by have := hT.1; omega)
    rw [ea] at this
    exact this
  have e28 : ∀ μ, SA μ0 μ → μ 28 p = nI a := fun μ hs => by rw [hs.2.2.2.2.1, hT.2.2.2.1, ea]
  refine ⟨Tc1, if ok then some a else none, En_le P1 (by omega), ?_, cm_53 (by omega) hT (fun μs μ1 hq => ?_), fun Tr' N ν Q W b hP hRr wt => ?_⟩
  · cases ok with
    | true => exact FOc_some l1 (by omega)
    | false => exact FOc_none
  · refine k53_8 ?_ ?_ ?_ ?_ ?_ ?_ ?_ ?_ ?_ ?_ (fun _ _ _ _ _ _ _ _ _ _ _ => ⟨_, CM_use (cm_part (d := d - 1) (by omega) hT rfl rfl) (Nat.le_refl _) hq, fun r μ2 hr => ?_⟩) ?_ <;> first | (intros; contradiction) | skip
    obtain ⟨rfl, hq2⟩ := hr
    refine k53_187 ⟨_, harg hq2.1, fun r μ3 hr => ?_⟩
    obtain ⟨rfl, rfl⟩ := hr
    refine k53_195 ⟨_, CM_use A1 (by omega) hq2, fun r μ4 hr => ?_⟩
    obtain ⟨rfl, hq4⟩ := hr
    cases ok with
    | true =>
      refine k53_198 (fun z => absurd z zn_10) (fun _ => ⟨_, harg hq4.1, fun r μ5 hr => k53_209 ?_⟩)
      obtain ⟨rfl, rfl⟩ := hr
      exact ⟨rfl, hq4.2⟩
    | false => exact k53_198 (fun _ => ⟨rfl, hq4.2⟩) (fun z => absurd rfl z)
  · have hb := hRr.2.2
    have s1 : ok = true → RBd X dr L μ0 N ν n Tr' Q W b p wt 1 (11 * m0) (fun _ _ => True) (Option.map (cT Tc1 S) (if ok then some a else none)) := by
      intro z
      subst z
      refine RBd_go (by omega) (by omega) hT st8_T (fun μ T P hg hG hK hs _ => go_10 (by omega) hg (fun z => by omega) (fun _ => ?_))
      have hPT := CPr_mono hC hP P1.1 hG.2.2.1.1
      obtain ⟨f1, f2⟩ := CPr_last hLT hC1 hPT ha
      exact kt_end (by omega) hK hG (by omega) f1 f2.symm (e28 μ hs)
    refine RBd_go (by omega) (by omega) hT st8_T (fun μ T P hg hG hK hs _ => go_10 (by omega) hg (fun _ => ?_) (fun z => absurd rfl z))
    have hPT := CPr_mono hC hP (Ex_rf hC.1.1 hC.1.2.1) hG.2.2.1.1
    obtain ⟨f1, f2⟩ := CPr_last hLT hC hPT ha
    exact st_is (i := 0) (m := m0) (wr := a) (C0 := fun _ _ => True) (c1 := 11 * m0) (by omega) (by omega) hT rfl rfl (e28 μ hs) stb_T (B1 T N ν Q W (b + 1) a hPT (Rmr_part hRr hG.2.2.1 (by omega)) f1 f2) (fun z => by subst z; rfl) s1 (by omega) hG hK

theorem jb_lit (hd : dc + 4 ≤ d) (hdc : 6 ≤ dc) (hdr : 14 ≤ dr) (hLT : LT L res T0) (hJ : Jc X L res T0 μ0 dc dr e) (hT : TT L μ0 e p u n k ns) (hk : k = 11 ∨ k = 12) (hC : CPc L T0 Tc D S V h) (hR : Rmc (e + 1) n Tc V h) : JBd X L res T0 μ0 d dr (e + 1) p u n Tc D S V h := by
  obtain ⟨m0, rfl, hsum⟩ := one_part hT (by rw [hT.2.2.2.2.2.1, ar_ne (by omega)]; rcases hk with rfl | rfl <;> rfl)
  have hL2 := LT_2 hLT
  obtain ⟨l0, _⟩ := CPc_last hLT hC (show k - 11 < L by omega)
  obtain ⟨he, _, q0⟩ := j_part (j := 0) (m := m0) hJ hT rfl hC hR (by have := hR.1; omega)
  obtain ⟨Tc1, ok, P1, A1, B1⟩ := q0 (k - 11) l0
  have hC1 := CPc_mono hC P1.1
  have p1 := P1.2
  have hl := hR.1
  obtain ⟨l1, l2, l3⟩ := CPc_last hLT hC1 (show k - 11 < L by omega)
  have v1 : vc Tc1 (some (k - 11)) := fun i hi => by simp at hi; omega
  obtain ⟨g1, g2, g3⟩ := cExp_m (S := S) hC1.1.1 hC1.1.2.1 (show Tc1.length < 466 by omega) v1
  have h2 : th (cT Tc1 S (k - 11)) = 1 := by
    rw [l3]
    rcases hk with rfl | rfl
    · rw [show 11 - 11 = 0 from rfl, tJ_0 hLT.2.2.2.1.1.1]; rfl
    · rw [show 12 - 11 = 1 from rfl, tJ_1 hLT.2.2.2.1.1.2]; rfl
  have h4 : 4 ≤ h := by have := hC.2.2.2 0; have := th_pos (S 0); omega
  have go : ∀ {s b : Nat} {μ : zm_u} {P : zm_u → Prop}, GF μ b p s k → (s = 0 → zO X (dr - 1) 127 [.inr 22, .inl (nI p), .inl 0, .inl (nI (k - 11))] (zm_up μ 38 b (nI (s + 1))) P) → (s ≠ 0 → ∃ G : Int32 → zm_u → Prop, zI X (dr - 1) 102 [.inr 22, .inl (nI (k - 11))] (zm_up μ 38 b (nI (s + 1))) G ∧ ∀ r μ1, G r μ1 → zO X (dr - 1) 126 [.inr 22, .inl r] μ1 P) → zO X dr 136 [.inr 22] μ P := by
    intro s b μ P hg y1 y2
    rcases hk with rfl | rfl
    · exact go_11 (by omega) hg y1 y2
    · exact go_12 (by omega) hg y1 y2
  refine ⟨if ok then (cExp Tc1 (some (k - 11))).1 else Tc1, if ok then (cExp Tc1 (some (k - 11))).2 else none, ?_, ?_, cm_55 (by omega) (by omega) hT (fun μs μ1 hq => ?_), fun Tr' N ν Q W b hP hRr wt => ?_⟩
  · cases ok with
    | true => exact En_tr P1 g1 (by omega)
    | false => exact En_le P1 (by omega)
  · cases ok with
    | true =>
      refine FOc_of g2 (fun t ht => ?_)
      have ht2 : (cExp Tc1 (some (k - 11))).2.map (cT (cExp Tc1 (some (k - 11))).1 S) = some t := ht
      rw [g3] at ht2
      simp only [Option.map_some, Option.some.injEq] at ht2
      rw [← ht2, th_E]
      omega
    | false => exact FOc_none
  · have part := CM_use (cm_part (X := X) (res := res) (Tc := Tc) (D := D) (V := V) (d := d - 2) (j := 0) (m := m0) (by omega) hT rfl rfl) (Nat.le_refl _) hq
    rcases hk with rfl | rfl
    · refine k55_8 (fun _ => ⟨_, part, fun r μ2 hr => ?_⟩) ?_ ?_ ?_ ?_ ?_ ?_ <;> first | (intros; contradiction) | skip
      obtain ⟨rfl, hq2⟩ := hr
      refine k55_58 ⟨_, CM_use A1 (by omega) hq2, fun r μ4 hr => ?_⟩
      obtain ⟨rfl, hq4⟩ := hr
      cases ok with
      | true =>
        refine k55_62 (fun z => absurd z zn_10) (fun _ => ⟨_, CM_use (cm_exp (d := d - 2) (by omega) (by omega) v1) (Nat.le_refl _) hq4, fun r μ5 hr => k55_73 ?_⟩)
        obtain ⟨rfl, hq5⟩ := hr
        exact ⟨rfl, hq5.2⟩
      | false => exact k55_62 (fun _ => ⟨rfl, hq4.2⟩) (fun z => absurd rfl z)
    · refine k55_8 ?_ (fun _ _ => ⟨_, part, fun r μ2 hr => ?_⟩) ?_ ?_ ?_ ?_ ?_ <;> first | (intros; contradiction) | skip
      obtain ⟨rfl, hq2⟩ := hr
      refine k55_88 ⟨_, CM_use A1 (by omega) hq2, fun r μ4 hr => ?_⟩
      obtain ⟨rfl, hq4⟩ := hr
      cases ok with
      | true =>
        refine k55_92 (fun z => absurd z zn_10) (fun _ => ⟨_, CM_use (cm_exp (d := d - 2) (by omega) (by omega) v1) (Nat.le_refl _) hq4, fun r μ5 hr => k55_103 ?_⟩)
        obtain ⟨rfl, hq5⟩ := hr
        exact ⟨rfl, hq5.2⟩
      | false => exact k55_92 (fun _ => ⟨rfl, hq4.2⟩) (fun z => absurd rfl z)
  · have hb := hRr.2.2
    have hr6 := hRr.1
    have s1 : ok = true → RBd X dr L μ0 N ν n Tr' Q W b p wt 1 (11 * m0) (fun _ _ => True) (Option.map (cT (if ok then (cExp Tc1 (some (k - 11))).1 else Tc1) S) (if ok then (cExp Tc1 (some (k - 11))).2 else none)) := by
      intro z
      subst z
      have g3' : Option.map (cT (if true = true then (cExp Tc1 (some (k - 11))).1 else Tc1) S) (if true = true then (cExp Tc1 (some (k - 11))).2 else none) = some (tE (cT Tc1 S (k - 11))) := g3
      rw [g3']
      refine RBd_go (by omega) (by omega) hT st8_T (fun μ T P hg hG hK hs _ => go hg (fun z => by omega) (fun _ => ?_))
      generalize (zm_up μ 38 b (nI (1 + 1))) = μ2 at hG hK ⊢
      have hPT := CPr_mono hC hP P1.1 hG.2.2.1.1
      obtain ⟨f1, f2⟩ := CPr_last hLT hC1 hPT (show k - 11 < L by omega)
      have hT6 : T.length < 600 := by have := hG.2.2.1.2; omega
      obtain ⟨y1, y2, y3⟩ := r_exp (ν := ν) (RQ_len hG.2.1).2 hT6 f1
      refine ⟨_, m_exp (by omega) hG.2.1.1 (GG_L hG hP.2.1.1) hT6 f1.1 rfl, fun r' μ3 hr => ?_⟩
      obtain ⟨rfl, hR3, hf⟩ := hr
      exact kt_end (by omega) (Kt_mono hK (Tf_FK hf)) (GG_Tf (C1 := fun _ _ => True) hG hf hR3 y1 trivial) (by omega) y2 (by rw [y3, f2]) rfl
    refine RBd_go (by omega) (by omega) hT st8_T (fun μ T P hg hG hK hs _ => go hg (fun _ => ?_) (fun z => absurd rfl z))
    have hPT := CPr_mono hC hP (Ex_rf hC.1.1 hC.1.2.1) hG.2.2.1.1
    obtain ⟨f1, f2⟩ := CPr_last hLT hC hPT (show k - 11 < L by omega)
    exact st_is (i := 0) (m := m0) (wr := k - 11) (C0 := fun _ _ => True) (c1 := 11 * m0) (by omega) (by omega) hT rfl rfl rfl stb_T (B1 T N ν Q W (b + 1) (k - 11) hPT (Rmr_part hRr hG.2.2.1 (by omega)) f1 f2) (fun z => by subst z; rfl) s1 (by omega) hG hK
end OP4

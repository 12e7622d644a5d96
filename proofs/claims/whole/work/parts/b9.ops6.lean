section OP6
variable {X : zm_T} {d d' dc dr L n i j k a b e h hh p u q res m m0 m1 m2 c r c1 r1 s f wr wc : Nat} {μ μ' μ0 μ1 μs : zm_u} {T T' T1 T0 Tb Tc Tc1 Tc2 Tr' Tr1 Tr2 : tT} {D : Nat → Option Nat} {S S' : Nat → Tr} {V W : List Nat} {N : Nat → Prop} {ν ν' : Nat → Tr} {Q : List (Nat × Nat)} {as : List zm_v} {v x wt : Int32} {o o1 : Option Tr} {t t0 t1 t' : Tr} {ns : List Nat} {x1 x2 : Option Nat} {P : Int32 → zm_u → Prop} {PP : zm_u → Prop} {C C1 : tT → zm_u → Prop} {ok ok0 ok1 ok2 sd : Bool}

theorem st_wrong {x y : Int32} (hd : 6 ≤ d) (hb : b < 38) (h : TT L μ0 e p u j k ns) (hi : ns[i]? = some m) (hx : x = nI i) (hz : Rz L μ0 μ) (h27 : μ 22 27 = nI (b + 1)) (h29 : μ 22 29 = 1) (hK : Kt X dr L μ0 N ν n Tb Q W b wt none P μ) : zO X d 127 [.inr 22, .inl (nI p), .inl x, .inl y] μ (HC X dr P) := by
  subst hx
  have hs := Rz_SA hz
  have hil := (List.getElem?_eq_some_iff.mp hi).1
  have hak : ns.length ≤ 9 := by rw [h.2.2.2.2.2.1]; exact ar_le _ _
  refine zO_at [0, 1, 2, 3] (by omega) rfl (k127_0 ⟨_, m_part (m := 0) (L := L) (e := e) (u := u) (by omega) h.1.2.2.2 (by have := h.1; have := h.2.2.2.2.2.2.1; omega) (by omega) (Tl_SA hs h.2.2.2.2.2.2.2) (by omega), fun r μ1 hr => ?_⟩)
  obtain ⟨rfl, rfl⟩ := hr
  refine k127_7 ⟨_, m_begin (by omega) h27 (by omega) rfl, fun μ2 hr => k127_11 ?_⟩
  subst hr
  exact hK.1 rfl _ (FK_le bgn_FK (by omega)) (bgn_Rz hz) (by rw [bgn_22 (by decide)]; exact h29)

theorem rb_when3 (hdr : 14 ≤ dr) (hb : b < 38) (hL : L ≤ Tb.length) (hT : TT L μ0 e p u j 14 ns) (hc : c + 1 ≤ 11 * n) (hl : Tb.length + c < 600) : RBd X dr L μ0 N ν n Tb Q W b p wt 3 c (fun T μ => Hd N ν b t0 T μ) (some (tE t0)) := by
  refine RBd_go (by omega) (by omega) hT (fun _ _ _ q => Hd_38 q) (fun μ T P hg hG hK _ _ => go_14 (by omega) hg ?_)
  generalize (zm_up μ 38 b (nI (3 + 1))) = μ2 at hG hK ⊢
  obtain ⟨r0, e39, l0, q0⟩ := hG.2.2.2.2
  have hw := (RQ_len hG.2.1).2
  have hT6 : T.length < 600 := by have := hG.2.2.1.2; omega
  have bf : 0 ≤ (nI b).toInt ∧ (nI b).toInt < ((40 : Nat) : Int) := by rw [nI_t (by omega)]; omega
  obtain ⟨y1, y2, y3⟩ := r_exp (ν := ν) hw hT6 l0
  refine zO_at [0, 1, 2, 3] (by omega) rfl (k138_0 (fun _ _ _ => bf) (fun _ _ _ => ?_) (fun _ _ z => absurd z (by decide)) (fun _ _ z => absurd z (by decide)) (fun _ z => absurd z (by decide)) (fun z => absurd z (by decide)))
  rw [nI_c (by omega)]
  refine ⟨_, m_exp (by omega) hG.2.1.1 (GG_L hG hL) hT6 l0.1 e39, fun r' μ3 hr => ?_⟩
  obtain ⟨rfl, hR3, hf⟩ := hr
  refine k138_81 ⟨_, ?_, fun _ z => k138_84 z⟩
  exact kt_end (by omega) (Kt_mono hK (Tf_FK hf)) (GG_Tf (C1 := fun _ _ => True) hG hf hR3 y1 trivial) hc y2 (by rw [y3, q0]) rfl
theorem rb_when2 (hdr : 14 ≤ dr) (hb : b < 38) (hL : L ≤ Tb.length) (hT : TT L μ0 e p u j 14 [m0, m1, m2]) (hc : c + 1 + 11 * m2 + 1 ≤ 11 * n) (hl : Tb.length + c + 1 + 11 * m2 < 600)
    (hRI : ∀ T wr, Rn (c + 1) Tb T → Lv T N wr → tJ T ν wr = tE t0 → RIs X dr L μ0 m2 T Q W (b + 1) (p + 1 + (m0 + m1)) wr ok2) : RBd X dr L μ0 N ν n Tb Q W b p wt 2 c (fun T μ => Hd N ν b t0 T μ) (if ok2 then some (tE t0) else none) := by
  refine RBd_go (by omega) (by omega) hT (fun _ _ _ q => Hd_38 q) (fun μ T P hg hG hK _ _ => go_14 (by omega) hg ?_)
  generalize (zm_up μ 38 b (nI (2 + 1))) = μ2 at hG hK ⊢
  have hHd := hG.2.2.2.2
  obtain ⟨r0, e39, l0, q0⟩ := hG.2.2.2.2
  have hw := (RQ_len hG.2.1).2
  have hT6 : T.length < 600 := by have := hG.2.2.1.2; omega
  have bf : 0 ≤ (nI b).toInt ∧ (nI b).toInt < ((40 : Nat) : Int) := by rw [nI_t (by omega)]; omega
  obtain ⟨y1, y2, y3⟩ := r_exp (ν := ν) hw hT6 l0
  refine zO_at [0, 1, 2, 3] (by omega) rfl (k138_0 (fun _ _ z => absurd rfl z) (fun _ _ z => absurd rfl z) (fun _ _ _ => bf) (fun _ _ _ => ?_) (fun _ z => absurd z (by decide)) (fun z => absurd z (by decide)))
  rw [nI_c (by omega)]
  refine ⟨_, m_exp (by omega) hG.2.1.1 (GG_L hG hL) hT6 l0.1 e39, fun r' μ3 hr => ?_⟩
  obtain ⟨rfl, hR3, hf⟩ := hr
  have hG3 := GG_Tf (C1 := fun T μ => Hd N ν b t0 T μ) hG hf hR3 y1 (Hd_Tf hw y1.1 hf hHd)
  refine k138_64 ⟨_, ?_, fun _ z => k138_67 (k138_84 z)⟩
  refine st_is (i := 2) (m := m2) (c1 := c + 1 + 11 * m2) (by omega) (by omega) hT rfl rfl rfl Hd_stb (by simpa using hRI _ _ hG3.2.2.1 y2 (by rw [y3, q0])) (fun z => by subst z; rfl) (fun z => ?_) (by omega) hG3 (Kt_mono hK (Tf_FK hf))
  subst z
  exact rb_when3 (by omega) (by omega) hL hT (by omega) (by omega)
theorem rb_when1 (hdr : 16 ≤ dr) (hb : b < 38) (hL : L ≤ Tb.length) (hT : TT L μ0 e p u j 14 [m0, m1, m2]) (hM : ∀ T, Rx Tb T → MO T N ν Q) (hl1 : ∀ T, Rx Tb T → Lv T N 1) (hc : 11 * m1 + 1 + 11 * m0 + 1 + 11 * m2 + 1 ≤ 11 * n) (hl : Tb.length + 11 * m1 + 1 + 11 * m0 + 1 + 11 * m2 < 600)
    (hRI0 : ∀ t0, pj 3 false t = some t0 → ∀ T wr, Rn (11 * m1 + 1) Tb T → Lv T N wr → tJ T ν wr = tE (tJ T ν 1) → RIs X dr L μ0 m0 T Q W (b + 1) (p + 1) wr ok0)
    (hRI : ok0 = true → ∀ t0, pj 3 false t = some t0 → ∀ T wr, Rn (11 * m1 + 1 + 11 * m0 + 1) Tb T → Lv T N wr → tJ T ν wr = tE t0 → RIs X dr L μ0 m2 T Q W (b + 1) (p + 1 + (m0 + m1)) wr ok2) : RBd X dr L μ0 N ν n Tb Q W b p wt 1 (11 * m1) (fun T μ => True ∧ Fo N ν t T μ) ((pj 3 false t).bind (fun t0 => if ok0 && ok2 then some (tE t0) else none)) := by
  refine RBd_go (by omega) (by omega) hT (fun _ _ _ q => ⟨trivial, Fo_38 q.2⟩) (fun μ T P hg hG hK _ _ => go_14 (by omega) hg ?_)
  generalize (zm_up μ 38 b (nI (1 + 1))) = μ2 at hG hK ⊢
  obtain ⟨r, e28, lr, er⟩ := hG.2.2.2.2.2
  have hw := (RQ_len hG.2.1).2
  have hT6 : T.length < 600 := by have := hG.2.2.1.2; omega
  have h29 := hG.2.1.2.2.2.2
  have h27 := hG.2.1.2.2.2.1
  have bf : 0 ≤ (nI b).toInt ∧ (nI b).toInt < ((40 : Nat) : Int) := by rw [nI_t (by omega)]; omega
  have l1 := hl1 T hG.2.2.1.1
  refine zO_at [0, 1, 2, 3] (by omega) rfl (k138_0 (fun _ z => absurd rfl z) (fun _ z => absurd rfl z) (fun _ z => absurd rfl z) (fun _ z => absurd rfl z) (fun _ _ => ?_) (fun z => absurd z (by decide)))
  rw [e28]
  refine ⟨_, m_formExp (by omega) hG.2.1.1 hG.2.1.2.1 (hM T hG.2.2.1.1) lr h29, fun r' μ3 hr => k138_31 bf ?_⟩
  rw [nI_c (by omega)]
  rcases hr with ⟨hf, e', rfl, le', ee⟩ | ⟨h1, rfl, μ4, hf, rfl⟩
  · have hG3 := GG_SF (C1 := fun _ _ => True) hG hf trivial
    have hK3 := Kt_mono hK (Tf_FK (Tf_SF (L := L) hf))
    rw [er] at ee
    rw [ee, pj_E, Option.bind_some] at hK3
    have hG4 := GG_39 (ν := ν) (t := tJ T ν e') hG3 le' rfl
    have hK4 := Kt_mono hK3 (μ1 := zm_up μ3 39 b (nI e')) (FK_row (Nat.le_refl _))
    generalize (zm_up μ3 39 b (nI e')) = μ5 at hG4 hK4 ⊢
    obtain ⟨y1, y2, y3⟩ := r_exp (ν := ν) hw hT6 l1
    refine ⟨_, m_exp (by omega) hG4.2.1.1 (GG_L hG hL) hT6 l1.1 rfl, fun r' μ6 hr => ?_⟩
    obtain ⟨rfl, hR6, hf6⟩ := hr
    have hG6 := GG_Tf (C1 := fun T' μ => Hd N ν b (tJ T ν e') T' μ) hG4 hf6 hR6 y1 (Hd_Tf hw y1.1 hf6 hG4.2.2.2.2)
    refine k138_40 ⟨_, ?_, fun _ z => k138_43 (k138_84 z)⟩
    refine st_is (i := 0) (m := m0) (c1 := 11 * m1 + 1 + 11 * m0) (by omega) (by omega) hT rfl rfl rfl Hd_stb (by simpa using hRI0 _ (by rw [ee, pj_E]) _ _ hG6.2.2.1 y2 (by rw [y3, Rx_tJ hw y1.1 l1.1])) (fun z => by subst z; rfl) (fun z => ?_) (by omega) hG6 (Kt_mono hK4 (Tf_FK hf6))
    subst z
    rw [Bool.true_and]
    exact rb_when2 (by omega) (by omega) hL hT (by omega) (by omega) (hRI rfl _ (by rw [ee, pj_E]))
  · rw [er] at h1
    rw [pj_no h1] at hK
    have hz4 := Rz_row (i := b) (c := 39) (v := 0) (Rz_22 (v := 1) (Tf_Rz (Tf_SF hf) hG.1) (i := 29) (by omega)) (by omega)
    have hR4 : RP (zm_up (zm_up μ4 22 29 1) 39 b 0) T := by
      obtain ⟨a1, a2, a3, a4⟩ := RP_SF hG.2.1.1 hf
      refine ⟨by rw [zm_up_row (by decide), zm_up_at, if_neg (by omega)]; exact a1, a2, a3, ?_⟩
      rw [zm_up_row (by decide), zm_up_row (by decide), zm_up_row (by decide), zm_up_row (by decide), zm_up_row (by decide), zm_up_row (by decide)]
      exact a4
    have g27 : (zm_up (zm_up μ4 22 29 1) 39 b 0) 22 27 = nI (b + 1) := by rw [zm_up_row (by decide), zm_up_at, if_neg (by omega), hf.2 27 (by decide)]; exact h27
    have g29 : (zm_up (zm_up μ4 22 29 1) 39 b 0) 22 29 = 1 := by rw [zm_up_row (by decide), zm_up_at, if_pos ⟨rfl, rfl⟩]
    have hK4 := Kt_mono hK (μ1 := zm_up (zm_up μ4 22 29 1) 39 b 0) (FK_tr (FK_tr (Tf_FK (Tf_SF (L := L) hf)) FK_22) (FK_row (Nat.le_refl _)))
    generalize (zm_up (zm_up μ4 22 29 1) 39 b 0) = μ5 at hz4 hR4 g27 g29 hK4 ⊢
    refine ⟨_, m_exp (by omega) hR4 (GG_L hG hL) hT6 l1.1 rfl, fun r' μ6 hr => ?_⟩
    obtain ⟨rfl, hR6, hf6⟩ := hr
    refine k138_40 ⟨_, ?_, fun _ z => k138_43 (k138_84 z)⟩
    exact st_wrong (i := 0) (m := m0) (by omega) (by omega) hT rfl rfl (Tf_Rz hf6 hz4) ((hf6.2.2 27 (by decide) (by decide)).trans g27) ((hf6.2.2 29 (by decide) (by decide)).trans g29) (Kt_mono hK4 (Tf_FK hf6))
theorem jb_when (hd : dc + 5 ≤ d) (hdc : 6 ≤ dc) (hdr : 16 ≤ dr) (hLT : LT L res T0) (hJ : Jc X L res T0 μ0 dc dr e) (hT : TT L μ0 e p u n 14 ns) (hC : CPc L T0 Tc D S V h) (hR : Rmc (e + 1) n Tc V h) : JBd X L res T0 μ0 d dr (e + 1) p u n Tc D S V h := by
  obtain ⟨m0, m1, m2, rfl, hsum⟩ := three_parts hT (by rw [hT.2.2.2.2.2.1, ar_ne (by omega)]; rfl)
  have hL2 := LT_2 hLT
  have hl := hR.1
  obtain ⟨he, ⟨Tc1, x1, P1, F1, A1, B1⟩, _⟩ := j_part (j := 1) (m := m1) hJ hT rfl hC hR (by omega)
  have hC1 := CPc_mono hC P1.1
  have p1 := P1.2
  obtain ⟨g1, g2⟩ := cArg_m (kk := 3) (sd := false) hC1.1.1 hC1.1.2.2 (FOc_vc F1) (Or.inl ⟨rfl, rfl⟩)
  obtain ⟨g3, g4, g5⟩ := cExp_m (S := S) hC1.1.1 hC1.1.2.1 (show Tc1.length < 466 by omega) g1
  rw [g2] at g5
  have over : ∀ (o : Option Tr), ((x1.map (cT Tc1 S)) = none → o = none) → ∀ (Tr' : tT) (N : Nat → Prop) (ν : Nat → Tr) (Q : List (Nat × Nat)) (W : List Nat) (b : Nat), CPr L T0 Tc S V Tr' N ν Q W → Rmr (e + 1) n Tr' Q b → ∀ wt : Int32, (∀ t, x1.map (cT Tc1 S) = some t → RBd X dr L μ0 N ν n Tr' Q W b p wt 1 (11 * m1) (fun T μ => True ∧ Fo N ν t T μ) o) → RBd X dr L μ0 N ν n Tr' Q W b p wt 0 0 (fun _ _ => True) o := by
    intro o ho Tr' N ν Q W b hP hRr wt hs
    have hb := hRr.2.2
    refine RBd_go (by omega) (by omega) hT st8_T (fun μ T P hg hG hK _ _ => go_14 (by omega) hg ?_)
    refine zO_at [0, 1, 2, 3] (by omega) rfl (k138_0 (fun z => absurd rfl z) (fun z => absurd rfl z) (fun z => absurd rfl z) (fun z => absurd rfl z) (fun z => absurd rfl z) (fun _ => ⟨_, ?_, fun _ z => k138_10 (k138_84 z)⟩))
    exact st_find (i := 1) (m := m1) (by omega) (by omega) hT rfl rfl stb_T (B1 T N ν Q W (b + 1) (CPr_mono hC hP (Ex_rf hC.1.1 hC.1.2.1) hG.2.2.1.1) (Rmr_part hRr hG.2.2.1 (by omega))) ho hs (by omega) hG hK

  have cls : ∀ (r : Int32) (Tc' : tT), (∀ μs μ, CQ μ0 res (cExp Tc1 (cArg Tc1 D 3 false x1)).1 D V μs μ → zV X (d - 3) 56 17 [(0, .inr 3), (1, .inl (nI (u + n - 1)))] [.inl (oc (cExp Tc1 (cArg Tc1 D 3 false x1)).2)] μ (zpi (fun r' μ' => r' = r ∧ CC μ' Tc' D V res ∧ CK μs μ'))) → CM X d μ0 res 53 [.inr 3, .inl (nI (u + n - 1))] Tc D V r Tc' := by
    intro r Tc' H
    refine cm_55 (by omega) (by omega) hT (fun μs μ1 hq => ?_)
    refine k55_8 ?_ ?_ ?_ (fun _ _ _ _ => ⟨fun r' μ' => r' = r ∧ CC μ' Tc' D V res ∧ CK μs μ', zI_at [0, 1] (by omega) rfl (k56_0 ⟨_, CM_use (cm_findPart (d := d - 3) (by omega) (by omega) hT rfl rfl A1) (Nat.le_refl _) hq, fun r1 μ2 hr => ?_⟩), fun r1 μ2 hr => k55_142 hr⟩) ?_ ?_ ?_ <;> first | (intros; contradiction) | skip
    obtain ⟨rfl, hq2⟩ := hr
    refine k56_11 ⟨_, CM_use (cm_inside (d := d - 3) (by omega) hC1.1.2.2 (FOc_vc F1)) (Nat.le_refl _) hq2, fun r μ3 hr => ?_⟩
    obtain ⟨rfl, hq3⟩ := hr
    refine k56_14 ⟨_, CM_use (cm_exp (d := d - 3) (by omega) (by omega) g1) (Nat.le_refl _) hq3, fun r μ4 hr => ?_⟩
    obtain ⟨rfl, hq4⟩ := hr
    exact H μs μ4 hq4
  have hC2 := CPc_mono hC1 g3.1
  have p2 := g3.2
  rcases hy : (cExp Tc1 (cArg Tc1 D 3 false x1)).2 with _ | y
  · rw [hy] at g5
    refine ⟨_, none, En_tr P1 g3 (by omega), FOc_none, cls (-1) _ (fun μs μ hq => ?_), fun Tr' N ν Q W b hP hRr wt => ?_⟩
    · rw [hy]
      exact k56_17 (fun z => absurd rfl z) (fun _ => ⟨rfl, hq.2⟩)
    · have hb := hRr.2.2
      have hr6 := hRr.1
      refine over _ (fun _ => rfl) Tr' N ν Q W b hP hRr wt (fun t ht => ?_)
      rw [ht, Option.bind_some] at g5
      have hn : pj 3 false t = none := by
        rcases hz : pj 3 false t with _ | t0
        · rfl
        · rw [hz] at g5
          simp at g5
      have key := rb_when1 (X := X) (dr := dr) (b := b) (wt := wt) (ok0 := false) (ok2 := false) (t := t) (n := n) (W := W) (by omega) (by omega) hP.2.1.1 hT (CPr_MO hC hP) (fun T hx => (CPr_last hLT hC (CPr_mono hC hP (Ex_rf hC.1.1 hC.1.2.1) hx) (show 1 < L by omega)).1) (by omega) (by omega) (fun t0 h0 => by rw [hn] at h0; simp at h0) (fun z => by simp at z)
      rw [hn] at key
      exact key
  · rw [hy] at g5
    have y0 : y < (cExp Tc1 (cArg Tc1 D 3 false x1)).1.length := g4 y hy

    obtain ⟨t, ht, t0, ht0, eY⟩ : ∃ t, x1.map (cT Tc1 S) = some t ∧ ∃ t0, pj 3 false t = some t0 ∧ cT (cExp Tc1 (cArg Tc1 D 3 false x1)).1 S y = tE t0 := by
      rcases hx : x1.map (cT Tc1 S) with _ | t
      · rw [hx] at g5; simp at g5
      rw [hx, Option.bind_some] at g5
      rcases hz : pj 3 false t with _ | t0
      · rw [hz] at g5; simp at g5
      rw [hz] at g5
      simp only [Option.map_some, Option.some.injEq] at g5
      exact ⟨t, rfl, t0, hz, g5⟩
    obtain ⟨jb, w1, w2, w3, w4, w5⟩ := cExp_l hLT hC2 (by omega) (show 1 < L by omega)
    have hC3 := CPc_mono hC2 w2.1
    have p3 := w2.2
    obtain ⟨_, _, q0⟩ := j_part (j := 0) (m := m0) hJ hT rfl hC3 hR (by omega)
    obtain ⟨Tc4, ok0, P4, A4, B4⟩ := q0 jb w3
    have hC4 := CPc_mono hC3 P4.1
    have p4 := P4.2
    have y4 : y < Tc4.length := by have := w2.1.2.1; have := P4.1.2.1; omega
    obtain ⟨_, _, q2⟩ := j_part (j := 2) (m := m2) hJ hT rfl hC4 hR (by omega)
    obtain ⟨Tc5, ok2, P5, A5, B5⟩ := q2 y y4
    have hC5 := CPc_mono hC4 P5.1
    have eY4 : cT Tc4 S y = tE t0 := by rw [Ex_cT hC2.1.1 (Ex_tr w2.1 P4.1) y0, eY]
    have eY5 : cT Tc5 S y = tE t0 := by rw [Ex_cT hC4.1.1 P5.1 y4, eY4]
    have hth : th (tE t0) ≤ h + 2 * (e + 1 - 1) := by
      have := FOc_th F1 ht
      have := th_pj3 ht0
      rw [th_E]
      omega
    have E4 : En (11 * n) Tc Tc4 := En_tr (En_tr P1 g3 (Nat.le_refl _)) (En_tr w2 P4 (Nat.le_refl _)) (by omega)
    have nY : ¬ oc (some y) = -1 := nI_m1 (by omega)
    have ref : ∀ (Tr' : tT) (N : Nat → Prop) (ν : Nat → Tr) (Q : List (Nat × Nat)) (W : List Nat) (b : Nat), CPr L T0 Tc S V Tr' N ν Q W → Rmr (e + 1) n Tr' Q b → ∀ wt : Int32, RBd X dr L μ0 N ν n Tr' Q W b p wt 0 0 (fun _ _ => True) (if ok0 && ok2 then some (tE t0) else none) := by
      intro Tr' N ν Q W b hP hRr wt
      have hb := hRr.2.2
      have hr6 := hRr.1
      refine over _ (fun z => by rw [ht] at z; simp at z) Tr' N ν Q W b hP hRr wt (fun t' ht' => ?_)
      obtain rfl : t = t' := by rw [ht] at ht'; simpa using ht'
      have one : ∀ T, Rx Tr' T → Lv T N 1 ∧ tJ T ν 1 = tJ Tr' ν 1 := fun T hx => ⟨(CPr_last hLT hC (CPr_mono hC hP (Ex_rf hC.1.1 hC.1.2.1) hx) (show 1 < L by omega)).1, Rx_tJ hP.1.1 hx (CPr_last hLT hC hP (show 1 < L by omega)).1.1⟩
      have key := rb_when1 (X := X) (dr := dr) (b := b) (wt := wt) (ok0 := ok0) (ok2 := ok2) (t := t) (n := n) (W := W) (by omega) (by omega) hP.2.1.1 hT (CPr_MO hC hP) (fun T hx => (one T hx).1) (by omega) (by omega) (fun t1 h1 T wr hx lw ew => by
        have := B4 T N ν Q W (b + 1) wr (CPr_mono hC hP (Ex_tr (Ex_tr P1.1 g3.1) w2.1) hx.1) (Rmr_part hRr hx (by omega)) lw (by
          rw [w4, ew, (CPr_last hLT hC2 (CPr_mono hC hP (Ex_tr P1.1 g3.1) hx.1) (show 1 < L by omega)).2])
        simpa using this) (fun _ t1 h1 T wr hx lw ew => by
        obtain rfl : t0 = t1 := by rw [ht0] at h1; simpa using h1
        have := B5 T N ν Q W (b + 1) wr (CPr_mono hC hP E4.1 hx.1) (Rmr_part hRr hx (by omega)) lw (by rw [eY4, ew])
        simpa using this)
      rw [ht0, Option.bind_some] at key
      exact key
    cases ok0 with
    | false =>
      refine ⟨Tc4, none, E4, FOc_none, cls (-1) _ (fun μs μ hq => ?_), ref⟩
      rw [hy]
      refine k56_17 (fun _ => ⟨_, CM_use (cm_part (d := d - 3) (by omega) hT rfl rfl) (Nat.le_refl _) hq, fun r μ1 hr => ?_⟩) (fun z => absurd z nY)
      obtain ⟨rfl, hq1⟩ := hr
      refine k56_35 ⟨_, CM_use (cm_exp (x1 := some 1) (d := d - 3) (by omega) (by omega) w5) (Nat.le_refl _) hq1, fun r μ2 hr => ?_⟩
      obtain ⟨rfl, hq2⟩ := hr
      rw [w1]
      refine k56_43 ⟨_, CM_use A4 (by omega) hq2, fun r μ3 hr => ?_⟩
      obtain ⟨rfl, hq3⟩ := hr
      exact k56_46 (fun _ => k56_70 (k56_71 (fun _ => ⟨rfl, hq3.2⟩) (fun z => absurd rfl z))) (fun z => absurd rfl z)
    | true =>
      have e2 : (if (true && ok2) = true then some (tE t0) else none) = Option.map (cT Tc5 S) (if ok2 then some y else none) := by
        cases ok2 with
        | true => simp [eY5]
        | false => rfl
      rw [e2] at ref
      refine ⟨Tc5, if ok2 then some y else none, En_tr (En_tr (En_tr P1 g3 (Nat.le_refl _)) (En_tr w2 P4 (Nat.le_refl _)) (Nat.le_refl _)) P5 (by omega), ?_, cls (oc (if ok2 then some y else none)) _ (fun μs μ hq => ?_), ref⟩
      · cases ok2 with
        | true => exact FOc_some (by have := P5.1.2.1; omega) (by rw [eY5]; exact hth)
        | false => exact FOc_none
      rw [hy]
      refine k56_17 (fun _ => ⟨_, CM_use (cm_part (d := d - 3) (by omega) hT rfl rfl) (Nat.le_refl _) hq, fun r μ1 hr => ?_⟩) (fun z => absurd z nY)
      obtain ⟨rfl, hq1⟩ := hr
      refine k56_35 ⟨_, CM_use (cm_exp (x1 := some 1) (d := d - 3) (by omega) (by omega) w5) (Nat.le_refl _) hq1, fun r μ2 hr => ?_⟩
      obtain ⟨rfl, hq2⟩ := hr
      rw [w1]
      refine k56_43 ⟨_, CM_use A4 (by omega) hq2, fun r μ3 hr => ?_⟩
      obtain ⟨rfl, hq3⟩ := hr
      refine k56_46 (fun z => absurd z zn_10) (fun _ => ⟨_, CM_use (cm_part (d := d - 3) (by omega) hT rfl rfl) (Nat.le_refl _) hq3, fun r μ4 hr => ?_⟩)
      obtain ⟨rfl, hq4⟩ := hr
      refine k56_59 ⟨_, CM_use A5 (by omega) hq4, fun r μ5 hr => ?_⟩
      obtain ⟨rfl, hq5⟩ := hr
      cases ok2 with
      | true => exact k56_63 (fun z => absurd z zn_10) (fun _ => k56_71 (fun z => absurd z zn_10) (fun _ => ⟨rfl, hq5.2⟩))
      | false => exact k56_63 (fun _ => k56_70 (k56_71 (fun _ => ⟨rfl, hq5.2⟩) (fun z => absurd rfl z))) (fun z => absurd rfl z)
end OP6

def tfst : Tr → Tr
  | .append a _ => a
  | t => t
def tsnd : Tr → Tr
  | .append _ b => b
  | t => t
def tin : Tr → Tr
  | .nest _ a => a
  | t => t

def pj (kk : Nat) (s : Bool) (t : Tr) : Option Tr := if thd t = kk then some (if kk = 3 then tin t else if s then tsnd t else tfst t) else none
def o2 (f : Tr → Tr → Tr) (a b : Option Tr) : Option Tr := match a, b with
  | some x, some y => some (f x y)
  | _, _ => none
section OP2
variable {X : zm_T} {d d' dc dr L n i j k a b e h hh p u q res m m0 m1 c r c1 r1 s f wr wc : Nat} {μ μ' μ0 μ1 μs : zm_u} {T T' T1 T0 Tb Tc Tc1 Tc2 Tr' Tr1 Tr2 : tT} {D : Nat → Option Nat} {S S' : Nat → Tr} {V W : List Nat} {N : Nat → Prop} {ν ν' : Nat → Tr} {Q : List (Nat × Nat)} {as : List zm_v} {v x wt : Int32} {o o1 : Option Tr} {t t' : Tr} {ns : List Nat} {x1 x2 : Option Nat} {P : Int32 → zm_u → Prop} {PP : zm_u → Prop} {C C1 : tT → zm_u → Prop} {ok ok0 ok1 sd : Bool}
theorem pj_P {a b : Tr} : pj 2 sd (tP a b) = some (if sd then b else a) := by cases sd <;> rfl
theorem pj_E {a : Tr} : pj 3 sd (tE a) = some a := rfl
theorem pj_no {kk : Nat} (h : thd t ≠ kk) : pj kk sd t = none := if_neg h
theorem r_exp (hw : tw T) (hl : T.length < 600) (lv : Lv T N r) : Rn 1 T (tput T (3, r, 0)).1 ∧ Lv (tput T (3, r, 0)).1 N (tput T (3, r, 0)).2 ∧ tJ (tput T (3, r, 0)).1 ν (tput T (3, r, 0)).2 = tE (tJ T ν r) := by
  have hr := lv.1
  obtain ⟨e1, e2, e3⟩ := tput_R (q := (3, r, 0)) hw (Or.inr (Or.inl ⟨rfl, hr, rfl⟩)) (by show r < 10000; omega) (by show 0 < 10000; omega)
  have hE : ∀ ν, tJ (tput T (3, r, 0)).1 ν (tput T (3, r, 0)).2 = tE (tJ T ν r) := fun ν => by rw [tJ_3 e1.2.2 e3, Rx_tJ hw e1 hr]
  refine ⟨⟨e1, e2⟩, ⟨tw_lt e3, ?_⟩, hE ν⟩
  rw [hE]
  exact lv.2
theorem r_pair {r2 : Nat} (hw : tw T) (hl : T.length < 600) (lv : Lv T N r) (lv2 : Lv T N r2) : Rn 1 T (tput T (2, r, r2)).1 ∧ Lv (tput T (2, r, r2)).1 N (tput T (2, r, r2)).2 ∧ tJ (tput T (2, r, r2)).1 ν (tput T (2, r, r2)).2 = tP (tJ T ν r) (tJ T ν r2) := by
  have hr := lv.1
  have hr2 := lv2.1
  obtain ⟨e1, e2, e3⟩ := tput_R (q := (2, r, r2)) hw (Or.inl ⟨rfl, hr, hr2⟩) (by show r < 10000; omega) (by show r2 < 10000; omega)
  have hE : ∀ ν, tJ (tput T (2, r, r2)).1 ν (tput T (2, r, r2)).2 = tP (tJ T ν r) (tJ T ν r2) := fun ν => by rw [tJ_2 e1.2.2 e3, Rx_tJ hw e1 hr, Rx_tJ hw e1 hr2]
  refine ⟨⟨e1, e2⟩, ⟨tw_lt e3, ?_⟩, hE ν⟩
  rw [hE]
  exact ⟨lv.2, lv2.2⟩
theorem cExp_m (hw : tw Tc) (hc : cnm Tc) (hl : Tc.length < 466) (h1 : vc Tc x1) : En 1 Tc (cExp Tc x1).1 ∧ vc (cExp Tc x1).1 (cExp Tc x1).2 ∧ (cExp Tc x1).2.map (cT (cExp Tc x1).1 S) = (x1.map (cT Tc S)).map tE := by
  obtain ⟨a1, a2, a3, a4, a5⟩ := cExp_F hw hc hl h1
  refine ⟨⟨a1, a2⟩, a3, ?_⟩
  rcases x1 with _ | i
  · rw [a5 rfl]; rfl
  · obtain ⟨j, e1, e2⟩ := a4 i rfl
    rw [e1]
    simp only [Option.map_some]
    rw [e2]
theorem cPair_m (hw : tw Tc) (hc : cnm Tc) (hl : Tc.length < 466) (h1 : vc Tc x1) (h2 : vc Tc x2) : En 1 Tc (cPair Tc x1 x2).1 ∧ vc (cPair Tc x1 x2).1 (cPair Tc x1 x2).2 ∧ (cPair Tc x1 x2).2.map (cT (cPair Tc x1 x2).1 S) = o2 tP (x1.map (cT Tc S)) (x2.map (cT Tc S)) := by
  obtain ⟨a1, a2, a3, a4, a5⟩ := cPair_F hw hc hl h1 h2
  refine ⟨⟨a1, a2⟩, a3, ?_⟩
  rcases x1 with _ | i
  · rw [a5 (Or.inl rfl)]; rfl
  rcases x2 with _ | i2
  · rw [a5 (Or.inr rfl)]; rfl
  obtain ⟨j, e1, e2⟩ := a4 i i2 rfl rfl
  rw [e1]
  simp only [Option.map_some, o2]
  rw [e2]
theorem cArg_m (hw : tw Tc) (hD : TD Tc D S) (h1 : vc Tc x1) {kk : Nat} (hkk : kk = 3 ∧ sd = false ∨ kk = 2) : vc Tc (cArg Tc D kk sd x1) ∧ (cArg Tc D kk sd x1).map (cT Tc S) = (x1.map (cT Tc S)).bind (pj kk sd) := by
  obtain ⟨a1, a2, a3⟩ := cArg_F hw hD h1 hkk
  refine ⟨a1, ?_⟩
  rcases x1 with _ | i
  · rw [a2 rfl]; rfl
  · simp only [Option.map_some, Option.bind_some]
    rcases a3 i rfl with ⟨b1, b2⟩ | ⟨b1, a, b, b2, b3, b4, b5, b6, b7⟩
    · rw [b2, pj_no b1]; rfl
    · rw [b5]
      rcases hkk with ⟨rfl, rfl⟩ | rfl
      · rw [b7 rfl, pj_E]; rfl
      · rw [b6 rfl, pj_P]
        cases sd <;> rfl
theorem FOc_of (hv : vc Tc x1) (ht : ∀ t, x1.map (cT Tc S) = some t → th t ≤ hh) : FOc Tc S hh x1 := fun c hc => ⟨hv c hc, ht _ (by rw [hc]; rfl)⟩
theorem FOc_vc (h : FOc Tc S hh x1) : vc Tc x1 := fun i hi => (h i hi).1
theorem FOc_th (h : FOc Tc S hh x1) (ht : x1.map (cT Tc S) = some t) : th t ≤ hh := by
  rcases x1 with _ | i
  · simp at ht
  · simp only [Option.map_some, Option.some.injEq] at ht
    rw [← ht]
    exact (h i rfl).2
theorem Ex_map (hw : tw Tc) (hx : Ex Tc Tc1) (h1 : vc Tc x1) : x1.map (cT Tc1 S) = x1.map (cT Tc S) := by
  rcases x1 with _ | i
  · rfl
  · simp only [Option.map_some]
    rw [Ex_cT hw hx (h1 i rfl)]
theorem th_pj2 (h : pj 2 sd t = some t') : th t' + 1 ≤ th t := by
  unfold pj at h
  split at h
  · rename_i z
    cases t <;> simp only [thd] at z <;> first | omega | skip
    cases sd <;> simp [tfst, tsnd] at h <;> subst h <;> simp only [th] <;> omega
  · simp at h
theorem th_pj3 (h : pj 3 sd t = some t') : th t' + 1 ≤ th t := by
  unfold pj at h
  split at h
  · rename_i z
    cases t <;> simp only [thd] at z <;> first | omega | skip
    simp [tin] at h
    subst h
    simp only [th]
    omega
  · simp at h
theorem go_over (hd : 1 ≤ d) (hk : k = 6 ∨ k = 7 ∨ k = 8 ∨ k = 9 ∨ k = 15 ∨ k = 16) (hg : GF μ f p s k) (h0 : zO X (d - 1) 140 [.inr 22, .inl (nI f), .inl (nI p), .inl (nI k), .inl (nI s)] (zm_up μ 38 f (nI (s + 1))) PP) : zO X d 136 [.inr 22] μ PP := by
  rcases hk with rfl | rfl | rfl | rfl | rfl | rfl
  · exact go_6 hd hg h0
  · exact go_7 hd hg h0
  · exact go_8 hd hg h0
  · exact go_9 hd hg h0
  · exact go_15 hd hg h0
  · exact go_16 hd hg h0
theorem over_in (hk : k = 6 ∨ k = 7 ∨ k = 8 ∨ k = 9 ∨ k = 15 ∨ k = 16) (H : ∀ y : Int32, (y = 0 ∧ k ≠ 6 ∧ k ≠ 15 ∨ y = 1 ∧ (k = 6 ∨ k = 15)) → zV X d 140 17 [(0, .inr 22), (1, .inl (nI f)), (2, .inl (nI p)), (3, .inl (nI k)), (4, .inl (nI s))] [.inl y] μ (zpo PP)) : zV X d 140 0 [(0, .inr 22), (1, .inl (nI f)), (2, .inl (nI p)), (3, .inl (nI k)), (4, .inl (nI s))] [] μ (zpo PP) := by
  rcases hk with rfl | rfl | rfl | rfl | rfl | rfl
  · exact k140_0 (fun _ => k140_12 (H 1 (by simp))) (by intros; contradiction) (by intros; contradiction)
  · exact k140_0 (by intros; contradiction) (fun _ _ => H 0 (by simp)) (by intros; contradiction)
  · exact k140_0 (by intros; contradiction) (fun _ _ => H 0 (by simp)) (by intros; contradiction)
  · exact k140_0 (by intros; contradiction) (fun _ _ => H 0 (by simp)) (by intros; contradiction)
  · exact k140_0 (by intros; contradiction) (by intros; contradiction) (fun _ _ => k140_12 (H 1 (by simp)))
  · exact k140_0 (by intros; contradiction) (fun _ _ => H 0 (by simp)) (by intros; contradiction)
theorem over_0 (hd : 1 ≤ d) (hk : k = 6 ∨ k = 7 ∨ k = 8 ∨ k = 9 ∨ k = 15 ∨ k = 16) (h0 : zO X (d - 1) 128 [.inr 22, .inl (nI p), .inl 0] μ PP) : zO X d 140 [.inr 22, .inl (nI f), .inl (nI p), .inl (nI k), .inl (nI 0)] μ PP :=
  zO_at [0, 1, 2, 3, 4] hd rfl (over_in hk (fun _ _ => k140_17 (fun z => absurd rfl z) (fun z => absurd rfl z) (fun z => absurd rfl z) (fun z => absurd rfl z) (fun _ => ⟨_, h0, fun _ q => k140_30 (k140_295 q)⟩)))

theorem rb_over0 (hdr : 10 ≤ dr) (hb : b < 38) (hk : k = 6 ∨ k = 7 ∨ k = 8 ∨ k = 9 ∨ k = 15 ∨ k = 16) (hT : TT L μ0 e p u j k ns) (h0 : ns[0]? = some m0)
    (hRF : ∀ T, Rn 0 Tb T → RFd X dr L μ0 N ν m0 T Q W (b + 1) (p + 1 + (ns.take 0).sum) o1) (hnone : o1 = none → o = none) (hsome : ∀ t, o1 = some t → RBd X dr L μ0 N ν n Tb Q W b p wt 1 (11 * m0) (fun T μ => True ∧ Fo N ν t T μ) o) : RBd X dr L μ0 N ν n Tb Q W b p wt 0 0 (fun _ _ => True) o := by
  refine RBd_go (by omega) (by omega) hT st8_T (fun μ T P hg hG hK _ _ => go_over (by omega) hk hg (over_0 (by omega) hk ?_))
  exact st_find (i := 0) (m := m0) (by omega) (by omega) hT h0 rfl stb_T (hRF T hG.2.2.1) hnone hsome (by omega) hG hK

theorem rb_proj (hdr : 14 ≤ dr) (hb : b < 38) (hk : k = 7 ∨ k = 8) (hT : TT L μ0 e p u j k ns) (hM : ∀ T, Rx Tb T → MO T N ν Q) (hc : c ≤ 11 * n) : RBd X dr L μ0 N ν n Tb Q W b p wt 1 c (fun T μ => True ∧ Fo N ν t T μ) (pj 2 (k == 8) t) := by
  refine RBd_go (by omega) (by omega) hT (fun _ _ _ q => ⟨trivial, Fo_38 q.2⟩) (fun μ T P hg hG hK _ _ => go_over (by omega) (by omega) hg ?_)
  generalize (zm_up μ 38 b (nI (1 + 1))) = μ2 at hG hK ⊢
  obtain ⟨r, e28, lr, er⟩ := hG.2.2.2.2.2
  have hw := (RQ_len hG.2.1).2
  have hl6 := (RQ_len hG.2.1).1
  have h29 := hG.2.1.2.2.2.2
  have n6 : ¬ nI k = (6 : Int32) := by rw [show (6 : Int32) = nI 6 from rfl, nI_inj (by omega) (by omega)]; omega
  have n15 : ¬ nI k = (15 : Int32) := by rw [show (15 : Int32) = nI 15 from rfl, nI_inj (by omega) (by omega)]; omega
  have n9 : ¬ nI k = (9 : Int32) := by rw [show (9 : Int32) = nI 9 from rfl, nI_inj (by omega) (by omega)]; omega
  have n16 : ¬ nI k = (16 : Int32) := by rw [show (16 : Int32) = nI 16 from rfl, nI_inj (by omega) (by omega)]; omega
  refine zO_at [0, 1, 2, 3, 4] (by omega) rfl (over_in (by omega) (fun y hy => ?_))
  obtain ⟨rfl, -⟩ : y = 0 ∧ True := by rcases hy with hy | hy; exact ⟨hy.1, trivial⟩; omega
  refine k140_17 (fun _ z => absurd rfl z) (fun _ _ _ => ?_) (fun _ _ z => absurd rfl z) (fun _ _ z => absurd rfl z) (fun z => absurd z zn_10)
  refine k140_87 (fun _ _ _ _ => ?_) (fun _ _ _ z => absurd z n16) (fun _ _ z => absurd z n9) (fun _ z => absurd z n15) (fun z => absurd z n6) (fun z => absurd z n6)
  rw [e28]
  refine k140_219 (fun _ => ⟨_, m_form (k := 2) (by omega) hG.2.1.1 hG.2.1.2.1 (hM T hG.2.2.1.1) lr (Or.inl rfl), fun r' μ3 hr => ?_⟩) (fun z => absurd h29 z)
  rcases hr with ⟨h1, hf, p', rfl, lp, kp, ep⟩ | ⟨h1, rfl, μ4, hf, rfl⟩
  · have lp1 := lp.1
    have e29 : μ3 22 29 = 0 := (hf.2 29 (by decide)).trans h29
    obtain ⟨p23, p24, p25⟩ := (RP_SF hG.2.1.1 hf).2.2.2 p' lp1
    have cp : (nI p').toNatClampNeg = p' := nI_c (by omega)
    have bp : 0 ≤ (nI p').toInt ∧ (nI p').toInt < ((600 : Nat) : Int) := by rw [nI_t (by omega)]; omega
    have ap := at_kd lp1
    rw [kp] at ap
    have et : t = tP (tJ T ν (k1 T p')) (tJ T ν (k2 T p')) := by rw [← er, ← ep]; exact tJ_2 hw ap
    have hG3 := GG_SF (C1 := fun _ _ => True) hG hf trivial
    have hK3 := Kt_mono hK (Tf_FK (Tf_SF (L := L) hf))
    rw [et, pj_P] at hK3
    obtain ⟨q1, q2⟩ := Lv_2 hw lp kp
    rcases hk with rfl | rfl
    · refine k140_239 (fun z => absurd e29 z) (fun _ z => absurd rfl z) (fun _ z => absurd rfl z) (fun _ z => absurd rfl z) (fun _ z => absurd rfl z) (fun _ _ => bp) (fun _ _ => k140_292 ⟨_, ?_, fun _ q => k140_295 q⟩)
      rw [cp]
      exact kt_end (by omega) hK3 hG3 hc q1 rfl p24
    · refine k140_239 (fun z => absurd e29 z) (fun _ _ z => absurd rfl z) (fun _ _ z => absurd rfl z) (fun _ _ _ => bp) (fun _ _ _ => k140_292 ⟨_, ?_, fun _ q => k140_295 q⟩) (fun _ z => absurd z (by decide)) (fun _ z => absurd z (by decide))
      rw [cp]
      exact kt_end (by omega) hK3 hG3 hc q2 rfl p25
  · have e29 : ¬ (zm_up μ4 22 29 1) 22 29 = 0 := by rw [zm_up_at, if_pos ⟨rfl, rfl⟩]; exact zn_10
    rw [er] at h1
    rw [pj_no h1] at hK
    refine k140_239 (fun _ => k140_295 (hK.1 rfl _ (FK_tr (Tf_FK (Tf_SF (L := L) hf)) FK_22) (Rz_22 (Tf_Rz (Tf_SF hf) hG.1) (by omega)) ?_)) (fun z => absurd z e29) (fun z => absurd z e29) (fun z => absurd z e29) (fun z => absurd z e29) (fun z => absurd z e29) (fun z => absurd z e29)
    rw [zm_up_at, if_pos ⟨rfl, rfl⟩]
theorem one_part (hT : TT L μ0 e p u n k ns) (hn : ns.length = 1) : ∃ m0, ns = [m0] ∧ n = 1 + m0 := by
  match ns, hn with
  | [x], _ =>
    have := hT.2.2.2.2.2.2.1
    simp at this
    exact ⟨x, rfl, this⟩
theorem two_parts (hT : TT L μ0 e p u n k ns) (hn : ns.length = 2) : ∃ m0 m1, ns = [m0, m1] ∧ n = 1 + (m0 + m1) := by
  match ns, hn with
  | [x, y], _ =>
    have := hT.2.2.2.2.2.2.1
    simp at this
    exact ⟨x, y, rfl, this⟩
theorem three_parts (hT : TT L μ0 e p u n k ns) (hn : ns.length = 3) : ∃ m0 m1 m2, ns = [m0, m1, m2] ∧ n = 1 + (m0 + (m1 + m2)) := by
  match ns, hn with
  | [x, y, z], _ =>
    have := hT.2.2.2.2.2.2.1
    simp at this
    exact ⟨x, y, z, rfl, by omega⟩
theorem CPr_MO (hC : CPc L T0 Tc D S V hh) (h : CPr L T0 Tc S V Tr' N ν Q W) : ∀ T, Rx Tr' T → MO T N ν Q := fun T hx => (CPr_mono hC h (Ex_rf hC.1.1 hC.1.2.1) hx).1.2

theorem jb_proj (hd : dc + 3 ≤ d) (hdc : 6 ≤ dc) (hdr : 14 ≤ dr) (hJ : Jc X L res T0 μ0 dc dr e) (hT : TT L μ0 e p u n k ns) (hk : k = 7 ∨ k = 8) (hC : CPc L T0 Tc D S V h) (hR : Rmc (e + 1) n Tc V h) : JBd X L res T0 μ0 d dr (e + 1) p u n Tc D S V h := by
  obtain ⟨m0, rfl, hsum⟩ := one_part hT (by rw [hT.2.2.2.2.2.1, ar_ne (by omega)]; rcases hk with rfl | rfl <;> rfl)
  obtain ⟨he, ⟨Tc1, x0, P1, F1, A1, B1⟩, _⟩ := j_part (j := 0) (m := m0) hJ hT rfl hC hR (by have := hR.1; omega)
  have hC1 := CPc_mono hC P1.1
  obtain ⟨g1, g2⟩ := cArg_m (kk := 2) (sd := (k == 8)) hC1.1.1 hC1.1.2.2 (FOc_vc F1) (Or.inr rfl)
  refine ⟨Tc1, cArg Tc1 D 2 (k == 8) x0, En_le P1 (by omega), FOc_of g1 (fun t ht => ?_), cm_53 (by omega) hT (fun μs μ1 hq => ?_), fun Tr' N ν Q W b hP hRr wt => ?_⟩
  · rw [g2] at ht
    rcases hx : x0.map (cT Tc1 S) with _ | t0
    · rw [hx] at ht; simp at ht
    · rw [hx, Option.bind_some] at ht
      have := th_pj2 ht
      have := FOc_th F1 hx
      omega
  · rcases hk with rfl | rfl
    · refine k53_8 ?_ ?_ ?_ ?_ ?_ ?_ ?_ (fun _ _ _ _ _ _ _ _ => ⟨_, CM_use (cm_findPart (d := d - 1) (by omega) (by omega) hT rfl rfl A1) (Nat.le_refl _) hq, fun r μ2 hr => ?_⟩) ?_ ?_ ?_ ?_ <;> first | (intros; contradiction) | skip
      obtain ⟨rfl, hq2⟩ := hr
      refine k53_142 ⟨_, CM_use (cm_first (d := d - 1) (by omega) hC1.1.2.2 (FOc_vc F1)) (Nat.le_refl _) hq2, fun r μ3 hr => k53_145 ?_⟩
      obtain ⟨rfl, hq3⟩ := hr
      exact ⟨rfl, hq3.2⟩
    · refine k53_8 ?_ ?_ ?_ ?_ ?_ ?_ ?_ ?_ (fun _ _ _ _ _ _ _ _ _ => ⟨_, CM_use (cm_findPart (d := d - 1) (by omega) (by omega) hT rfl rfl A1) (Nat.le_refl _) hq, fun r μ2 hr => ?_⟩) ?_ ?_ ?_ <;> first | (intros; contradiction) | skip
      obtain ⟨rfl, hq2⟩ := hr
      refine k53_153 ⟨_, CM_use (cm_second (d := d - 1) (by omega) hC1.1.2.2 (FOc_vc F1)) (Nat.le_refl _) hq2, fun r μ3 hr => k53_156 ?_⟩
      obtain ⟨rfl, hq3⟩ := hr
      exact ⟨rfl, hq3.2⟩
  · have hb := hRr.2.2
    rw [g2]
    refine rb_over0 (by omega) (by omega) (by omega) hT rfl (fun T hx => B1 T N ν Q W (b + 1) (CPr_mono hC hP (Ex_rf hC.1.1 hC.1.2.1) hx.1) (Rmr_part hRr hx (by omega))) (fun z => by rw [z]; rfl) (fun t ht => ?_)
    rw [ht, Option.bind_some]
    exact rb_proj (by omega) (by omega) hk hT (CPr_MO hC hP) (by omega)
end OP2

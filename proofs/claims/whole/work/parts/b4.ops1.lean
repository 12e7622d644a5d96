def JBd (X : zm_T) (L res : Nat) (T0 : tT) (μ0 : zm_u) (dc dr e p u n : Nat) (Tc : tT) (D : Nat → Option Nat) (S : Nat → Tr) (V : List Nat) (h : Nat) : Prop :=
  ∃ (Tc1 : tT) (o : Option Nat), En (11 * n) Tc Tc1 ∧ FOc Tc1 S (h + 2 * (e - 1)) o ∧ CM X dc μ0 res 53 [.inr 3, .inl (nI (u + n - 1))] Tc D V (oc o) Tc1 ∧
    ∀ (Tr' : tT) (N : Nat → Prop) (ν : Nat → Tr) (Q : List (Nat × Nat)) (W : List Nat) (b : Nat), CPr L T0 Tc S V Tr' N ν Q W → Rmr e n Tr' Q b → ∀ wt : Int32, RBd X dr L μ0 N ν n Tr' Q W b p wt 0 0 (fun _ _ => True) (o.map (cT Tc1 S))
section OP1
variable {X : zm_T} {d d' dc dr L n i j k a b e h hh p u q res m m0 m1 c r c1 r1 s wr wc : Nat} {μ μ' μ0 μ1 μs : zm_u} {T T' T1 T0 Tb Tc Tc1 Tc2 Tr' Tr1 Tr2 : tT} {D : Nat → Option Nat} {S S' : Nat → Tr} {V W : List Nat} {N : Nat → Prop} {ν ν' : Nat → Tr} {Q : List (Nat × Nat)} {as : List zm_v} {v x wt : Int32} {o : Option Nat} {t : Tr} {ns : List Nat} {x1 x2 : Option Nat} {P : Int32 → zm_u → Prop} {C C1 : tT → zm_u → Prop} {ok ok0 ok1 : Bool}
theorem nat_of {x : Int32} {l : Nat} (h : 0 ≤ x.toInt ∧ x.toInt < (l : Int)) : ∃ a, a < l ∧ x = nI a := ⟨x.toInt.toNat, by omega, zn_toN h.1⟩
theorem kt_end (hd : 10 ≤ d) (hK : Kt X dr L μ0 N ν n Tb Q W b wt (some t) P μ) (hG : GG L μ0 Tb T Q W b p wt s c C μ) (hc : c ≤ 11 * n) (hl : Lv T N r) (ht : tJ T ν r = t) (hx : x = nI r) : zO X d 126 [.inr 22, .inl x] μ (HC X dr P) := by
  subst hx
  exact zO_mono (hK.2 t rfl μ T r FK_rf hG.1 (Rn_le hG.2.2.1 hc) hG.2.1 hG.2.2.2.1.2.1 hl ht) hd (fun _ q => q)
theorem GG_Tf (hG : GG L μ0 Tb T Q W b p wt s c C μ) (hf : Tf L μ μ1) (hR : RP μ1 T1) (hn : Rn 1 T T1) (hc : C1 T1 μ1) : GG L μ0 Tb T1 Q W b p wt s (c + 1) C1 μ1 :=
  ⟨Tf_Rz hf hG.1, Tf_RQ hf hR hG.2.1, Rn_tr hG.2.2.1 hn (Nat.le_refl _), Tf_Fz hf hG.2.2.2.1, hc⟩
theorem GG_SF (hG : GG L μ0 Tb T Q W b p wt s c C μ) (hf : SF μ μ1) (hc : C1 T μ1) : GG L μ0 Tb T Q W b p wt s c C1 μ1 :=
  ⟨Tf_Rz (Tf_SF hf) hG.1, Tf_RQ (L := L) (Tf_SF hf) (RP_SF hG.2.1.1 hf) hG.2.1, hG.2.2.1, Tf_Fz (L := L) (Tf_SF hf) hG.2.2.2.1, hc⟩
theorem GG_w (hG : GG L μ0 Tb T Q W b p wt s c C μ) (hc : C1 T μ) (hl : c ≤ c1) : GG L μ0 Tb T Q W b p wt s c1 C1 μ := ⟨hG.1, hG.2.1, Rn_le hG.2.2.1 hl, hG.2.2.2.1, hc⟩
theorem st8_T : St8 b (fun _ _ => True) := fun _ _ _ _ => trivial
theorem stb_T : Stb b (fun _ _ => True) := fun _ _ _ _ _ _ _ _ => trivial
theorem Fo_38 (h : Fo N ν t T μ) : Fo N ν t T (zm_up μ 38 b v) := by
  obtain ⟨r, h1, h2⟩ := h
  exact ⟨r, by rw [zm_up_row (by decide)]; exact h1, h2⟩
theorem Hd_38 (h : Hd N ν b t T μ) : Hd N ν b t T (zm_up μ 38 b v) := by
  obtain ⟨r, h1, h2⟩ := h
  exact ⟨r, by rw [zm_up_row (by decide)]; exact h1, h2⟩
theorem Hd_st (hw : tw T) (hx : Rx T T') (hf : FK (b + 1) μ μ') (h : Hd N ν b t T μ) : Hd N ν b t T' μ' := by
  obtain ⟨r, h1, h2, h3⟩ := h
  exact ⟨r, (hf b (by omega) 39 (by decide) (by decide)).trans h1, Rx_Lv hw hx h2, (Rx_tJ hw hx h2.1).trans h3⟩
theorem Hd_Tf (hw : tw T) (hx : Rx T T') (hf : Tf L μ μ') (h : Hd N ν b t T μ) : Hd N ν b t T' μ' := Hd_st hw hx (Tf_FK hf) h
theorem Fo_Tf (hw : tw T) (hx : Rx T T') (hf : Tf L μ μ') (h : Fo N ν t T μ) : Fo N ν t T' μ' := by
  obtain ⟨r, h1, h2, h3⟩ := h
  exact ⟨r, (hf.2.2 28 (by decide) (by decide)).trans h1, Rx_Lv hw hx h2, (Rx_tJ hw hx h2.1).trans h3⟩
theorem cm_53 (hd : 3 ≤ d) (hT : TT L μ0 e p u n k ns) (H : ∀ μs μ, CQ μ0 res Tc D V μs μ → zV X (d - 1) 53 8 [(0, .inr 3), (1, .inl (nI (u + n - 1)))] [.inl (nI k)] μ (zpi (fun r' μ' => r' = v ∧ CC μ' Tc1 D V res ∧ CK μs μ'))) : CM X d μ0 res 53 [.inr 3, .inl (nI (u + n - 1))] Tc D V v Tc1 := by
  intro μs hs hc
  refine zI_at [0, 1] (by omega) rfl (k53_0 ⟨_, CM_use (cm_op (by omega) hT) (Nat.le_refl _) (CQ_0 hs hc), fun r μ1 hr => ?_⟩)
  obtain ⟨rfl, hq⟩ := hr
  exact H μs μ1 hq

theorem jb_const (hd : 3 ≤ d) (hdr : 12 ≤ dr) (hLT : LT L res T0) (hT : TT L μ0 e p u n k ns) (hk : k = 0 ∨ k = 1) (hC : CPc L T0 Tc D S V h) : JBd X L res T0 μ0 d dr (e + 1) p u n Tc D S V h := by
  have hL2 := LT_2 hLT
  obtain ⟨l1, l2, _⟩ := CPc_last hLT hC (show k < L by omega)
  refine ⟨Tc, some k, En_rf hC.1.1 hC.1.2.1, FOc_some l1 (by omega), cm_53 (by omega) hT (fun μs μ hq => ?_), fun Tr' N ν Q W b hP hR wt => ?_⟩
  · rcases hk with rfl | rfl
    · refine k53_8 (fun _ => ⟨rfl, hq.2⟩) ?_ ?_ ?_ ?_ ?_ ?_ ?_ ?_ ?_ ?_ ?_ <;> (intros; contradiction)
    · refine k53_8 ?_ (fun _ _ => ⟨rfl, hq.2⟩) ?_ ?_ ?_ ?_ ?_ ?_ ?_ ?_ ?_ ?_ <;> (intros; contradiction)
  · have hb := hR.2.2
    refine RBd_go (by omega) (by omega) hT st8_T (fun μ T P hg hG hK _ _ => ?_)
    obtain ⟨f1, f2⟩ := CPr_last hLT hC hP (show k < L by omega)
    have hx := hG.2.2.1.1
    have fin : ∀ x : Int32, x = nI k → zO X (dr - 1) 126 [.inr 22, .inl x] (zm_up μ 38 b (nI (0 + 1))) (HC X dr P) := fun x hx' => kt_end (by omega) hK hG (by omega) (Rx_Lv hP.1.1 hx f1) ((Rx_tJ hP.1.1 hx f1.1).trans f2.symm) hx'
    rcases hk with rfl | rfl
    · exact go_0 (by omega) hg (fin 0 rfl)
    · exact go_1 (by omega) hg (fin 1 rfl)
theorem GG_29 (hG : GG L μ0 Tb T Q W b p wt s c C μ) : GG L μ0 Tb T Q W b p wt s c (fun _ _ => True) (zm_up μ 22 29 0) := by
  obtain ⟨g1, g2, g3, g4, g5⟩ := hG.2.2.2.1
  exact ⟨Rz_22 hG.1 (by omega), RQ_29 hG.2.1, hG.2.2.1, ⟨by rw [zm_up_row (by decide)]; exact g1, by rw [zm_up_row (by decide)]; exact g2, by rw [zm_up_row (by decide)]; exact g3, by rw [zm_up_row (by decide)]; exact g4, by rw [zm_up_row (by decide)]; exact g5⟩, trivial⟩

theorem jb_var (hd : 3 ≤ d) (hdr : 12 ≤ dr) (hV : V.length ≤ 16) (hT : TT L μ0 e p u n 2 ns) (hC : CPc L T0 Tc D S V h) : JBd X L res T0 μ0 d dr (e + 1) p u n Tc D S V h := by
  obtain ⟨a, ha, ea⟩ := nat_of (l := 12) (hT.2.2.2.2.1.2.2.1 rfl)
  have hvar : ∀ {μ : zm_u}, SA μ0 μ → zI X (d - 1) 33 [.inr 2, .inl (nI (u + n - 1))] μ (fun r μ' => μ' = μ ∧ r = nI a) := fun hs => by
    have := c_argSA (X := X) (d := d - 1) (by omega) hs (q := u + n - 1) (by have := hT.1; omega)
    rw [ea] at this
    exact this
  have cls : ∀ w : Option Nat, V[a]? = w → CM X d μ0 res 53 [.inr 3, .inl (nI (u + n - 1))] Tc D V (oc w) Tc := by
    intro w hw
    refine cm_53 (by omega) hT (fun μs μ1 hq => ?_)
    refine k53_8 ?_ ?_ (fun _ _ _ => ⟨_, hvar hq.1, fun r μ2 hr => ?_⟩) ?_ ?_ ?_ ?_ ?_ ?_ ?_ ?_ ?_ <;> first | (intros; contradiction) | skip
    obtain ⟨rfl, rfl⟩ := hr
    refine k53_81 ⟨_, c_variableAt (by omega) hq.2.1 (by omega), fun r μ3 hr => k53_84 ?_⟩
    obtain ⟨rfl, rfl⟩ := hr
    exact ⟨by rw [hw], hq.2⟩
  have e28 : ∀ μ, SA μ0 μ → μ 28 p = nI a := fun μ hs => by rw [hs.2.2.2.2.1, hT.2.2.2.1, ea]
  by_cases hin : a < V.length
  · obtain ⟨v, hv⟩ : ∃ v, V[a]? = some v := ⟨V[a], List.getElem?_eq_getElem hin⟩
    obtain ⟨f1, f4⟩ := hC.2.2.1 a v hv
    refine ⟨Tc, some v, En_rf hC.1.1 hC.1.2.1, FOc_some f1 (by omega), cls _ hv, fun Tr' N ν Q W b hP hR wt => ?_⟩
    have hb := hR.2.2
    have hlen := hP.2.2.2.1
    obtain ⟨w, hw⟩ : ∃ w, W[a]? = some w := ⟨W[a]'(by omega), List.getElem?_eq_getElem (by omega)⟩
    obtain ⟨f2, f3⟩ := hP.2.2.2.2 a v w hv hw
    refine RBd_go (by omega) (by omega) hT st8_T (fun μ T P hg hG hK hs h19 => ?_)
    have hx := hG.2.2.1.1
    refine go_2 (a := a) (by omega) hg (e28 μ hs) (by omega) (fun _ => ?_) (fun z => absurd ?_ z)
    · have e35 : μ 35 a = nI w := by
        have := hG.2.1.2.2.1.2.2 a w hw
        rw [zm_up_row (by decide)] at this
        exact this
      exact kt_end (by omega) (Kt_mono hK FK_22) (GG_29 hG) (by omega) (Rx_Lv hP.1.1 hx f2) ((Rx_tJ hP.1.1 hx f2.1).trans f3.symm) e35
    · rw [h19, Int32.lt_iff_toInt_lt, nI_t (by omega), nI_t (by omega)]
      omega
  · have hno : V[a]? = none := List.getElem?_eq_none (by omega)
    refine ⟨Tc, none, En_rf hC.1.1 hC.1.2.1, FOc_none, cls _ hno, fun Tr' N ν Q W b hP hR wt => ?_⟩
    have hb := hR.2.2
    have hlen := hP.2.2.2.1
    refine RBd_go (by omega) (by omega) hT st8_T (fun μ T P hg hG hK hs h19 => ?_)
    refine go_2 (a := a) (by omega) hg (e28 μ hs) (by omega) (fun z => absurd z ?_) (fun _ => ?_)
    · rw [h19, Int32.lt_iff_toInt_lt, nI_t (by omega), nI_t (by omega)]
      omega
    · refine hK.1 rfl _ FK_22 (Rz_22 hG.1 (by omega)) ?_
      rw [zm_up_at, if_pos ⟨rfl, rfl⟩]

theorem j_part (hJ : Jc X L res T0 μ0 dc dr e) (hT : TT L μ0 e p u n k ns) (hj : ns[j]? = some m) (hC : CPc L T0 Tc1 D S V h) (hR : Rmc (e + 1) n Tc V h) (h1 : Tc1.length + 11 * m ≤ 466) :
    1 ≤ e ∧ JFd X L res T0 μ0 dc dr e (p + 1 + (ns.take j).sum) (u + (ns.take j).sum) m Tc1 D S V h ∧ ∀ wc, wc < Tc1.length → JIa X L res T0 μ0 dc dr e (p + 1 + (ns.take j).sum) (u + (ns.take j).sum) m Tc1 D S V wc := by
  have hTm := Tl_at ns (p + 1) u j m hT.2.2.2.2.2.2.2 hj
  obtain ⟨a1, a2, a3⟩ := hR
  have he : 1 ≤ e := by
    rcases e with _ | e
    · exact absurd hTm (by simp [Tm])
    · omega
  refine ⟨he, hJ _ _ m hTm Tc1 D S V h hC ⟨h1, by omega, ?_⟩⟩
  have : hqb (e + 1) = hqb e + 2 * e := rfl
  omega
theorem Rmr_part (hR : Rmr (e + 1) n Tr' Q b) (hx : Rn c Tr' T) (hc : c + 11 * m ≤ 11 * n) : Rmr e m T Q (b + 1) := by
  obtain ⟨a1, a2, a3⟩ := hR
  have := hx.2
  exact ⟨by omega, by omega, by omega⟩

theorem cm_both (hd : 5 ≤ d) (hd' : d' + 1 ≤ d) (hT : TT L μ0 e p u n k ns) (h0 : ns[0]? = some m0) (h1 : ns[1]? = some m1)
    (hA : CM X d' μ0 res 46 [.inr 3, .inl (nI (u + (ns.take 0).sum + m0 - 1)), .inl (nI wc)] Tc D V (if ok0 then 1 else 0) Tc1)
    (hB : ok0 = true → CM X d' μ0 res 46 [.inr 3, .inl (nI (u + (ns.take 1).sum + m1 - 1)), .inl (nI wc)] Tc1 D V (if ok1 then 1 else 0) Tc2) (h2 : ok0 = false → ok1 = false ∧ Tc2 = Tc1) {y : Int32} (hy : y = nI wc) :
    CM X d μ0 res 47 [.inr 3, .inl (nI (u + n - 1)), .inl y] Tc D V (if ok1 then 1 else 0) Tc2 := by
  subst hy
  intro μ hs hc
  refine zI_at [0, 1, 2] (by omega) rfl (k47_0 ⟨_, CM_use (cm_part (by omega) hT h0 rfl) (Nat.le_refl _) (CQ_0 hs hc), fun r μ1 hr => ?_⟩)
  obtain ⟨rfl, hq⟩ := hr
  refine k47_10 ⟨_, CM_use hA (by omega) hq, fun r μ2 hr => ?_⟩
  obtain ⟨rfl, hq2⟩ := hr
  cases ok0 with
  | false =>
    obtain ⟨e1, e2⟩ := h2 rfl
    subst e1 e2
    exact k47_14 (fun _ => ⟨rfl, hq2.2⟩) (fun z => absurd rfl z)
  | true =>
    refine k47_14 (fun z => absurd z zn_10) (fun _ => ⟨_, CM_use (cm_part (by omega) hT h1 rfl) (Nat.le_refl _) hq2, fun r μ3 hr => ?_⟩)
    obtain ⟨rfl, hq3⟩ := hr
    refine k47_27 ⟨_, CM_use (hB rfl) (by omega) hq3, fun r μ4 hr => ?_⟩
    obtain ⟨rfl, hq4⟩ := hr
    cases ok1 with
    | false => exact k47_31 (fun _ => ⟨rfl, hq4.2⟩) (fun z => absurd rfl z)
    | true => exact k47_31 (fun z => absurd z zn_10) (fun _ => ⟨rfl, hq4.2⟩)

theorem jb_num (hd : dc + 3 ≤ d) (hdc : 6 ≤ dc) (hdr : 14 ≤ dr) (hLT : LT L res T0) (hJ : Jc X L res T0 μ0 dc dr e) (hT : TT L μ0 e p u n k ns) (hk : k = 3 ∨ k = 4) (hC : CPc L T0 Tc D S V h) (hR : Rmc (e + 1) n Tc V h) : JBd X L res T0 μ0 d dr (e + 1) p u n Tc D S V h := by
  have hL2 := LT_2 hLT
  have hn : ns.length = 2 := by
    rw [hT.2.2.2.2.2.1, ar_ne (by omega)]
    rcases hk with rfl | rfl <;> rfl
  obtain ⟨m0, m1, rfl⟩ : ∃ m0 m1, ns = [m0, m1] := by
    match ns, hn with
    | [x, y], _ => exact ⟨x, y, rfl⟩
  have hsum : n = 1 + (m0 + m1) := by
    have := hT.2.2.2.2.2.2.1
    simp at this
    exact this
  obtain ⟨l0, _⟩ := CPc_last hLT hC (show 0 < L by omega)
  obtain ⟨he, _, q0⟩ := j_part (j := 0) (m := m0) hJ hT rfl hC hR (by have := hR.1; omega)
  obtain ⟨Tc1, ok0, P1, A1, B1⟩ := q0 0 l0
  have hC1 := CPc_mono hC P1.1
  have p1 := P1.2
  obtain ⟨l1, _⟩ := CPc_last hLT hC1 (show 0 < L by omega)
  obtain ⟨_, _, q1⟩ := j_part (j := 1) (m := m1) hJ hT rfl hC1 hR (by have := hR.1; omega)
  obtain ⟨Tc2, ok1, P2, A2, B2⟩ := q1 0 l1

  have go : ∀ {s b : Nat} {μ : zm_u} {P : zm_u → Prop}, s < 90 → GF μ b p s k → (s < 2 → zO X (dr - 2) 127 [.inr 22, .inl (nI p), .inl (nI s), .inl 0] (zm_up μ 38 b (nI (s + 1))) P) → (2 ≤ s → zO X (dr - 2) 126 [.inr 22, .inl (nI (k - 3))] (zm_up μ 38 b (nI (s + 1))) P) → zO X dr 136 [.inr 22] μ P := by
    intro s b μ P hs90 hg h1 h2
    have tw' : ∀ t : Int32, t = nI (k - 3) → zO X (dr - 1) 137 [.inr 22, .inl (nI p), .inl (nI s), .inl 0, .inl t] (zm_up μ 38 b (nI (s + 1))) P := by
      intro t ht
      subst ht
      refine zO_at [0, 1, 2, 3, 4] (by omega) rfl (k137_0 (fun z => ⟨_, ?_, fun μ1 q => k137_21 q⟩) (fun z => ⟨_, ?_, fun μ1 q => k137_12 (k137_21 q)⟩))
      · rw [show (2 : Int32) = nI 2 from rfl, nI_leI (by omega) (by omega)] at z
        exact h2 z
      · rw [show (2 : Int32) = nI 2 from rfl, nI_leI (by omega) (by omega)] at z
        exact h1 (by omega)
    rcases hk with rfl | rfl
    · exact go_3 (by omega) hg (tw' 0 rfl)
    · exact go_4 (by omega) hg (tw' 1 rfl)

  have cls : ∀ (Tc3 : tT) (ok : Bool), CM X (dc + 1) μ0 res 47 [.inr 3, .inl (nI (u + n - 1)), .inl 0] Tc D V (if ok then 1 else 0) Tc3 → CM X d μ0 res 53 [.inr 3, .inl (nI (u + n - 1))] Tc D V (oc (if ok then some (k - 3) else none)) Tc3 := by
    intro Tc3 ok hCM
    refine cm_53 (by omega) hT (fun μs μ1 hq => ?_)
    rcases hk with rfl | rfl
    · refine k53_8 ?_ ?_ ?_ (fun _ _ _ _ => ⟨_, CM_use hCM (by omega) hq, fun r μ2 hr => ?_⟩) ?_ ?_ ?_ ?_ ?_ ?_ ?_ ?_ <;> first | (intros; contradiction) | skip
      obtain ⟨rfl, hq2⟩ := hr
      cases ok with
      | true => exact k53_91 (fun z => absurd z zn_10) (fun _ => ⟨rfl, hq2.2⟩)
      | false => exact k53_91 (fun _ => ⟨rfl, hq2.2⟩) (fun z => absurd rfl z)
    · refine k53_8 ?_ ?_ ?_ ?_ (fun _ _ _ _ _ => ⟨_, CM_use hCM (by omega) hq, fun r μ2 hr => ?_⟩) ?_ ?_ ?_ ?_ ?_ ?_ ?_ <;> first | (intros; contradiction) | skip
      obtain ⟨rfl, hq2⟩ := hr
      cases ok with
      | true => exact k53_106 (fun z => absurd z zn_10) (fun _ => ⟨rfl, hq2.2⟩)
      | false => exact k53_106 (fun _ => ⟨rfl, hq2.2⟩) (fun z => absurd rfl z)
  cases ok0 with
  | false =>
    refine ⟨Tc1, none, En_le P1 (by omega), FOc_none, cls Tc1 false (cm_both (ok0 := false) (ok1 := false) (Tc1 := Tc1) (m0 := m0) (m1 := m1) (wc := 0) (d' := dc) (by omega) (by omega) hT rfl rfl A1 (fun z => absurd z (by simp)) (fun _ => ⟨rfl, rfl⟩) rfl), fun Tr' N ν Q W b hP hRr wt => ?_⟩
    have hb := hRr.2.2
    refine RBd_go (by omega) (by omega) hT st8_T (fun μ T P hg hG hK _ _ => go (s := 0) (by omega) hg (fun _ => ?_) (fun z => by omega))
    have hPT := CPr_mono hC hP (Ex_rf hC.1.1 hC.1.2.1) hG.2.2.1.1
    obtain ⟨f1, f2⟩ := CPr_last hLT hC hPT (show 0 < L by omega)
    exact st_is (i := 0) (m := m0) (wr := 0) (C0 := fun _ _ => True) (c1 := 11 * n) (by omega) (by omega) hT rfl rfl rfl stb_T (B1 T N ν Q W (b + 1) 0 hPT (Rmr_part hRr hG.2.2.1 (by omega)) f1 f2) (fun _ => rfl) (fun z => absurd z (by simp)) (by omega) hG hK
  | true =>
    have hC2 := CPc_mono hC1 P2.1
    obtain ⟨l3, l4, _⟩ := CPc_last hLT hC2 (show k - 3 < L by omega)
    refine ⟨Tc2, if ok1 then some (k - 3) else none, En_tr P1 P2 (by omega), ?_, cls Tc2 ok1 (cm_both (ok0 := true) (ok1 := ok1) (Tc1 := Tc1) (m0 := m0) (m1 := m1) (wc := 0) (d' := dc) (by omega) (by omega) hT rfl rfl A1 (fun _ => A2) (fun z => absurd z (by simp)) rfl), fun Tr' N ν Q W b hP hRr wt => ?_⟩
    · cases ok1 with
      | true => exact FOc_some l3 (by omega)
      | false => exact FOc_none
    have hb := hRr.2.2
    have s2 : ok1 = true → RBd X dr L μ0 N ν n Tr' Q W b p wt 2 (11 * (m0 + m1)) (fun _ _ => True) (Option.map (cT Tc2 S) (if ok1 then some (k - 3) else none)) := by
      intro z
      subst z
      refine RBd_go (by omega) (by omega) hT st8_T (fun μ T P hg hG hK _ _ => go (s := 2) (by omega) hg (fun z => by omega) (fun _ => ?_))
      have hPT := CPr_mono hC hP (Ex_tr P1.1 P2.1) hG.2.2.1.1
      obtain ⟨f1, f2⟩ := CPr_last hLT hC2 hPT (show k - 3 < L by omega)
      exact kt_end (by omega) hK hG (by omega) f1 f2.symm rfl
    have s1 : RBd X dr L μ0 N ν n Tr' Q W b p wt 1 (11 * m0) (fun _ _ => True) (Option.map (cT Tc2 S) (if ok1 then some (k - 3) else none)) := by
      refine RBd_go (by omega) (by omega) hT st8_T (fun μ T P hg hG hK _ _ => go (s := 1) (by omega) hg (fun _ => ?_) (fun z => by omega))
      have hPT := CPr_mono hC hP P1.1 hG.2.2.1.1
      obtain ⟨f1, f2⟩ := CPr_last hLT hC1 hPT (show 0 < L by omega)
      exact st_is (i := 1) (m := m1) (wr := 0) (C0 := fun _ _ => True) (by omega) (by omega) hT rfl rfl rfl stb_T (B2 T N ν Q W (b + 1) 0 hPT (Rmr_part hRr hG.2.2.1 (by omega)) f1 f2) (fun z => by subst z; rfl) s2 (by omega) hG hK
    refine RBd_go (by omega) (by omega) hT st8_T (fun μ T P hg hG hK _ _ => go (s := 0) (by omega) hg (fun _ => ?_) (fun z => by omega))
    have hPT := CPr_mono hC hP (Ex_rf hC.1.1 hC.1.2.1) hG.2.2.1.1
    obtain ⟨f1, f2⟩ := CPr_last hLT hC hPT (show 0 < L by omega)
    exact st_is (i := 0) (m := m0) (wr := 0) (C0 := fun _ _ => True) (c1 := 11 * m0) (by omega) (by omega) hT rfl rfl rfl stb_T (B1 T N ν Q W (b + 1) 0 hPT (Rmr_part hRr hG.2.2.1 (by omega)) f1 f2) (fun z => absurd z (by simp)) (fun _ => s1) (by omega) hG hK
end OP1

section IA
variable {X : zm_T} {d d' dc dB dr L n i j k a b e h hh p u q res m m0 m1 m2 c r c1 r1 s f l wc wr : Nat} {μ μ' μ0 μ1 μs : zm_u} {T T' T1 T0 Tb Tc Tc1 Tc2 Tr' Tr1 Tr2 : tT} {D : Nat → Option Nat} {S S' : Nat → Tr} {V W : List Nat} {N : Nat → Prop} {ν ν' : Nat → Tr} {Q : List (Nat × Nat)} {as : List zm_v} {v x wt : Int32} {t t0 t1 t' : Tr} {ns : List Nat} {x1 x2 : Option Nat} {o : Option Tr} {P : Int32 → zm_u → Prop} {PP : zm_u → Prop} {C C1 : tT → zm_u → Prop} {ok ok0 ok1 ok2 sd : Bool}
theorem th_ix (hw : tw T) : ∀ i, i < T.length → th (tJ T tA i) ≤ i + 1 := by
  intro i
  induction i using Nat.strongRecOn with
  | ind i ih =>
    intro hi
    rcases kd_cases hw hi with ⟨k, e⟩ | ⟨k, e⟩ | ⟨k, a1, a2, e⟩ | ⟨k, a1, e⟩ | ⟨k, e⟩
    · rw [e]; show 1 ≤ i + 1; omega
    · rw [e]; show 1 ≤ i + 1; omega
    · rw [e, th_P]
      have := ih _ a1 (by omega)
      have := ih _ a2 (by omega)
      omega
    · rw [e, th_E]
      have := ih _ a1 (by omega)
      omega
    · rw [e, th_A]; omega
theorem th_all (hC : CPc L T0 Tc D S V h) (hi : i < Tc.length) : th (cT Tc S i) + 3 ≤ i + h := by
  unfold cT
  have h0 := hC.2.2.2 0
  have := th_pos (S 0)
  have h5 := th_ts (S := S) (m := h - 4) (fun n => by have := hC.2.2.2 n; omega) (tJ Tc tA i)
  have := th_ix hC.1.1 i hi
  omega
theorem cm_mono (hM : CM X d μ0 res m as Tc D V v Tc1) (hd : d ≤ d') : CM X d' μ0 res m as Tc D V v Tc1 := fun μ hs hc => zI_mono (hM μ hs hc) hd (fun _ _ q => q)
theorem cm_eqN (hd : 1 ≤ d) : CM X d μ0 res 63 [.inr 3, .inl (-1), .inl v, .inl x] Tc D V 0 Tc :=
  fun μ hs hc => zI_at [0, 1, 2, 3] hd rfl (k63_0 (fun _ => ⟨rfl, hc, CK_rf⟩) (fun z => absurd rfl z) (fun z => absurd rfl z) (fun z => absurd rfl z))

theorem J_of_B (hB : JBd X L res T0 μ0 dB dr (e + 1) p u n Tc D S V h) (hd : dB + 2 ≤ d) (hd46 : 46 ≤ d) (hT : TT L μ0 e p u n k ns) (hk : k ≠ 5 ∧ k ≠ 17) (hk17 : k ≤ 17) (hC : CPc L T0 Tc D S V h) (hR : Rmc (e + 1) n Tc V h) :
    JFd X L res T0 μ0 d dr (e + 1) p u n Tc D S V h ∧ ∀ wc, wc < Tc.length → JIa X L res T0 μ0 d dr (e + 1) p u n Tc D S V wc := by
  obtain ⟨Tc1, o, P1, F1, A1, B1⟩ := hB
  have hC1 := CPc_mono hC P1.1
  have p1 := P1.2
  have hl := hR.1
  have hh := hR.2.2
  have hq1 : hqb (e + 1) = hqb e + 2 * e := rfl
  refine ⟨⟨Tc1, o, P1, F1, cm_mono A1 (by omega), fun Tr' N ν Q W b hP hRr => RBd_find (by have := hRr.2.2; omega) hP.1.1 (B1 Tr' N ν Q W b hP hRr (-1))⟩, fun wc hwc => ?_⟩
  have hwc1 : wc < Tc1.length := by have := P1.1.2.1; omega
  have ewc : cT Tc1 S wc = cT Tc S wc := Ex_cT hC.1.1 P1.1 hwc
  have e5 : ¬ nI k = 5 := by rw [show (5 : Int32) = nI 5 from rfl, nI_inj (by omega) (by omega)]; exact hk.1
  have e17 : ¬ nI k = 17 := by rw [show (17 : Int32) = nI 17 from rfl, nI_inj (by omega) (by omega)]; exact hk.2
  have cls : ∀ ok : Bool, CM X (d - 1) μ0 res 63 [.inr 3, .inl (oc o), .inl (nI wc), .inl 40] Tc1 D V (if ok then 1 else 0) Tc1 → CM X d μ0 res 46 [.inr 3, .inl (nI (u + n - 1)), .inl (nI wc)] Tc D V (if ok then 1 else 0) Tc1 := by
    intro ok hCM μ hs hc
    refine zI_at [0, 1, 2] (by omega) rfl (k46_0 ⟨_, CM_use (cm_op (d := d - 1) (by omega) hT) (Nat.le_refl _) (CQ_0 hs hc), fun r μ1 hr => ?_⟩)
    obtain ⟨rfl, hq⟩ := hr
    refine k46_8 (fun z => absurd z e5) (fun _ z => absurd z e17) (fun _ _ => ⟨_, CM_use A1 (by omega) hq, fun r μ2 hr => ?_⟩)
    obtain ⟨rfl, hq2⟩ := hr
    refine k46_106 ⟨_, CM_use hCM (Nat.le_refl _) hq2, fun r μ3 hr => ?_⟩
    obtain ⟨rfl, hq3⟩ := hr
    cases ok with
    | true => exact k46_112 (Or.inr rfl) ⟨rfl, hq3.2⟩
    | false => exact k46_112 (Or.inl rfl) ⟨rfl, hq3.2⟩
  have ref : ∀ ok : Bool, (ok = true ↔ o.map (cT Tc1 S) = some (cT Tc S wc)) → ∀ (Tr' : tT) (N : Nat → Prop) (ν : Nat → Tr) (Q : List (Nat × Nat)) (W : List Nat) (b wr : Nat), CPr L T0 Tc S V Tr' N ν Q W → Rmr (e + 1) n Tr' Q b → Lv Tr' N wr → cT Tc S wc = tJ Tr' ν wr → RIs X dr L μ0 n Tr' Q W b p wr ok := by
    intro ok hok Tr' N ν Q W b wr hP hRr lw ew
    refine RBd_is (by have := hRr.2.2; omega) hP.1.1 (CPr_N hP) (B1 Tr' N ν Q W b hP hRr (nI wr)) hP.1.2 lw (fun t ht => ?_) (by rw [← ew]; exact hok)
    have := FOc_th F1 ht
    omega
  rcases ho : o with _ | c
  · subst ho
    exact ⟨Tc1, false, P1, cls false (cm_eqN (by omega)), ref false (by simp)⟩
  · subst ho
    obtain ⟨f1, f2⟩ := F1 c rfl
    have eq : ∀ ok : Bool, (ok = true ↔ cT Tc1 S c = cT Tc1 S wc) → CM X (d - 1) μ0 res 63 [.inr 3, .inl (oc (some c)), .inl (nI wc), .inl 40] Tc1 D V (if ok then 1 else 0) Tc1 := by
      intro ok hok μ hs hc
      refine zI_mono (c_areEqual hc hC1.1.2.2 40 (d - 1) c wc (by omega) (by omega) f1 hwc1 (by omega)) (Nat.le_refl _) (fun r μ' q => ?_)
      obtain ⟨rfl, ⟨q1, rfl⟩ | ⟨q1, rfl⟩⟩ := q
      · rw [if_pos (hok.mpr q1)]
        exact ⟨rfl, hc, CK_rf⟩
      · rw [if_neg (fun z => q1 (hok.mp z))]
        exact ⟨rfl, hc, CK_rf⟩
    by_cases z : cT Tc1 S c = cT Tc1 S wc
    · exact ⟨Tc1, true, P1, cls true (eq true (by simp [z])), ref true (by simp [← ewc, z])⟩
    · exact ⟨Tc1, false, P1, cls false (eq false (by simp [z])), ref false (by simp [← ewc, z])⟩

theorem jf_none (hd : 4 ≤ d) (hdr : 10 ≤ dr) (hT : TT L μ0 e p u n k ns) (hk : k = 5 ∨ k = 17) (hC : CPc L T0 Tc D S V h) : JFd X L res T0 μ0 d dr (e + 1) p u n Tc D S V h := by
  refine ⟨Tc, none, En_rf hC.1.1 hC.1.2.1, FOc_none, ?_, fun Tr' N ν Q W b hP hRr => RBd_find (by have := hRr.2.2; omega) hP.1.1 ?_⟩
  · rcases hk with rfl | rfl
    · refine cm_53 (by omega) hT (fun μs μ1 hq => ?_)
      refine k53_8 ?_ ?_ ?_ ?_ ?_ (fun _ _ _ _ _ _ => ⟨fun r' μ' => r' = -1 ∧ CC μ' Tc D V res ∧ CK μs μ', zI_at [0, 1] (by omega) rfl (k55_0 ⟨_, CM_use (cm_op (d := d - 2) (by omega) hT) (Nat.le_refl _) hq, fun r μ2 hr => ?_⟩), fun r μ2 hr => k53_219 hr⟩) ?_ ?_ ?_ ?_ ?_ ?_ <;> first | (intros; contradiction) | skip
      obtain ⟨rfl, hq2⟩ := hr
      refine k55_8 ?_ ?_ ?_ ?_ ?_ ?_ (fun _ _ _ _ _ _ => ⟨rfl, hq2.2⟩) <;> (intros; contradiction)
    · refine cm_55 (by omega) (by omega) hT (fun μs μ1 hq => ?_)
      refine k55_8 ?_ ?_ ?_ ?_ ?_ ?_ (fun _ _ _ _ _ _ => ⟨rfl, hq.2⟩) <;> (intros; contradiction)
  · have hb := hRr.2.2
    rcases hk with rfl | rfl
    · have hn : ns.length = 3 := by rw [hT.2.2.2.2.2.1, ar_ne (by omega)]; rfl
      obtain ⟨m0, hm0⟩ := ns_at (ns := ns) (j := 0) (by omega)
      refine RBd_go (by omega) (by omega) hT st8_T (fun μ T P hg hG hK hs _ => go_5 (by omega) hg (fun x h1 h2 hx => ⟨fun z => by omega, fun _ => ?_, fun z => by omega⟩))
      have e37 : μ 37 b = -1 := by
        have := hG.2.2.2.1.2.1
        rw [zm_up_row (by decide)] at this
        exact this
      obtain rfl := h2 (by rw [e37]; decide)
      exact st_wrong (i := 0) (m := m0) (by omega) (by omega) hT hm0 rfl (Rz_22 hG.1 (by omega)) (by rw [zm_up_at, if_neg (by omega)]; exact hG.2.1.2.2.2.1) (by rw [zm_up_at, if_pos ⟨rfl, rfl⟩]) (Kt_mono hK FK_22)
    · refine RBd_go (by omega) (by omega) hT st8_T (fun μ T P hg hG hK hs _ => go_17 (by omega) hg ?_)
      have e37 := hG.2.2.2.1.2.1
      have cb : (nI b).toNatClampNeg = b := nI_c (by omega)
      have nn : ¬ 0 ≤ (zm_up μ 38 b (nI (0 + 1))) 37 (nI b).toNatClampNeg := by rw [cb, e37]; decide
      refine zO_at [0, 1, 2, 3] (by omega) rfl (k139_0 (by rw [nI_t (by omega)]; omega) (fun z => absurd z nn) (fun z => absurd z nn) (fun z => absurd z nn) (fun _ => Or.inr rfl) (fun _ => k139_70 ?_))
      exact hK.1 rfl _ FK_22 (Rz_22 hG.1 (by omega)) (by rw [zm_up_at, if_pos ⟨rfl, rfl⟩])

theorem ji_if (hd : dc + 1 ≤ d) (hdc : 6 ≤ dc) (hdr : 14 ≤ dr) (hLT : LT L res T0) (hJ : Jc X L res T0 μ0 dc dr e) (hT : TT L μ0 e p u n 5 ns) (hC : CPc L T0 Tc D S V h) (hR : Rmc (e + 1) n Tc V h) (hwc : wc < Tc.length) : JIa X L res T0 μ0 d dr (e + 1) p u n Tc D S V wc := by
  obtain ⟨m0, m1, m2, rfl, hsum⟩ := three_parts hT (by rw [hT.2.2.2.2.2.1, ar_ne (by omega)]; rfl)
  have hL2 := LT_2 hLT
  have hl := hR.1
  have hh := hR.2.2
  obtain ⟨l0, _⟩ := CPc_last hLT hC (show 1 < L by omega)
  obtain ⟨he, _, q0⟩ := j_part (j := 0) (m := m0) hJ hT rfl hC hR (by omega)
  obtain ⟨Tc1, ok0, P1, A1, B1⟩ := q0 1 l0
  have hC1 := CPc_mono hC P1.1
  have p1 := P1.2
  have hwc1 : wc < Tc1.length := by have := P1.1.2.1; omega
  obtain ⟨_, _, q1⟩ := j_part (j := 1) (m := m1) hJ hT rfl hC1 hR (by omega)
  obtain ⟨Tc2, ok1, P2, A2, B2⟩ := q1 wc hwc1
  have hC2 := CPc_mono hC1 P2.1
  have p2 := P2.2
  have hwc2 : wc < Tc2.length := by have := P2.1.2.1; omega
  obtain ⟨_, _, q2⟩ := j_part (j := 2) (m := m2) hJ hT rfl hC2 hR (by omega)
  obtain ⟨Tc3, ok2, P3, A3, B3⟩ := q2 wc hwc2
  have hC3 := CPc_mono hC2 P3.1
  have e1 : cT Tc1 S wc = cT Tc S wc := Ex_cT hC.1.1 P1.1 hwc
  have e2 : cT Tc2 S wc = cT Tc S wc := by rw [Ex_cT hC1.1.1 P2.1 hwc1, e1]
  refine ⟨if ok0 then (if ok1 then Tc3 else Tc2) else Tc1, ok0 && (ok1 && ok2), ?_, fun μ hs hc => ?_, fun Tr' N ν Q W b wr hP hRr lw ew => ?_⟩
  · cases ok0 with
    | false => exact En_le P1 (by omega)
    | true =>
      cases ok1 with
      | false => exact En_tr P1 P2 (by omega)
      | true => exact En_tr (En_tr P1 P2 (Nat.le_refl _)) P3 (by omega)
  · refine zI_at [0, 1, 2] (by omega) rfl (k46_0 ⟨_, CM_use (cm_op (d := d - 1) (by omega) hT) (Nat.le_refl _) (CQ_0 hs hc), fun r μ1 hr => ?_⟩)
    obtain ⟨rfl, hq⟩ := hr
    refine k46_8 (fun _ => ⟨_, CM_use (cm_part (d := d - 1) (by omega) hT rfl rfl) (Nat.le_refl _) hq, fun r μ2 hr => ?_⟩) (fun z => absurd rfl z) (fun z => absurd rfl z)
    obtain ⟨rfl, hq2⟩ := hr
    refine k46_46 ⟨_, CM_use A1 (by omega) hq2, fun r μ3 hr => ?_⟩
    obtain ⟨rfl, hq3⟩ := hr
    cases ok0 with
    | false => exact k46_50 (fun _ => ⟨rfl, hq3.2⟩) (fun z => absurd rfl z)
    | true =>
      refine k46_50 (fun z => absurd z zn_10) (fun _ => ⟨_, CM_use (cm_part (d := d - 1) (by omega) hT rfl rfl) (Nat.le_refl _) hq3, fun r μ4 hr => ?_⟩)
      obtain ⟨rfl, hq4⟩ := hr
      refine k46_63 ⟨_, CM_use A2 (by omega) hq4, fun r μ5 hr => ?_⟩
      obtain ⟨rfl, hq5⟩ := hr
      cases ok1 with
      | false => exact k46_67 (fun _ => ⟨rfl, hq5.2⟩) (fun z => absurd rfl z)
      | true =>
        refine k46_67 (fun z => absurd z zn_10) (fun _ => ⟨_, CM_use (cm_part (d := d - 1) (by omega) hT rfl rfl) (Nat.le_refl _) hq5, fun r μ6 hr => ?_⟩)
        obtain ⟨rfl, hq6⟩ := hr
        refine k46_80 ⟨_, CM_use A3 (by omega) hq6, fun r μ7 hr => ?_⟩
        obtain ⟨rfl, hq7⟩ := hr
        cases ok2 with
        | false => exact k46_84 (fun _ => ⟨rfl, hq7.2⟩) (fun z => absurd rfl z)
        | true => exact k46_84 (fun z => absurd z zn_10) (fun _ => ⟨rfl, hq7.2⟩)
  · have hb := hRr.2.2
    have hq1 : hqb (e + 1) = hqb e + 2 * e := rfl
    have go : ∀ {s : Nat} {μ : zm_u} {T : tT} {c : Nat} {P : zm_u → Prop}, s < 90 → GF μ b p s 5 → GG L μ0 Tr' T Q W b p (nI wr) (s + 1) c (fun _ _ => True) (zm_up μ 38 b (nI (s + 1))) → (s = 0 → zO X (dr - 1) 127 [.inr 22, .inl (nI p), .inl (nI s), .inl 1] (zm_up (zm_up μ 38 b (nI (s + 1))) 22 29 0) P) → (0 < s → s < 3 → zO X (dr - 1) 127 [.inr 22, .inl (nI p), .inl (nI s), .inl (nI wr)] (zm_up (zm_up μ 38 b (nI (s + 1))) 22 29 0) P) → (3 ≤ s → zO X (dr - 1) 126 [.inr 22, .inl (nI wr)] (zm_up (zm_up μ 38 b (nI (s + 1))) 22 29 0) P) → zO X dr 136 [.inr 22] μ P := by
      intro s μ T c P hs90 hg hG h1 h2 h3
      have e37 : μ 37 b = nI wr := by
        have := hG.2.2.2.1.2.1
        rw [zm_up_row (by decide)] at this
        exact this
      have lw1 := lw.1
      have := hRr.1
      refine go_5 (by omega) hg (fun x y1 y2 hx => ?_)
      obtain rfl := y1 (by rw [e37]; exact nI_ge0 (by omega))
      rw [e37]
      exact ⟨h3, h1, h2⟩
    have lwT : ∀ T, Rx Tr' T → Lv T N wr ∧ tJ T ν wr = cT Tc S wc := fun T hx => ⟨Rx_Lv hP.1.1 hx lw, by rw [Rx_tJ hP.1.1 hx lw.1, ew]⟩
    refine RBd_is (o := if ok0 && (ok1 && ok2) then some (cT Tc S wc) else none) (by omega) hP.1.1 (CPr_N hP) ?_ hP.1.2 lw (fun t ht => ?_) ?_
    · have s3 : ok0 = true → ok1 = true → ok2 = true → RBd X dr L μ0 N ν n Tr' Q W b p (nI wr) 3 (11 * m0 + 11 * m1 + 11 * m2) (fun _ _ => True) (if ok0 && (ok1 && ok2) then some (cT Tc S wc) else none) := by
        intro z0 z1 z2
        subst z0 z1 z2
        refine RBd_go (by omega) (by omega) hT st8_T (fun μ T P hg hG hK _ _ => go (s := 3) (by omega) hg hG (fun z => by omega) (fun _ z => by omega) (fun _ => ?_))
        obtain ⟨f1, f2⟩ := lwT T hG.2.2.1.1
        exact kt_end (by omega) (Kt_mono hK FK_22) (GG_29 hG) (by omega) f1 f2 rfl
      have s2 : ok0 = true → ok1 = true → RBd X dr L μ0 N ν n Tr' Q W b p (nI wr) 2 (11 * m0 + 11 * m1) (fun _ _ => True) (if ok0 && (ok1 && ok2) then some (cT Tc S wc) else none) := by
        intro z0 z1
        refine RBd_go (by omega) (by omega) hT st8_T (fun μ T P hg hG hK _ _ => go (s := 2) (by omega) hg hG (fun z => by omega) (fun _ _ => ?_) (fun z => by omega))
        obtain ⟨f1, f2⟩ := lwT T hG.2.2.1.1
        exact st_is (i := 2) (m := m2) (by omega) (by omega) hT rfl rfl rfl stb_T (B3 T N ν Q W (b + 1) wr (CPr_mono hC hP (Ex_tr P1.1 P2.1) hG.2.2.1.1) (Rmr_part hRr hG.2.2.1 (by omega)) f1 (by rw [e2, f2])) (fun z => by subst z z0 z1; rfl) (fun z => s3 z0 z1 z) (by omega) (GG_29 hG) (Kt_mono hK FK_22)
      have s1 : ok0 = true → RBd X dr L μ0 N ν n Tr' Q W b p (nI wr) 1 (11 * m0) (fun _ _ => True) (if ok0 && (ok1 && ok2) then some (cT Tc S wc) else none) := by
        intro z0
        refine RBd_go (by omega) (by omega) hT st8_T (fun μ T P hg hG hK _ _ => go (s := 1) (by omega) hg hG (fun z => by omega) (fun _ _ => ?_) (fun z => by omega))
        obtain ⟨f1, f2⟩ := lwT T hG.2.2.1.1
        exact st_is (i := 1) (m := m1) (by omega) (by omega) hT rfl rfl rfl stb_T (B2 T N ν Q W (b + 1) wr (CPr_mono hC hP P1.1 hG.2.2.1.1) (Rmr_part hRr hG.2.2.1 (by omega)) f1 (by rw [e1, f2])) (fun z => by subst z z0; rfl) (fun z => s2 z0 z) (by omega) (GG_29 hG) (Kt_mono hK FK_22)
      refine RBd_go (by omega) (by omega) hT st8_T (fun μ T P hg hG hK _ _ => go (s := 0) (by omega) hg hG (fun _ => ?_) (fun z => by omega) (fun z => by omega))
      have hPT := CPr_mono hC hP (Ex_rf hC.1.1 hC.1.2.1) hG.2.2.1.1
      obtain ⟨f1, f2⟩ := CPr_last hLT hC hPT (show 1 < L by omega)
      exact st_is (i := 0) (m := m0) (wr := 1) (by omega) (by omega) hT rfl rfl rfl stb_T (B1 T N ν Q W (b + 1) 1 hPT (Rmr_part hRr hG.2.2.1 (by omega)) f1 f2) (fun z => by subst z; rfl) s1 (by omega) (GG_29 hG) (Kt_mono hK FK_22)
    · split at ht
      · simp only [Option.some.injEq] at ht
        subst ht
        have := th_all hC hwc
        omega
      · simp at ht
    · rw [← ew]
      split
      · rename_i z; simp [z]
      · rename_i z; simp [z]
end IA

section CS10
variable {X : zm_T} {d d' L n i j k a b e h hh hf p u q res m c v w ip r : Nat} {μ μ' μ0 μ1 μs : zm_u} {T T' T1 T0 Tc Tc1 Tc2 Tce Tcv : tT} {D D' : Nat → Option Nat} {S S' : Nat → Tr} {V V' W W' : List Nat} {N N' : Nat → Prop} {ν ν' : Nat → Tr} {Q Q' : List (Nat × Nat)} {x y part : Int32} {ok op : Bool} {A B Xx : Tr}
theorem nR_F (hw : tw T) (hl : T.length < 600) : Rn 1 T (nRm T) ∧ (nRm T)[T.length]? = some (4, 100 + T.length, 0) := ⟨⟨nn_Rx hw hl, by rw [nR_len]; omega⟩, app_at⟩
theorem dT_F (hw : tw T) (hl : T.length + 3 ≤ 600) : Rn 3 T (dT T) ∧ (dT T)[T.length]? = some (4, 100 + T.length, 0) ∧ (dT T)[T.length + 1]? = some (4, 100 + (T.length + 1), 0) ∧ (dT T)[dq T]? = some (2, T.length, T.length + 1) ∧ Rx (nRm (nRm T)) (dT T) := by
  obtain ⟨a1, a2⟩ := nR_F hw (by omega)
  have n1 := nR_len T
  obtain ⟨b1, b2⟩ := nR_F a1.1.2.2 (show (nRm T).length < 600 by omega)
  have n2 := nR_len (nRm T)
  obtain ⟨c1, c2, c3⟩ := tput_R (q := (2, T.length, T.length + 1)) b1.1.2.2 (Or.inl ⟨rfl, by show T.length < _; omega, by show T.length + 1 < _; omega⟩) (by show T.length < 10000; omega) (by show T.length + 1 < 10000; omega)
  have c1' : Rx (nRm (nRm T)) (dT T) := c1
  have c2' : (dT T).length ≤ (nRm (nRm T)).length + 1 := c2
  refine ⟨⟨Rx_tr a1.1 (Rx_tr b1.1 c1'), by omega⟩, ?_, ?_, c3, c1'⟩
  · rw [c1'.1 T.length (by omega), b1.1.1 T.length (by omega)]; exact a2
  · rw [c1'.1 (T.length + 1) (by omega)]
    rw [n1] at b2
    exact b2
theorem nN_F (hw : tw Tc) (hc : cnm Tc) (hl : Tc.length < 466) : En 1 Tc (nNm Tc) ∧ (nNm Tc)[Tc.length]? = some (4, 3 + Tc.length, 0) := ⟨⟨(new_Ex hw hc hl).1, by simp [nNm]⟩, app_at⟩
theorem TD_new (hD : TD Tc D S) (hi : Tc.length ≤ i) : S i = tA i := by
  rcases h : D i with _ | t
  · exact (hD i).1 h
  · obtain ⟨⟨a, b, hq⟩, _⟩ := (hD i).2 t h
    have := tw_lt hq
    omega
theorem ta_ne {t : Tr} (h : ta (fun l => l < n) t) (hi : n ≤ i) : t ≠ tA i := by
  intro z
  rw [z] at h
  have : i < n := h
  omega
theorem cs_left (hC : CPc L T0 Tc D S V h) (hi : Pip Tc D S ip) (hh1 : th (cT Tc S ip) + 1 ≤ h) (hl : Tc.length + crm 16 ≤ 466) (hV : V.length + 3 ≤ 16) : Copen X L res T0 μ0 16 ip Tc D S V (h + 1) := by
  obtain ⟨i1, i2, i3⟩ := hi
  have hw := hC.1.1
  have hcr : crm 16 = 3 := rfl
  have hco : com 16 = 3 := rfl
  have hkp := (kd_w hw i1).1
  have h4 : 4 ≤ h := by have := hC.2.2.2 0; have := th_pos (S 0); omega
  have hE : ∀ d, 1 ≤ d → CM X d μ0 res 50 [.inr 3, .inl (nI 16), .inl (nI ip)] Tc D V (nI ip) Tc := fun d hd => eq_same (m := 16) hd (by omega)
  obtain ⟨n1, n2⟩ := nN_F hw hC.1.2.1 (by omega)
  have nl : (nNm Tc).length = Tc.length + 1 := by simp [nNm]
  have hC1 := CPc_mono hC n1.1
  have v1 : vc (nNm Tc) (some ip) := fun i hi => by simp at hi; omega
  have v2 : vc (nNm Tc) (some Tc.length) := fun i hi => by simp at hi; omega
  obtain ⟨g1, g2, g3⟩ := cPair_m (S := S) hC1.1.1 hC1.1.2.1 (by omega) v1 v2
  have g3' : Option.map (cT (tput (nNm Tc) (2, ip, Tc.length)).1 S) (some (tput (nNm Tc) (2, ip, Tc.length)).2) = o2 tP (some (cT (nNm Tc) S ip)) (some (cT (nNm Tc) S Tc.length)) := g3
  simp only [Option.map_some, o2, Option.some.injEq] at g3'
  have g1' : En 1 (nNm Tc) (tput (nNm Tc) (2, ip, Tc.length)).1 := g1
  have eA : cT (nNm Tc) S Tc.length = tA Tc.length := by
    unfold cT
    rw [tJ_4 n2, ts_A]
    exact TD_new hC.1.2.2 (Nat.le_refl _)
  have ei : cT (nNm Tc) S ip = cT Tc S ip := Ex_cT hw n1.1 i1
  rw [ei, eA] at g3'
  have hC2 := CPc_h (CPc_mono hC1 g1'.1) (show h ≤ h + 1 by omega)
  have t1 := tput_l (nNm Tc) (2, ip, Tc.length)
  obtain ⟨k1', k2', k3', k4'⟩ := env_c (a := (tput (nNm Tc) (2, ip, Tc.length)).2) hC2 t1.1 (by
    rw [g3', th_P, th_A]
    have := th_pos (cT Tc S ip)
    omega) (by omega)
  refine ⟨Tc, _, D, S, _, En_rf hw hC.1.2.1, En_tr (En_tr n1 g1' (Nat.le_refl _)) k2' (by omega), k1', by simp only [List.length_append, List.length_singleton]; omega, fun y d hd => cm49_nopart (by omega) (hE _ (by omega)) (at_kd i1) ⟨_, _, at_kd i1⟩ hkp hkp (Or.inr rfl), fun part y ok Tc2 d d' hpart hdd hd hI => cm49_go (by omega) (hE _ (by omega)) (at_kd i1) ⟨_, _, at_kd i1⟩ hkp hkp (Or.inr rfl) hpart (by omega) (by omega) (by omega) (co_left (by omega) (by omega) (by omega) i1) ⟨_, rfl⟩ i2 (by rw [if_neg (fun z => z.2 rfl)]) hI hdd, fun T N ν Q W e b μ d hd hR => ?_⟩
  obtain ⟨hP, le, ee, hq', hT6, hQ⟩ := hR
  have hWl := hP.2.2.2.1
  obtain ⟨m1, m2⟩ := nR_F hP.1.1 (show T.length < 600 by omega)
  have ml := nR_len T
  have hM1 : MO (nRm T) (addN N T.length) (updν ν T.length (tA Tc.length)) Q := MO_new hP.1.1 m1.1 hP.1.2 (CPr_N hP) rfl (fun i ni => ta_ne (hP.2.2.1 i ni).2 (Nat.le_refl _))
  have hP1 := CPr_mono hC hP n1.1 (Rx_rf hP.1.1)
  have xν : updν ν T.length (tA Tc.length) T.length = tA Tc.length := by unfold updν; rw [if_pos rfl]
  obtain ⟨hP2, tr⟩ := CPr_new (ν1 := updν ν T.length (tA Tc.length)) hP1 m1.1 (fun i ni => Or.inl ni) (fun i hi => by unfold updν; rw [if_neg (by omega)]) hM1 (fun i ni => by
    rcases ni with ni | rfl
    · have := hP1.2.2.1 i ni
      refine ⟨by omega, ?_⟩
      unfold updν
      rw [if_neg (by omega)]
      exact this.2
    · refine ⟨by omega, ?_⟩
      rw [xν]
      show Tc.length < (nNm Tc).length
      omega)
  obtain ⟨le1, ee1⟩ := tr e le
  have lx : Lv (nRm T) (addN N T.length) T.length := Lv_of4 (by omega) (kd_at m2).1 (Or.inr rfl)
  obtain ⟨y1, y2, y3⟩ := r_pair (ν := updν ν T.length (tA Tc.length)) m1.1.2.2 (by omega) le1 lx
  have hP3 := CPr_mono hC1 hP2 g1'.1 y1.1
  have s1 := tput_l (nRm T) (2, e, T.length)
  have ec : cT (tput (nNm Tc) (2, ip, Tc.length)).1 S (tput (nNm Tc) (2, ip, Tc.length)).2 = tJ (tput (nRm T) (2, e, T.length)).1 (updν ν T.length (tA Tc.length)) (tput (nRm T) (2, e, T.length)).2 := by rw [g3', y3, ee1, ee, tJ_4 m2, xν]
  obtain ⟨q1, q2, q3, q4⟩ := env_r hC2 hP3 t1.1 (by omega) y2 ec (by omega)
  refine zI_mono (rc_left (L := L) hd hq' hP.2.1.1 le.1 (by omega) (by omega) ⟨_, _, hM1⟩) (Nat.le_refl _) (fun r μ' hr => ?_)
  rcases hr with ⟨_, rfl, hs⟩ | ⟨z, _⟩
  · refine ⟨rfl, hs.1, _, _, _, _, _, hs.2.1, Rn_tr (Rn_tr m1 y1 (Nat.le_refl _)) q2 (by omega), q1, ⟨[], by simp, by simp⟩, ⟨_, rfl⟩, fun c r hc hr er => ?_⟩
    obtain ⟨z1, z2⟩ := tr r hr
    refine ⟨Rx_Lv m1.1.2.2 (Rx_tr y1.1 q2.1) z1, ?_⟩
    rw [Ex_cT hw (Ex_tr (Ex_tr n1.1 g1'.1) k2'.1) hc, Rx_tJ m1.1.2.2 (Rx_tr y1.1 q2.1) z1.1, z2]
    exact er
  · simp at z
theorem Wb_add (h : Wb n Q) (ha : a < n) (hb : b < n) : Wb n (Q ++ [(a, b)]) := by
  intro a' b' hm
  rcases List.mem_append.mp hm with hm | hm
  · exact h a' b' hm
  · simp only [List.mem_singleton, Prod.mk.injEq] at hm
    rw [hm.1, hm.2]
    exact ⟨ha, hb⟩
theorem cs_duo (hC : CPc L T0 Tc D S V h) (hi : Pip Tc D S ip) (hh1 : th (cT Tc S ip) + 1 ≤ h) (hl : Tc.length + crm 15 ≤ 466) (hV : V.length + 3 ≤ 16) : Cclosed X L res T0 μ0 15 ip Tc D S V ∨ Copen X L res T0 μ0 15 ip Tc D S V (h + 1) := by
  obtain ⟨i1, i2, i3⟩ := hi
  have hw := hC.1.1
  have hcr : crm 15 = 8 := rfl
  have hco : com 15 = 5 := rfl
  have hkp := (kd_w hw i1).1
  have h4 : 4 ≤ h := by have := hC.2.2.2 0; have := th_pos (S 0); omega
  have hat := at_kd i1
  by_cases hk2 : kd Tc ip = 2
  ·
    right
    rw [hk2] at hat
    have wk := (kd_w hw i1).2.1 hk2
    generalize ea : k1 Tc ip = a at *
    generalize eb : k2 Tc ip = b at *
    have eM : cT Tc S ip = tP (cT Tc S a) (cT Tc S b) := by
      unfold cT
      rw [tJ_2 hw hat]
      rfl
    have hE : ∀ d, 3 ≤ d → CM X d μ0 res 50 [.inr 3, .inl (nI 15), .inl (nI ip)] Tc D V (nI ip) Tc := fun d hd => eq_pair hd hat
    rw [eM, th_P] at hh1
    obtain ⟨g1, g2, g3, g4⟩ := env_c (a := a) hC (by omega) (by omega) (by omega)
    have t1 := tput_l Tc (3, a, 0)
    have eb1 : cT (tput Tc (3, a, 0)).1 S b = cT Tc S b := Ex_cT hw g2.1 (by omega)
    obtain ⟨k1', k2', k3', k4'⟩ := env_c (a := b) g1 (by omega) (by rw [eb1]; omega) (by omega)
    have t2 := tput_l (tput Tc (3, a, 0)).1 (3, b, 0)
    refine ⟨Tc, _, D, S, _, En_rf hw hC.1.2.1, En_tr g2 k2' (by omega), CPc_h k1' (by omega), by simp only [List.length_append, List.length_singleton]; omega, fun y d hd => cm49_nopart (by omega) (hE _ (by omega)) hat ⟨_, _, hat⟩ (by omega) (by omega) (Or.inr rfl), fun part y ok Tc2 d d' hpart hdd hd hI => cm49_go (by omega) (hE _ (by omega)) hat ⟨_, _, hat⟩ (by omega) (by omega) (Or.inr rfl) hpart (by omega) (by omega) (by omega) (co_duo (by omega) (by omega) (by omega) (by omega) hat (by omega) (by omega)) ⟨[(tput Tc (3, a, 0)).2, (tput (tput Tc (3, a, 0)).1 (3, b, 0)).2], by simp⟩ i2 (by rw [if_neg (fun z => absurd z.1 (by decide))]) hI hdd, fun T N ν Q W e bb μ d hd hR => ?_⟩
    obtain ⟨hP, le, ee, hq', hT6, hQ⟩ := hR
    have hWl := hP.2.2.2.1
    obtain ⟨d1, d2, d3, d4, d5⟩ := dT_F hP.1.1 (show T.length + 3 ≤ 600 by omega)
    obtain ⟨dl1, dl2, dl3⟩ := dT_len T
    rw [eM] at ee
    have hM := MO_duo (A := cT Tc S a) (B := cT Tc S b) hP.1.1 hP.1.2 (CPr_N hP) d1.1 le ee d2 d3 d4 rfl
    have taM : ta (fun l => l < Tc.length) (tP (cT Tc S a) (cT Tc S b)) := by
      rw [← ee]
      exact ta_tJ hP.1.1 (fun i ni => (hP.2.2.1 i ni).2) e le.1 le.2
    have nx : updν (updν ν T.length (cT Tc S a)) (T.length + 1) (cT Tc S b) T.length = cT Tc S a := by unfold updν; rw [if_neg (by omega), if_pos rfl]
    have ny : updν (updν ν T.length (cT Tc S a)) (T.length + 1) (cT Tc S b) (T.length + 1) = cT Tc S b := by unfold updν; rw [if_pos rfl]
    have no : ∀ i, i < T.length → updν (updν ν T.length (cT Tc S a)) (T.length + 1) (cT Tc S b) i = ν i := fun i hi => by unfold updν; rw [if_neg (by omega), if_neg (by omega)]
    obtain ⟨hP2, tr⟩ := CPr_new hP d1.1 (fun i ni => Or.inl (Or.inl ni)) no hM (fun i ni => by
      rcases ni with (ni | rfl) | rfl
      · have := hP.2.2.1 i ni
        refine ⟨by omega, ?_⟩
        rw [no i this.1]
        exact this.2
      · refine ⟨by omega, ?_⟩
        rw [nx]
        exact taM.1
      · refine ⟨by omega, ?_⟩
        rw [ny]
        exact taM.2)
    generalize updν (updν ν T.length (cT Tc S a)) (T.length + 1) (cT Tc S b) = ν' at hM nx ny no hP2 tr
    have lx : Lv (dT T) (addN (addN N T.length) (T.length + 1)) T.length := Lv_of4 (by omega) (kd_at d2).1 (Or.inl (Or.inr rfl))
    have ly : Lv (dT T) (addN (addN N T.length) (T.length + 1)) (T.length + 1) := Lv_of4 (by omega) (kd_at d3).1 (Or.inr rfl)
    obtain ⟨q1, q2, q3, q4⟩ := env_r hC hP2 (show a < Tc.length by omega) (by omega) lx (by rw [tJ_4 d2, nx]) (by omega)
    have s1 := tput_l (dT T) (3, T.length, 0)
    obtain ⟨r1, r2, r3, r4⟩ := env_r g1 q1 (show b < (tput Tc (3, a, 0)).1.length by omega) (by omega) (Rx_Lv d1.1.2.2 q2.1 ly) (by rw [eb1, Rx_tJ d1.1.2.2 q2.1 ly.1, tJ_4 d3, ny]) (by omega)
    refine zI_mono (rc_duo (L := L) (op := true) hd hq' hP.2.1.1 (by omega) (by omega) (by omega) ⟨fun _ => ⟨_, _, hM⟩, fun z => by simp at z⟩) (Nat.le_refl _) (fun r μ' hr => ?_)
    rcases hr with ⟨_, rfl, hs⟩ | ⟨z, _⟩
    · refine ⟨rfl, hs.1, _, _, _, _, _, hs.2.1, Rn_tr (Rn_tr d1 q2 (Nat.le_refl _)) r2 (by omega), r1, ⟨_, rfl, by simp⟩, ⟨[(tput (dT T) (3, T.length, 0)).2, (tput (tput (dT T) (3, T.length, 0)).1 (3, T.length + 1, 0)).2], by simp⟩, fun c r hc hr er => ?_⟩
      obtain ⟨z1, z2⟩ := tr r hr
      refine ⟨Rx_Lv d1.1.2.2 (Rx_tr q2.1 r2.1) z1, ?_⟩
      rw [Ex_cT hw (Ex_tr g2.1 k2'.1) hc, Rx_tJ d1.1.2.2 (Rx_tr q2.1 r2.1) z1.1, z2]
      exact er
    · simp at z
  ·
    obtain ⟨n1, n2⟩ := nN_F hw hC.1.2.1 (show Tc.length < 466 by omega)
    have nl : (nNm Tc).length = Tc.length + 1 := by simp [nNm]
    obtain ⟨o1, o2'⟩ := nN_F n1.1.2.2.1 n1.1.2.2.2 (show (nNm Tc).length < 466 by omega)
    have nl2 : (nNm (nNm Tc)).length = Tc.length + 2 := by
      have : (nNm (nNm Tc)).length = (nNm Tc).length + 1 := by simp [nNm]
      omega
    obtain ⟨p1, p2, p3⟩ := tput_Ex (q := (2, Tc.length, Tc.length + 1)) o1.1.2.2.1 o1.1.2.2.2 (Or.inl ⟨rfl, by show Tc.length < _; omega, by show Tc.length + 1 < _; omega⟩) (by show Tc.length < 10000; omega) (by show Tc.length + 1 < 10000; omega) (fun z => by simp at z)
    have hE : ∀ d, 4 ≤ d → CM X d μ0 res 50 [.inr 3, .inl (nI 15), .inl (nI ip)] Tc D V (nI (tput (nNm (nNm Tc)) (2, Tc.length, Tc.length + 1)).2) (tput (nNm (nNm Tc)) (2, Tc.length, Tc.length + 1)).1 := fun d hd => eq_duo hd hat hk2 hkp (by omega)
    have tl := tput_l (nNm (nNm Tc)) (2, Tc.length, Tc.length + 1)
    generalize eTe : (tput (nNm (nNm Tc)) (2, Tc.length, Tc.length + 1)).1 = Te at *
    generalize eqc : (tput (nNm (nNm Tc)) (2, Tc.length, Tc.length + 1)).2 = qc at *
    have hEn : En 3 Tc Te := En_tr (En_tr n1 o1 (Nat.le_refl _)) ⟨p1, p2⟩ (by omega)
    have hatE : Te[ip]? = some (kd Tc ip, k1 Tc ip, k2 Tc ip) := Ex_at hEn.1 hat
    have hx : Te[Tc.length]? = some (4, 3 + Tc.length, 0) := Ex_at p1 (Ex_at o1.1 n2)
    have hy : Te[Tc.length + 1]? = some (4, 3 + (nNm Tc).length, 0) := by
      rw [nl] at o2'
      have := Ex_at p1 o2'
      rw [nl]
      exact this
    by_cases k4 : kd Tc ip = 4
    ·
      right
      rw [k4] at hatE
      have hM0 := i3 k4
      have hne : qc ≠ ip := by
        intro z
        rw [z, hatE] at p3
        simp at p3
      have hC1 := CPc_mono hC hEn.1
      have eX : cT Te (sS ip (tP (tA Tc.length) (tA (Tc.length + 1))) S) qc = tP (tA Tc.length) (tA (Tc.length + 1)) := by
        rw [cT_sS]
        have : cT Te S qc = tP (tA Tc.length) (tA (Tc.length + 1)) := by
          unfold cT
          rw [tJ_2 hEn.1.2.2.1 p3, tJ_4 hx, tJ_4 hy, ts_P, ts_A, ts_A, TD_new hC.1.2.2 (Nat.le_refl _), TD_new hC.1.2.2 (by omega)]
        rw [this, ts_P, ts_A, ts_A, sb_o (by omega), sb_o (by omega)]
      have hX2 : th (tP (tA Tc.length) (tA (Tc.length + 1))) ≤ 2 := by rw [th_P, th_A, th_A]; omega
      have hC2 := CPc_told hC1 i2 ⟨_, _, hatE⟩ ⟨_, _, _, p3, by omega⟩ hX2 eX
      have cα : cT Te (sS ip (tP (tA Tc.length) (tA (Tc.length + 1))) S) Tc.length = tA Tc.length := by
        rw [cT_sS]
        unfold cT
        rw [tJ_4 hx, ts_A, TD_new hC.1.2.2 (Nat.le_refl _), ts_A, sb_o (by omega)]
      have cβ : cT Te (sS ip (tP (tA Tc.length) (tA (Tc.length + 1))) S) (Tc.length + 1) = tA (Tc.length + 1) := by
        rw [cT_sS]
        unfold cT
        rw [tJ_4 hy, ts_A, TD_new hC.1.2.2 (by omega), ts_A, sb_o (by omega)]
      have lα := tw_lt hx
      have lβ := tw_lt hy
      have hEl := hEn.2
      obtain ⟨g1, g2, g3, g4⟩ := env_c (a := Tc.length) hC2 lα (by rw [cα, th_A]; omega) (by omega)
      have t1 := tput_l Te (3, Tc.length, 0)
      have cβ1 : cT (tput Te (3, Tc.length, 0)).1 (sS ip (tP (tA Tc.length) (tA (Tc.length + 1))) S) (Tc.length + 1) = tA (Tc.length + 1) := by rw [Ex_cT hEn.1.2.2.1 g2.1 lβ, cβ]
      obtain ⟨k1', k2', k3', k4'⟩ := env_c (a := Tc.length + 1) g1 (by omega) (by rw [cβ1, th_A]; omega) (by omega)
      refine ⟨Te, _, _, _, _, En_le hEn (by omega), En_tr hEn (En_tr g2 k2' (Nat.le_refl _)) (by omega), k1', by simp only [List.length_append, List.length_singleton]; omega, fun y d hd => cm49_nopart (by omega) (hE _ (by omega)) hatE ⟨_, _, p3⟩ (by omega) (by omega) (Or.inl rfl), fun part y ok Tc2 d d' hpart hdd hd hI => cm49_go (by omega) (hE _ (by omega)) hatE ⟨_, _, p3⟩ (by omega) (by omega) (Or.inl rfl) hpart (by omega) (by omega) (by omega) (co_duo (by omega) (by omega) (by omega) (by omega) p3 lα lβ) ⟨[(tput Te (3, Tc.length, 0)).2, (tput (tput Te (3, Tc.length, 0)).1 (3, Tc.length + 1, 0)).2], by simp⟩ i2 (by rw [if_pos ⟨rfl, hne⟩]) hI hdd, fun T N ν Q W e bb μ d hd hR => ?_⟩
      obtain ⟨hP, le, ee, hq', hT6, hQ⟩ := hR
      have hWl := hP.2.2.2.1
      obtain ⟨d1, d2, d3, d4, d5⟩ := dT_F hP.1.1 (show T.length + 3 ≤ 600 by omega)
      obtain ⟨dl1, dl2, dl3⟩ := dT_len T
      obtain ⟨m1, m2⟩ := nR_F hP.1.1 (show T.length < 600 by omega)
      have ml := nR_len T
      obtain ⟨m3, m4⟩ := nR_F m1.1.2.2 (show (nRm T).length < 600 by omega)
      have hM1 : MO (nRm T) (addN N T.length) (updν ν T.length (tA Tc.length)) Q := MO_new hP.1.1 m1.1 hP.1.2 (CPr_N hP) rfl (fun i ni => ta_ne (hP.2.2.1 i ni).2 (Nat.le_refl _))
      have hM2 := MO_new (l := Tc.length + 1) m1.1.2.2 m3.1 hM1 (fun i ni => by
        rcases ni with ni | rfl
        · have := CPr_N hP i ni; omega
        · omega) rfl (fun i ni => by
        rcases ni with ni | rfl
        · have := (hP.2.2.1 i ni)
          unfold updν
          rw [if_neg (by omega)]
          exact ta_ne this.2 (by omega)
        · unfold updν
          rw [if_pos rfl]
          intro z
          have := tA_inj z
          omega)
      rw [ml] at hM2
      have hN2 : ∀ i, addN (addN N T.length) (T.length + 1) i → i < (nRm (nRm T)).length := fun i ni => by
        have ml2 := nR_len (nRm T)
        rcases ni with (ni | rfl) | rfl
        · have := CPr_N hP i ni; omega
        · omega
        · omega
      have hM3 := MO_Rx m3.1.2.2 d5 hN2 hM2
      have nx : updν (updν ν T.length (tA Tc.length)) (T.length + 1) (tA (Tc.length + 1)) T.length = tA Tc.length := by unfold updν; rw [if_neg (by omega), if_pos rfl]
      have ny : updν (updν ν T.length (tA Tc.length)) (T.length + 1) (tA (Tc.length + 1)) (T.length + 1) = tA (Tc.length + 1) := by unfold updν; rw [if_pos rfl]
      have no : ∀ i, i < T.length → updν (updν ν T.length (tA Tc.length)) (T.length + 1) (tA (Tc.length + 1)) i = ν i := fun i hi => by unfold updν; rw [if_neg (by omega), if_neg (by omega)]
      have hP1 := CPr_mono hC hP hEn.1 (Rx_rf hP.1.1)
      obtain ⟨hP2, tr⟩ := CPr_new hP1 d1.1 (fun i ni => Or.inl (Or.inl ni)) no hM3 (fun i ni => by
        rcases ni with (ni | rfl) | rfl
        · have := hP1.2.2.1 i ni
          refine ⟨by omega, ?_⟩
          rw [no i this.1]
          exact this.2
        · refine ⟨by omega, ?_⟩
          rw [nx]
          exact lα
        · refine ⟨by omega, ?_⟩
          rw [ny]
          exact lβ)
      generalize updν (updν ν T.length (tA Tc.length)) (T.length + 1) (tA (Tc.length + 1)) = ν2 at hM2 hM3 nx ny no hP2 tr
      obtain ⟨le2, ee2⟩ := tr e le
      have lx : Lv (dT T) (addN (addN N T.length) (T.length + 1)) T.length := Lv_of4 (by omega) (kd_at d2).1 (Or.inl (Or.inr rfl))
      have ly : Lv (dT T) (addN (addN N T.length) (T.length + 1)) (T.length + 1) := Lv_of4 (by omega) (kd_at d3).1 (Or.inr rfl)
      have lq : Lv (dT T) (addN (addN N T.length) (T.length + 1)) (dq T) := ⟨dl3, by
        rw [tJ_2 d1.1.2.2 d4]
        exact ⟨lx.2, ly.2⟩⟩
      have hM4 := MO_sub (l := ip) (X := tP (tA Tc.length) (tA (Tc.length + 1))) d1.1.2.2 hM3 le2 (by rw [ee2, ee, hM0]) lq (by rw [(kd_at d4).1]; omega) (by show (2 : Nat) ≠ 4; decide) (by
        rw [tJ_2 d1.1.2.2 d4, tJ_4 d2, tJ_4 d3]
        show tP (ts _ (ν2 T.length)) (ts _ (ν2 (T.length + 1))) = _
        rw [nx, ny, ts_A, ts_A, sb_o (by omega), sb_o (by omega)])
      have hP3 := CPr_told hP2 hM4 (show ta (fun l => l < Te.length) (tP (tA Tc.length) (tA (Tc.length + 1))) from ⟨lα, lβ⟩)
      have vx : tJ (dT T) (fun j => ts (sb ip (tP (tA Tc.length) (tA (Tc.length + 1)))) (ν2 j)) T.length = tA Tc.length := by
        rw [tJ_4 d2]
        show ts _ (ν2 T.length) = _
        rw [nx, ts_A, sb_o (by omega)]
      have vy : tJ (dT T) (fun j => ts (sb ip (tP (tA Tc.length) (tA (Tc.length + 1)))) (ν2 j)) (T.length + 1) = tA (Tc.length + 1) := by
        rw [tJ_4 d3]
        show ts _ (ν2 (T.length + 1)) = _
        rw [ny, ts_A, sb_o (by omega)]
      obtain ⟨q1, q2, q3, q4⟩ := env_r hC2 hP3 lα (by omega) lx (by rw [cα, vx]) (by omega)
      have s1 := tput_l (dT T) (3, T.length, 0)
      obtain ⟨r1, r2, r3, r4⟩ := env_r g1 q1 (show Tc.length + 1 < (tput Te (3, Tc.length, 0)).1.length by omega) (by omega) (Rx_Lv d1.1.2.2 q2.1 ly) (by rw [cβ1, Rx_tJ d1.1.2.2 q2.1 ly.1, vy]) (by omega)
      refine zI_mono (rc_duo (L := L) (op := true) hd hq' hP.2.1.1 (by omega) (by omega) (by omega) ⟨fun _ => ⟨_, _, hM4⟩, fun z => by simp at z⟩) (Nat.le_refl _) (fun r μ' hr => ?_)
      rcases hr with ⟨_, rfl, hs⟩ | ⟨z, _⟩
      · refine ⟨rfl, hs.1, _, _, _, _, _, hs.2.1, Rn_tr (Rn_tr d1 q2 (Nat.le_refl _)) r2 (by omega), r1, ⟨_, rfl, by simp⟩, ⟨[(tput (dT T) (3, T.length, 0)).2, (tput (tput (dT T) (3, T.length, 0)).1 (3, T.length + 1, 0)).2], by simp⟩, fun c r hc hr er => ?_⟩
        obtain ⟨z1, z2⟩ := tr r hr
        refine ⟨Rx_Lv d1.1.2.2 (Rx_tr q2.1 r2.1) z1, ?_⟩
        rw [Ex_cT hEn.1.2.2.1 (Ex_tr g2.1 k2'.1) (by omega), Rx_tJ d1.1.2.2 (Rx_tr q2.1 r2.1) z1.1, cT_sS, Ex_cT hw hEn.1 hc, er, ← z2]
        exact tJ_ts d1.1.2.2 r z1.1
      · simp at z
    ·
      left
      have hthd : thd (cT Tc S ip) = kd Tc ip := hd_k hw (at_kd i1) k4
      refine ⟨Te, En_le hEn (by omega), fun part y d hd => cm49_closed (by omega) (hE _ (by omega)) hatE ⟨_, _, p3⟩ hkp (by omega) k4 hk2, fun T N ν Q W e bb μ d hd hR => ?_⟩
      obtain ⟨hP, le, ee, hq', hT6, hQ⟩ := hR
      have hWl := hP.2.2.2.1
      obtain ⟨d1, d2, d3, d4, d5⟩ := dT_F hP.1.1 (show T.length + 3 ≤ 600 by omega)
      obtain ⟨dl1, dl2, dl3⟩ := dT_len T
      have kq := (kd_at d4).1
      refine zI_mono (rc_duo (L := L) (op := false) hd hq' hP.2.1.1 (by omega) (by omega) (by omega) ⟨fun z => by simp at z, fun _ => ⟨Wb_add (fun a b hm => ?_) (by have := le.1; omega) dl3, clash_of hP.1.1 hP.1.2 d1.1 le (fun l z => ?_) dl3 (by omega) (by rw [ee, hthd, kq]; omega)⟩⟩) (Nat.le_refl _) (fun r μ' hr => ?_)
      · have := MO_Wb hP.1.2 a b hm
        omega
      · rw [ee] at z
        rw [z] at hthd
        exact k4 hthd.symm
      · rcases hr with ⟨z, _⟩ | ⟨_, rfl, hs⟩
        · simp at z
        · exact ⟨rfl, hs.1, _, _, hs.2.1, Rn_le d1 (by omega), _, rfl⟩
end CS10

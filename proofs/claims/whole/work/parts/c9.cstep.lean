def com (m : Nat) : Nat := if m = 13 then 1 else if m = 14 then 2 else if m = 15 then 5 else if m = 16 then 3 else 0
def crm (m : Nat) : Nat := if m ≤ 13 then 11 else if m = 14 then 10 else if m = 15 then 8 else if m = 16 then 3 else 0
def Pip (Tc : tT) (D : Nat → Option Nat) (S : Nat → Tr) (ip : Nat) : Prop := ip < Tc.length ∧ D ip = none ∧ (kd Tc ip = 4 → cT Tc S ip = tA ip)

def Rin (L : Nat) (T0 Tc : tT) (S : Nat → Tr) (V : List Nat) (m ip : Nat) (T : tT) (N : Nat → Prop) (ν : Nat → Tr) (Q : List (Nat × Nat)) (W : List Nat) (e b : Nat) (μ : zm_u) : Prop := CPr L T0 Tc S V T N ν Q W ∧ Lv T N e ∧ tJ T ν e = cT Tc S ip ∧ RQ μ T Q W b ∧ T.length + crm m ≤ 600 ∧ Q.length < 50
def Cclosed (X : zm_T) (L res : Nat) (T0 : tT) (μ0 : zm_u) (m ip : Nat) (Tc : tT) (D : Nat → Option Nat) (S : Nat → Tr) (V : List Nat) : Prop :=
  ∃ Tce, En (com m) Tc Tce ∧ (∀ (part y : Int32) (d : Nat), 6 ≤ d → CM X d μ0 res 49 [.inr 3, .inl (nI m), .inl part, .inl (nI ip), .inl y] Tc D V 1 Tce) ∧
    ∀ T N ν Q W e b μ d, 9 ≤ d → Rin L T0 Tc S V m ip T N ν Q W e b μ → zI X d 135 [.inr 22, .inl (nI m), .inl (nI e)] μ (fun r μ' => r = 0 ∧ Cf L μ μ' ∧ ∃ T' Q', RQ μ' T' Q' W b ∧ Rn (com m) T T' ∧ ∃ q, Q' = Q ++ q)
def Copen (X : zm_T) (L res : Nat) (T0 : tT) (μ0 : zm_u) (m ip : Nat) (Tc : tT) (D : Nat → Option Nat) (S : Nat → Tr) (V : List Nat) (hh : Nat) : Prop :=
  ∃ Tce Tcv D' S' V', En (com m) Tc Tce ∧ En (com m) Tc Tcv ∧ CPc L T0 Tcv D' S' V' hh ∧ V'.length ≤ V.length + 3 ∧
    (∀ (y : Int32) (d : Nat), 6 ≤ d → CM X d μ0 res 49 [.inr 3, .inl (nI m), .inl (-1), .inl (nI ip), .inl y] Tc D V 0 Tce) ∧
    (∀ (part y : Int32) (ok : Bool) (Tc2 : tT) (d d' : Nat), ¬ part = -1 → d' + 1 ≤ d → 6 ≤ d → CM X d' μ0 res 46 [.inr 3, .inl part, .inl y] Tcv D' V' (if ok then 1 else 0) Tc2 → CM X d μ0 res 49 [.inr 3, .inl (nI m), .inl part, .inl (nI ip), .inl y] Tc D V (if ok then 1 else 0) Tc2) ∧
    ∀ T N ν Q W e b μ d, 9 ≤ d → Rin L T0 Tc S V m ip T N ν Q W e b μ → zI X d 135 [.inr 22, .inl (nI m), .inl (nI e)] μ (fun r μ' => r = 1 ∧ Cf L μ μ' ∧ ∃ T' N' ν' Q' W', RQ μ' T' Q' W' b ∧ Rn (com m) T T' ∧ Enr L T0 Tc S Tcv S' V' T N ν Q W T' N' ν' Q' W')
section CS9
variable {X : zm_T} {d d' L n i j k a b e h hh hf p u q res m c v w ip r : Nat} {μ μ' μ0 μ1 μs : zm_u} {T T' T1 T0 Tc Tc1 Tc2 Tce Tcv : tT} {D D' : Nat → Option Nat} {S S' : Nat → Tr} {V V' W W' : List Nat} {N N' : Nat → Prop} {ν ν' : Nat → Tr} {Q Q' : List (Nat × Nat)} {x y part : Int32} {ok op : Bool} {A B Xx : Tr}

theorem env_c (hC : CPc L T0 Tc D S V h) (ha : a < Tc.length) (ht : th (cT Tc S a) + 1 ≤ h) (hl : Tc.length < 466) : CPc L T0 (tput Tc (3, a, 0)).1 D S (V ++ [(tput Tc (3, a, 0)).2]) h ∧ En 1 Tc (tput Tc (3, a, 0)).1 ∧ (tput Tc (3, a, 0)).2 < (tput Tc (3, a, 0)).1.length ∧ cT (tput Tc (3, a, 0)).1 S (tput Tc (3, a, 0)).2 = tE (cT Tc S a) := by
  have v1 : vc Tc (some a) := fun i hi => by simp at hi; omega
  obtain ⟨g1, g2, g3⟩ := cExp_m (S := S) hC.1.1 hC.1.2.1 hl v1
  have g3' : Option.map (cT (tput Tc (3, a, 0)).1 S) (some (tput Tc (3, a, 0)).2) = Option.map tE (some (cT Tc S a)) := g3
  simp only [Option.map_some, Option.some.injEq] at g3'
  have g1' : En 1 Tc (tput Tc (3, a, 0)).1 := g1
  refine ⟨CPc_env (CPc_mono hC g1'.1) (tput_l Tc (3, a, 0)).1 (by rw [g3', th_E]; omega), g1', (tput_l Tc (3, a, 0)).1, g3'⟩
theorem env_r (hC : CPc L T0 Tc D S V h) (hP : CPr L T0 Tc S V T N ν Q W) (ha : a < Tc.length) (hl : Tc.length < 466) (lr : Lv T N r) (er : cT Tc S a = tJ T ν r) (hT : T.length < 600) : CPr L T0 (tput Tc (3, a, 0)).1 S (V ++ [(tput Tc (3, a, 0)).2]) (tput T (3, r, 0)).1 N ν Q (W ++ [(tput T (3, r, 0)).2]) ∧ Rn 1 T (tput T (3, r, 0)).1 ∧ Lv (tput T (3, r, 0)).1 N (tput T (3, r, 0)).2 ∧ tJ (tput T (3, r, 0)).1 ν (tput T (3, r, 0)).2 = tE (tJ T ν r) := by
  have v1 : vc Tc (some a) := fun i hi => by simp at hi; omega
  obtain ⟨g1, g2, g3⟩ := cExp_m (S := S) hC.1.1 hC.1.2.1 hl v1
  have g3' : Option.map (cT (tput Tc (3, a, 0)).1 S) (some (tput Tc (3, a, 0)).2) = Option.map tE (some (cT Tc S a)) := g3
  simp only [Option.map_some, Option.some.injEq] at g3'
  have g1' : En 1 Tc (tput Tc (3, a, 0)).1 := g1
  obtain ⟨y1, y2, y3⟩ := r_exp (ν := ν) hP.1.1 hT lr
  exact ⟨CPr_env (CPr_mono hC hP g1'.1 y1.1) y2 (by rw [g3', y3, er]), y1, y2, y3⟩
theorem CPr_Q (hP : CPr L T0 Tc S V T N ν Q W) (hM : MO T N ν Q') : CPr L T0 Tc S V T N ν Q' W := ⟨⟨hP.1.1, hM⟩, hP.2⟩

theorem lit_pre (hLT : LT L res T0) (hC : CPc L T0 Tc D S V h) (hi : Pip Tc D S ip) (hk : k ≤ 1) (hop : kd Tc ip = 4 ∨ kd Tc ip = k) : ∃ D' S', D' = (if kd Tc ip = 4 ∧ k ≠ ip then updD D ip k else D) ∧ CPc L T0 Tc D' S' V (h + 1) ∧
    ∀ T N ν Q W e, CPr L T0 Tc S V T N ν Q W → Lv T N e → tJ T ν e = cT Tc S ip → ∃ ν', CPr L T0 Tc S' V T N ν' (Q ++ [(e, k)]) W ∧ ∀ c r, c < Tc.length → Lv T N r → cT Tc S c = tJ T ν r → cT Tc S' c = tJ T ν' r := by
  obtain ⟨i1, i2, i3⟩ := hi
  have hL2 := LT_2 hLT
  have hw := hC.1.1
  obtain ⟨c1, c2, c3⟩ := CPc_last hLT hC (show k < L by omega)
  have hkk : kd Tc k = k ∧ (∀ S', cT Tc S' k = if k = 1 then tB else tI) := by
    rcases (show k = 0 ∨ k = 1 by omega) with rfl | rfl
    · exact ⟨(kd_at hw.1.1).1, fun S' => by unfold cT; rw [tJ_0 hw.1.1]; rfl⟩
    · exact ⟨(kd_at hw.1.2).1, fun S' => by unfold cT; rw [tJ_1 hw.1.2]; rfl⟩
  have hat := at_kd i1
  by_cases k4 : kd Tc ip = 4
  · have hne : k ≠ ip := fun z => by rw [← z, hkk.1] at k4; omega
    rw [if_pos ⟨k4, hne⟩]
    have hX1 : thd (if k = 1 then tB else tI) ≠ 4 := by split <;> (intro z; simp [thd, tB, tI] at z)
    have hX2 : th (if k = 1 then tB else tI) ≤ 2 := by split <;> simp [th, tB, tI]
    have hX3 : ∀ M, ta M (if k = 1 then tB else tI) := fun M => by split <;> trivial
    rw [k4] at hat
    refine ⟨_, sS ip (if k = 1 then tB else tI) S, rfl, CPc_told hC i2 ⟨_, _, hat⟩ ⟨kd Tc k, k1 Tc k, k2 Tc k, at_kd c1, by rw [hkk.1]; omega⟩ hX2 (hkk.2 _), fun T N ν Q W e hP le ee => ?_⟩
    obtain ⟨f1, f2⟩ := CPr_last hLT hC hP (show k < L by omega)
    have hTw := hP.1.1
    have hkT : kd T k = k ∧ (∀ ν', tJ T ν' k = if k = 1 then tB else tI) := by
      rcases (show k = 0 ∨ k = 1 by omega) with rfl | rfl
      · exact ⟨(kd_at hTw.1.1).1, fun ν' => by rw [tJ_0 hTw.1.1]; rfl⟩
      · exact ⟨(kd_at hTw.1.2).1, fun ν' => by rw [tJ_1 hTw.1.2]; rfl⟩
    refine ⟨_, CPr_told hP (MO_sub hTw hP.1.2 le (by rw [ee]; exact i3 k4) f1 (by rw [hkT.1]; omega) hX1 (hkT.2 _)) (hX3 _), fun c r hc hr er => ?_⟩
    rw [cT_sS, er]
    exact tJ_ts hTw r hr.1
  · have hkp : kd Tc ip = k := by omega
    rw [if_neg (fun z => k4 z.1)]
    refine ⟨D, S, rfl, CPc_h hC (by omega), fun T N ν Q W e hP le ee => ⟨ν, CPr_Q hP (MO_eq hP.1.2 le (CPr_last hLT hC hP (show k < L by omega)).1 ?_), fun c r hc hr er => er⟩⟩
    rw [← (CPr_last hLT hC hP (show k < L by omega)).2, ee, hkk.2]
    unfold cT
    rcases (show k = 0 ∨ k = 1 by omega) with rfl | rfl
    · rw [hkp] at hat
      rw [tJ_0 hat]; rfl
    · rw [hkp] at hat
      rw [tJ_1 hat]; rfl
theorem lit_closed (hLT : LT L res T0) (hC : CPc L T0 Tc D S V h) (hi : Pip Tc D S ip) (hk : k ≤ 1) (n4 : kd Tc ip ≠ 4) (nk : kd Tc ip ≠ k) (hP : CPr L T0 Tc S V T N ν Q W) (le : Lv T N e) (ee : tJ T ν e = cT Tc S ip) : Slv T (Q ++ [(e, k)]) false := by
  have hL2 := LT_2 hLT
  have f1 := (CPr_last hLT hC hP (show k < L by omega)).1
  have hTw := hP.1.1
  have hkT : kd T k = k := by
    rcases (show k = 0 ∨ k = 1 by omega) with rfl | rfl
    · exact (kd_at hTw.1.1).1
    · exact (kd_at hTw.1.2).1
  have hthd : thd (cT Tc S ip) = kd Tc ip := hd_k hC.1.1 (at_kd hi.1) n4
  refine ⟨fun z => by simp at z, fun _ => ⟨fun a b hm => ?_, clash_of hTw hP.1.2 (Rx_rf hTw) le (fun l z => ?_) f1.1 (by omega) (by rw [ee, hthd, hkT]; exact fun z => nk z.symm)⟩⟩
  · rcases List.mem_append.mp hm with hm | hm
    · exact MO_Wb hP.1.2 a b hm
    · simp only [List.mem_singleton, Prod.mk.injEq] at hm
      rw [hm.1, hm.2]
      exact ⟨le.1, f1.1⟩
  · rw [ee] at z
    rw [z] at hthd
    exact n4 hthd.symm
theorem cs_lit (hLT : LT L res T0) (hC : CPc L T0 Tc D S V h) (hi : Pip Tc D S ip) (hm : m = 11 ∨ m = 12) (hl : Tc.length + crm m ≤ 466) (hV : V.length + 3 ≤ 16) : Cclosed X L res T0 μ0 m ip Tc D S V ∨ Copen X L res T0 μ0 m ip Tc D S V (h + 1) := by
  have hL2 := LT_2 hLT
  have hLc := hC.2.1.1
  have hi' := hi
  obtain ⟨i1, i2, i3⟩ := hi
  have hw := hC.1.1
  have hcr : crm m = 11 := by unfold crm; rw [if_pos (by omega)]
  have hkp := (kd_w hw i1).1
  have e12 : (if m = 12 then 1 else 0) = m - 11 := by rcases hm with rfl | rfl <;> rfl
  have hke : kd Tc (m - 11) = m - 11 := by
    rcases hm with rfl | rfl
    · exact (kd_at hw.1.1).1
    · exact (kd_at hw.1.2).1
  have hq : ∃ a b, Tc[m - 11]? = some (m - 11, a, b) := ⟨_, _, by have := at_kd (T := Tc) (i := m - 11) (by omega); rw [hke] at this; exact this⟩
  have hE : ∀ d, 1 ≤ d → CM X d μ0 res 50 [.inr 3, .inl (nI m), .inl (nI ip)] Tc D V (nI (m - 11)) Tc := fun d hd => by
    have := eq_lit (X := X) (μ0 := μ0) (res := res) (Tc := Tc) (D := D) (V := V) (x := nI ip) (m := m) hd (by omega)
    rw [e12] at this
    exact this
  have hRn : ∀ {T : tT}, tw T → Rn (com m) T T := fun hT => Rn_rf hT
  by_cases hcl : kd Tc ip ≠ 4 ∧ kd Tc ip ≠ m - 11
  · refine Or.inl ⟨Tc, En_rf hw hC.1.2.1, fun part y d hd => cm49_closed (by omega) (hE _ (by omega)) (at_kd i1) hq hkp (by omega) hcl.1 hcl.2, fun T N ν Q W e b μ d hd hR => ?_⟩
    obtain ⟨hP, le, ee, hq', hT6, hQ⟩ := hR
    have hWl := hP.2.2.2.1
    refine zI_mono (rc_lit (L := L) (op := false) hd hq' hP.2.1.1 hm (by omega) (by omega) (lit_closed hLT hC hi' (by omega) hcl.1 hcl.2 hP le ee)) (Nat.le_refl _) (fun r μ' hr => ?_)
    rcases hr with ⟨z, _⟩ | ⟨_, rfl, hs⟩
    · simp at z
    · exact ⟨rfl, hs.1, T, _, hs.2.1, Rn_rf hP.1.1, _, rfl⟩
  · have hop : kd Tc ip = 4 ∨ kd Tc ip = m - 11 := by omega
    obtain ⟨D', S', eD, hC', href⟩ := lit_pre hLT hC hi' (show m - 11 ≤ 1 by omega) hop
    obtain ⟨c1, c2, c3⟩ := CPc_last hLT hC' (show m - 11 < L by omega)
    refine Or.inr ⟨Tc, Tc, D', S', V ++ [m - 11], En_rf hw hC.1.2.1, En_rf hw hC.1.2.1, CPc_env hC' c1 c2, by simp only [List.length_append, List.length_singleton]; omega, fun y d hd => cm49_nopart (by omega) (hE _ (by omega)) (at_kd i1) hq hkp (by omega) hop, fun part y ok Tc2 d d' hpart hdd hd hI => cm49_go (by omega) (hE _ (by omega)) (at_kd i1) hq hkp (by omega) hop hpart (by omega) (by omega) (by omega) (co_lit (by omega) (by omega) hm (by omega)) ⟨_, rfl⟩ i2 eD hI hdd, fun T N ν Q W e b μ d hd hR => ?_⟩
    obtain ⟨hP, le, ee, hq', hT6, hQ⟩ := hR
    have hWl := hP.2.2.2.1
    obtain ⟨ν', hP', htr⟩ := href T N ν Q W e hP le ee
    refine zI_mono (rc_lit (L := L) (op := true) hd hq' hP.2.1.1 hm (by omega) (by omega) ⟨fun _ => ⟨N, ν', hP'.1.2⟩, fun z => by simp at z⟩) (Nat.le_refl _) (fun r μ' hr => ?_)
    rcases hr with ⟨_, rfl, hs⟩ | ⟨z, _⟩
    · obtain ⟨f1, f2⟩ := CPr_last hLT hC' hP' (show m - 11 < L by omega)
      exact ⟨rfl, hs.1, T, N, ν', _, _, hs.2.1, Rn_rf hP.1.1, CPr_env hP' f1 f2, ⟨_, rfl, by simp⟩, ⟨_, rfl⟩, fun c r hc hr er => ⟨hr, htr c r hc hr er⟩⟩
    · simp at z
theorem cs_sum (hLT : LT L res T0) (hC : CPc L T0 Tc D S V h) (hi : Pip Tc D S ip) (hl : Tc.length + crm 13 ≤ 466) (hV : V.length + 3 ≤ 16) : Cclosed X L res T0 μ0 13 ip Tc D S V ∨ Copen X L res T0 μ0 13 ip Tc D S V (h + 1) := by
  have hL2 := LT_2 hLT
  have hLc := hC.2.1.1
  have hi' := hi
  obtain ⟨i1, i2, i3⟩ := hi
  have hw := hC.1.1
  have hcr : crm 13 = 11 := rfl
  have hco : com 13 = 1 := rfl
  have hkp := (kd_w hw i1).1
  have hq : ∃ a b, Tc[0]? = some (0, a, b) := ⟨_, _, hw.1.1⟩
  have hE : ∀ d, 1 ≤ d → CM X d μ0 res 50 [.inr 3, .inl (nI 13), .inl (nI ip)] Tc D V (nI 0) Tc := fun d hd => eq_lit (m := 13) hd (by omega)
  have h4 : 4 ≤ h := by have := hC.2.2.2 0; have := th_pos (S 0); omega
  by_cases hcl : kd Tc ip ≠ 4 ∧ kd Tc ip ≠ 0
  · refine Or.inl ⟨Tc, En_rf hw hC.1.2.1, fun part y d hd => cm49_closed (by omega) (hE _ (by omega)) (at_kd i1) hq hkp (by omega) hcl.1 hcl.2, fun T N ν Q W e b μ d hd hR => ?_⟩
    obtain ⟨hP, le, ee, hq', hT6, hQ⟩ := hR
    have hWl := hP.2.2.2.1
    have hLT2 := hP.2.1.1
    refine zI_mono (rc_sum (L := L) (op := false) hd hq' hP.2.1.1 (by omega) (by have := (tput_l T (3, 0, 0)).2.2; omega) (by omega) (by omega) (lit_closed hLT hC hi' (by omega) hcl.1 hcl.2 hP le ee)) (Nat.le_refl _) (fun r μ' hr => ?_)
    rcases hr with ⟨z, _⟩ | ⟨_, rfl, hs⟩
    · simp at z
    · exact ⟨rfl, hs.1, T, _, hs.2.1, Rn_rf hP.1.1, _, rfl⟩
  · have hop : kd Tc ip = 4 ∨ kd Tc ip = 0 := by omega
    obtain ⟨D', S', eD, hC', href⟩ := lit_pre hLT hC hi' (show 0 ≤ 1 by omega) hop
    obtain ⟨c1, c2, c3⟩ := CPc_last hLT hC' (show 0 < L by omega)
    have c0 : cT Tc S' 0 = tI := by rw [c3, tJ_0 hLT.2.2.2.1.1.1]
    obtain ⟨g1, g2, g3, g4⟩ := env_c (a := 0) hC' c1 (by rw [c0]; show 1 + 1 ≤ h + 1; omega) (by omega)
    have tl := tput_l Tc (3, 0, 0)
    refine Or.inr ⟨Tc, (tput Tc (3, 0, 0)).1, D', S', _, En_rf hw hC.1.2.1, g2, CPc_env g1 g3 (by rw [g4, c0]; show 1 + 1 ≤ h + 1; omega), by simp only [List.length_append, List.length_singleton]; omega, fun y d hd => cm49_nopart (by omega) (hE _ (by omega)) (at_kd i1) hq hkp (by omega) hop, fun part y ok Tc2 d d' hpart hdd hd hI => cm49_go (by omega) (hE _ (by omega)) (at_kd i1) hq hkp (by omega) hop hpart (by omega) (by omega) (by omega) (co_sum (by omega) (by omega) (by omega) (by omega) (by omega)) ⟨[(tput Tc (3, 0, 0)).2, (tput Tc (3, 0, 0)).2], by simp⟩ i2 eD hI hdd, fun T N ν Q W e b μ d hd hR => ?_⟩
    obtain ⟨hP, le, ee, hq', hT6, hQ⟩ := hR
    have hWl := hP.2.2.2.1
    have hLT2 := hP.2.1.1
    obtain ⟨ν', hP', htr⟩ := href T N ν Q W e hP le ee
    have tT' := tput_l T (3, 0, 0)
    obtain ⟨f1, f2⟩ := CPr_last hLT hC' hP' (show 0 < L by omega)
    obtain ⟨q1, q2, q3, q4⟩ := env_r hC' hP' c1 (by omega) f1 f2 (by omega)
    refine zI_mono (rc_sum (L := L) (op := true) hd hq' hP.2.1.1 (by omega) (by omega) (by omega) (by omega) ⟨fun _ => ⟨N, ν', hP'.1.2⟩, fun z => by simp at z⟩) (Nat.le_refl _) (fun r μ' hr => ?_)
    rcases hr with ⟨_, rfl, hs⟩ | ⟨z, _⟩
    · exact ⟨rfl, hs.1, _, N, ν', _, _, hs.2.1, q2, CPr_env q1 q3 (by rw [g4, q4, f2]), ⟨_, rfl, by simp⟩, ⟨[(tput T (3, 0, 0)).2, (tput T (3, 0, 0)).2], by simp⟩, fun c r hc hr er => ⟨Rx_Lv hP.1.1 q2.1 hr, by rw [Ex_cT hw g2.1 hc, Rx_tJ hP.1.1 q2.1 hr.1]; exact htr c r hc hr er⟩⟩
    · simp at z
theorem cs_when (hLT : LT L res T0) (hC : CPc L T0 Tc D S V h) (hi : Pip Tc D S ip) (hh1 : th (cT Tc S ip) + 1 ≤ h) (hl : Tc.length + crm 14 ≤ 466) (hV : V.length + 3 ≤ 16) : Copen X L res T0 μ0 14 ip Tc D S V (h + 1) := by
  have hL2 := LT_2 hLT
  have hLc := hC.2.1.1
  obtain ⟨i1, i2, i3⟩ := hi
  have hw := hC.1.1
  have hcr : crm 14 = 10 := rfl
  have hco : com 14 = 2 := rfl
  have hkp := (kd_w hw i1).1
  have h4 : 4 ≤ h := by have := hC.2.2.2 0; have := th_pos (S 0); omega
  have hE : ∀ d, 1 ≤ d → CM X d μ0 res 50 [.inr 3, .inl (nI 14), .inl (nI ip)] Tc D V (nI ip) Tc := fun d hd => eq_same (m := 14) hd (by omega)
  obtain ⟨c1, c2, c3⟩ := CPc_last hLT hC (show 1 < L by omega)
  have c0 : cT Tc S 1 = tB := by rw [c3, tJ_1 hLT.2.2.2.1.1.2]
  obtain ⟨g1, g2, g3, g4⟩ := env_c (a := 1) hC c1 (by rw [c0]; show 1 + 1 ≤ h; omega) (by omega)
  have t1 := tput_l Tc (3, 1, 0)
  have ei : cT (tput Tc (3, 1, 0)).1 S ip = cT Tc S ip := Ex_cT hw g2.1 i1
  obtain ⟨k1', k2', k3', k4'⟩ := env_c (a := ip) g1 (by omega) (by rw [ei]; exact hh1) (by omega)
  have t2 := tput_l (tput Tc (3, 1, 0)).1 (3, ip, 0)
  refine ⟨Tc, _, D, S, _, En_rf hw hC.1.2.1, En_tr g2 k2' (by omega), CPc_h (CPc_env k1' k3' (by rw [k4', ei, th_E]; omega)) (by omega), by simp only [List.length_append, List.length_singleton]; omega, fun y d hd => cm49_nopart (by omega) (hE _ (by omega)) (at_kd i1) ⟨_, _, at_kd i1⟩ hkp hkp (Or.inr rfl), fun part y ok Tc2 d d' hpart hdd hd hI => cm49_go (by omega) (hE _ (by omega)) (at_kd i1) ⟨_, _, at_kd i1⟩ hkp hkp (Or.inr rfl) hpart (by omega) (by omega) (by omega) (co_when (by omega) (by omega) (by omega) i1 (by omega) (by omega) (by omega)) ⟨[(tput Tc (3, 1, 0)).2, (tput (tput Tc (3, 1, 0)).1 (3, ip, 0)).2, (tput (tput Tc (3, 1, 0)).1 (3, ip, 0)).2], by simp⟩ i2 (by rw [if_neg (fun z => z.2 rfl)]) hI hdd, fun T N ν Q W e b μ d hd hR => ?_⟩
  obtain ⟨hP, le, ee, hq', hT6, hQ⟩ := hR
  have hWl := hP.2.2.2.1
  have hLT2 := hP.2.1.1
  obtain ⟨f1, f2⟩ := CPr_last hLT hC hP (show 1 < L by omega)
  obtain ⟨q1, q2, q3, q4⟩ := env_r hC hP c1 (by omega) f1 f2 (by omega)
  have s1 := tput_l T (3, 1, 0)
  have le1 := Rx_Lv hP.1.1 q2.1 le
  have ee1 : cT (tput Tc (3, 1, 0)).1 S ip = tJ (tput T (3, 1, 0)).1 ν e := by rw [ei, Rx_tJ hP.1.1 q2.1 le.1, ee]
  obtain ⟨r1, r2, r3, r4⟩ := env_r g1 q1 (by omega) (by omega) le1 ee1 (by omega)
  have s2 := tput_l (tput T (3, 1, 0)).1 (3, e, 0)
  refine zI_mono (rc_when (L := L) hd hq' hP.2.1.1 (by omega) le.1 (by omega) (by omega) (by omega) (by omega) ⟨N, ν, hP.1.2⟩) (Nat.le_refl _) (fun r μ' hr => ?_)
  rcases hr with ⟨_, rfl, hs⟩ | ⟨z, _⟩
  · exact ⟨rfl, hs.1, _, N, ν, _, _, hs.2.1, Rn_tr q2 r2 (by omega), CPr_env r1 r3 (by rw [k4', r4, ee1]), ⟨[], by simp, by simp⟩, ⟨[(tput T (3, 1, 0)).2, (tput (tput T (3, 1, 0)).1 (3, e, 0)).2, (tput (tput T (3, 1, 0)).1 (3, e, 0)).2], by simp⟩, fun c r hc hr er => ⟨Rx_Lv hP.1.1 (Rx_tr q2.1 r2.1) hr, by rw [Ex_cT hw (Ex_tr g2.1 k2'.1) hc, Rx_tJ hP.1.1 (Rx_tr q2.1 r2.1) hr.1]; exact er⟩⟩
  · simp at z
end CS9

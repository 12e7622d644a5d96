def D0 : Nat → Option Nat := fun _ => none
def CPi (μ : zm_u) (T0 : tT) : Prop := t_C μ T0 ∧ ∀ i, i < 466 → μ 13 i = -1
def eN (T0 : tT) : tT := (tput (tput T0 (4, 0, 0)).1 (3, (tput T0 (4, 0, 0)).2, 0)).1
def jN (T0 : tT) : Nat := (tput (tput T0 (4, 0, 0)).1 (3, (tput T0 (4, 0, 0)).2, 0)).2
section CK4
variable {X : zm_T} {d dr L n i j k a b e p u q res mt r : Nat} {μ μ' μ0 μ1 μs : zm_u} {T T' T0 Tc Tr' : tT} {V W : List Nat} {N : Nat → Prop} {ν : Nat → Tr} {x y v : Int32} {ok : Bool} {as : List zm_v}
theorem zI_det {P1 P2 : Int32 → zm_u → Prop} {d' : Nat} (h1 : zI X d n as μ P1) (h2 : zI X d' n as μ P2) : ∃ r μ', P1 r μ' ∧ P2 r μ' := by
  obtain ⟨F1, r1, μ1, e1, v1, rfl, p1⟩ := h1
  obtain ⟨F2, r2, μ2, e2, v2, rfl, p2⟩ := h2
  have g1 := zm_ev_mono (Nat.le_max_left F1 F2) d (max d d') (Nat.le_max_left d d') _ _ _ _ e1
  have g2 := zm_ev_mono (Nat.le_max_right F1 F2) d' (max d d') (Nat.le_max_right d d') _ _ _ _ e2
  rw [g1] at g2
  simp only [Option.some.injEq, Prod.mk.injEq, Sum.inl.injEq] at g2
  obtain ⟨rfl, rfl⟩ := g2
  exact ⟨v1, μ1, p1, p2⟩
theorem eN_F (hw : tw T0) (hc : cnm T0) (hl : T0.length ≤ 24) : En 2 T0 (eN T0) ∧ (tput T0 (4, 0, 0)).1[(tput T0 (4, 0, 0)).2]? = some (4, 0, 0) ∧ Ex T0 (tput T0 (4, 0, 0)).1 ∧ Ex (tput T0 (4, 0, 0)).1 (eN T0) ∧ (eN T0)[jN T0]? = some (3, (tput T0 (4, 0, 0)).2, 0) := by
  obtain ⟨a1, a2, a3⟩ := tput_Ex (q := (4, 0, 0)) hw hc (Or.inr (Or.inr rfl)) (by show 0 < 10000; omega) (by show 0 < 10000; omega) (fun _ => ⟨Or.inl (by show 0 < 3; omega), rfl⟩)
  have l1 := tput_l T0 (4, 0, 0)
  obtain ⟨b1, b2, b3⟩ := tput_Ex (q := (3, (tput T0 (4, 0, 0)).2, 0)) a1.2.2.1 a1.2.2.2 (Or.inr (Or.inl ⟨rfl, l1.1, rfl⟩)) (by show (tput T0 (4, 0, 0)).2 < 10000; omega) (by show 0 < 10000; omega) (fun z => by simp at z)
  refine ⟨⟨Ex_tr a1 b1, ?_⟩, a3, a1, b1, b3⟩
  have : (eN T0).length ≤ (tput T0 (4, 0, 0)).1.length + 1 := b2
  omega
theorem TD_0 : TD Tc D0 tA := fun i => ⟨fun _ => rfl, fun t ht => by simp [D0] at ht⟩
theorem cT_0 (hw : tw T) (hi : i < T.length) : cT T tA i = tJ T tA i := cT_tJ hw hi
theorem CPc_0 (hLT : LT L res T0) (hx : Ex T0 Tc) (hV : ∀ (k v : Nat), V[k]? = some v → v < Tc.length ∧ th (cT Tc tA v) ≤ 4) : CPc L T0 Tc D0 tA V 4 :=
  ⟨⟨hx.2.2.1, hx.2.2.2, TD_0⟩, ⟨by have := hx.2.1; have := hLT.1; omega, fun i hi => hx.1 i (by have := hLT.1; omega)⟩, hV, fun i => by rw [th_A]; omega⟩
theorem CPr_0 (hLT : LT L res T0) (hx : Rx T0 Tr') (hN : ∀ i, N i → i < Tr'.length ∧ i < Tc.length) (hN0 : ∀ i a b, T0[i]? = some (4, a, b) → N i) (hl : V.length = W.length) (hVW : ∀ (k v w : Nat), V[k]? = some v → W[k]? = some w → Lv Tr' N w ∧ cT Tc tA v = tJ Tr' tA w) : CPr L T0 Tc tA V Tr' N tA [] W := by
  refine ⟨⟨hx.2.2, fun a b hm => by simp at hm, fun i j l ni nj _ _ _ _ ei ej => ?_, fun i ni _ _ hl => absurd rfl (hl i)⟩, ⟨by have := hx.2.1; have := hLT.1; omega, fun i hi => hx.1 i (by have := hLT.1; omega), fun i a b hi => ⟨hN0 i a b hi, rfl⟩⟩, fun i ni => ⟨(hN i ni).1, (hN i ni).2⟩, hl, hVW⟩
  have h1 := tA_inj ei
  have h2 := tA_inj ej
  rw [h1, h2]
  exact Der_rf
theorem live_all (hw : tw T) (hN : ∀ i, i < T.length → kd T i = 4 → N i) : ∀ i, i < T.length → Lv T N i := by
  intro i
  induction i using Nat.strongRecOn with
  | ind i ih =>
    intro hi
    refine ⟨hi, ?_⟩
    rcases kd_cases hw hi with ⟨k, e⟩ | ⟨k, e⟩ | ⟨k, a1, a2, e⟩ | ⟨k, a1, e⟩ | ⟨k, e⟩
    · rw [e]; trivial
    · rw [e]; trivial
    · rw [e]; exact ⟨(ih _ a1 (by omega)).2, (ih _ a2 (by omega)).2⟩
    · rw [e]; exact (ih _ a1 (by omega)).2
    · rw [e]; exact hN i hi k
theorem hqb_6 (h : e ≤ 6) : hqb e ≤ 30 := by
  rcases (show e = 0 ∨ e = 1 ∨ e = 2 ∨ e = 3 ∨ e = 4 ∨ e = 5 ∨ e = 6 by omega) with rfl | rfl | rfl | rfl | rfl | rfl | rfl <;> decide

theorem c_forget (hd : 2 ≤ d) (hL : T0.length = L) (hL24 : L ≤ 24) (hx : Ex T0 Tc) (hc : CC μ Tc D0 V res) : zO X d 28 [.inr 1, .inl (nI L)] μ (fun μ' => CPi μ' T0 ∧ CK μ μ') := by
  have hl6 := hc.1.2.1
  have hxl := hx.2.1
  have fin : ∀ {μ' : zm_u}, μ' 1 3 = nI L → (∀ c, c ≠ 1 → μ' c = μ c) → CPi μ' T0 := by
    intro μ' h13 hr
    refine ⟨⟨by rw [h13, hL], fun i k a b hi => ?_⟩, fun i hi => ?_⟩
    · rw [hr 6 (by decide), hr 7 (by decide), hr 8 (by decide)]
      exact hc.1.1.2 i k a b (Ex_at hx hi)
    · rw [hr 13 (by decide)]
      exact hc.2.1 i hi
  by_cases hlt : L < Tc.length
  · refine zO_at [0, 1] (by omega) rfl (k28_0 ⟨_, c_hasX (by omega) hc.1 hlt, fun r μ1 hr => ?_⟩)
    obtain ⟨rfl, rfl⟩ := hr
    refine k28_5 (fun z => absurd z zn_10) (fun _ => ⟨fin (by rw [zm_up_at, if_pos ⟨rfl, rfl⟩]) (fun c hc => zm_up_row hc), fun c c1 _ _ _ _ _ _ => zm_up_row c1⟩)
  · have e : Tc.length = L := by omega
    have hno : ¬ ty_has μ (nI L) := by
      unfold ty_has
      rw [hc.1.1.1, e, nI_t (by omega)]
      omega
    refine zO_at [0, 1] (by omega) rfl (k28_0 ⟨_, c_has (by omega), fun r μ1 hr => ?_⟩)
    obtain ⟨rfl, ⟨z, _⟩ | ⟨_, rfl⟩⟩ := hr
    · exact absurd z hno
    · exact k28_5 (fun _ => ⟨fin (by rw [hc.1.1.1, e]) (fun c hc => rfl), CK_rf⟩) (fun z => absurd rfl z)
theorem CC_0 (hL24 : T0.length ≤ 24) (hw : tw T0) (hcn : cnm T0) (h : CPi μ T0) : CC (zm_up (zm_up μ 3 5 (nI res)) 3 4 0) T0 D0 [] res ∧ CK μ (zm_up (zm_up μ 3 5 (nI res)) 3 4 0) := by
  have r : ∀ c, c ≠ 3 → (zm_up (zm_up μ 3 5 (nI res)) 3 4 0) c = μ c := fun c hc => by rw [zm_up_row hc, zm_up_row hc]
  refine ⟨⟨⟨⟨by rw [r 1 (by decide)]; exact h.1.1, ?_⟩, by omega, hw, hcn⟩, fun i hi => by rw [r 13 (by decide)]; exact h.2 i hi, by rw [zm_up_at, if_pos ⟨rfl, rfl⟩]; rfl, by simp, fun i v hv => by simp at hv, by rw [zm_up_at, if_neg (by omega), zm_up_at, if_pos ⟨rfl, rfl⟩]⟩, fun c _ hc _ _ _ _ _ => r c hc⟩
  rw [r 6 (by decide), r 7 (by decide), r 8 (by decide)]
  exact h.1.2

theorem m_typed (hdr : 20 ≤ dr) (hLT : LT L res T0) (hcn : cnm T0) (hR0 : t_R μ0 T0) (hz : Rz L μ0 μ) (hp : p = 480 ∧ x = 12 ∨ p = 520 ∧ x = 13) (hmt : mt < L) (hy : y = nI mt) (hW : W = if p = 480 then [jN T0] else [])
    (hRI : RIs X (dr - 1) L μ0 n (eN T0) [] W 0 p mt ok) : zI X dr 141 [.inr 22, .inl x, .inl y] μ (fun r μ' => r = (if ok then 1 else 0) ∧ Rz L μ0 μ') := by
  subst hy
  obtain ⟨t1, t2, t3, t4, t5⟩ := hLT
  obtain ⟨e1, e2, e3, e4, e5⟩ := eN_F t4 hcn (by omega)
  have l1 := tput_l T0 (4, 0, 0)
  have l2 : (eN T0).length ≤ L + 2 := by have := e1.2; omega
  have h220 : μ 22 0 = nI L := by rw [hz.2.2 0 (by decide) (by decide) (by decide) (by decide) (by decide) (by decide) (by decide), hR0.1, t1]
  have hRP : RP (zm_up μ 22 1 (μ 22 0)) T0 := by
    refine ⟨by rw [zm_up_at, if_pos ⟨rfl, rfl⟩, h220, t1], by omega, t4, fun i hi => ?_⟩
    rw [zm_up_row (by decide), zm_up_row (by decide), zm_up_row (by decide), hz.2.1 i (by omega) 23 (by omega) (by omega), hz.2.1 i (by omega) 24 (by omega) (by omega), hz.2.1 i (by omega) 25 (by omega) (by omega)]
    obtain ⟨a1, a2, a3, _⟩ := hR0.2 i _ _ _ (at_kd hi)
    exact ⟨a1, a2, a3⟩
  have hz1 : Rz L μ0 (zm_up μ 22 1 (μ 22 0)) := Rz_22 hz (by omega)
  refine zI_at [0, 1, 2] (by omega) rfl (k141_0 ⟨_, m_typeOf (L := L) (kk := 4) (aa := 0) (bb := 0) (by omega) hRP (by omega) (by omega) (by omega) (Or.inr (Or.inr rfl)) (by omega) (by omega), fun r μ1 hr => ?_⟩)
  obtain ⟨rfl, hR1, hf1⟩ := hr
  refine k141_16 ⟨_, m_exp (L := L) (by omega) hR1 (by omega) (by omega) l1.1 rfl, fun r μ2 hr => ?_⟩
  obtain ⟨rfl, hR2, hf2⟩ := hr
  have hR2 : RP μ2 (eN T0) := hR2
  have hz2 := Tf_Rz hf2 (Tf_Rz hf1 hz1)
  have hz3 : Rz L μ0 (zm_up (zm_up (zm_up (zm_up μ2 22 17 0) 22 19 0) 22 27 0) 22 29 0) := Rz_22 (Rz_22 (Rz_22 (Rz_22 hz2 (by omega)) (by omega)) (by omega)) (by omega)
  have hq3 : RQ (zm_up (zm_up (zm_up (zm_up μ2 22 17 0) 22 19 0) 22 27 0) 22 29 0) (eN T0) [] [] 0 := by
    have r : ∀ c, c ≠ 22 → (zm_up (zm_up (zm_up (zm_up μ2 22 17 0) 22 19 0) 22 27 0) 22 29 0) c = μ2 c := fun c hc => by rw [zm_up_row hc, zm_up_row hc, zm_up_row hc, zm_up_row hc]
    obtain ⟨a1, a2, a3, a4⟩ := hR2
    refine ⟨⟨?_, a2, a3, ?_⟩, ⟨?_, by simp, fun j a b hj => by simp at hj⟩, ⟨?_, by simp, fun j a hj => by simp at hj⟩, ?_, ?_⟩
    · rw [zm_up_at, if_neg (by omega), zm_up_at, if_neg (by omega), zm_up_at, if_neg (by omega), zm_up_at, if_neg (by omega)]; exact a1
    · rw [r 23 (by decide), r 24 (by decide), r 25 (by decide)]; exact a4
    · rw [zm_up_at, if_neg (by omega), zm_up_at, if_neg (by omega), zm_up_at, if_neg (by omega), zm_up_at, if_pos ⟨rfl, rfl⟩]; rfl
    · rw [zm_up_at, if_neg (by omega), zm_up_at, if_neg (by omega), zm_up_at, if_pos ⟨rfl, rfl⟩]; rfl
    · rw [zm_up_at, if_neg (by omega), zm_up_at, if_pos ⟨rfl, rfl⟩]; rfl
    · rw [zm_up_at, if_pos ⟨rfl, rfl⟩]
  have run : ∀ μ3 : zm_u, Rz L μ0 μ3 → RQ μ3 (eN T0) [] W 0 → zV X (dr - 1) 141 51 [(0, .inr 22), (1, .inl x), (2, .inl (nI mt))] [] μ3 (zpi (fun r μ' => r = (if ok then 1 else 0) ∧ Rz L μ0 μ')) := by
    intro μ3 hz3 hq3
    have hx40 : (40 : Int32) * x = nI p := by rcases hp with ⟨rfl, rfl⟩ | ⟨rfl, rfl⟩ <;> rfl
    refine k141_51 ⟨_, m_begin (p := p) (b := 0) (by omega) hq3.2.2.2.1 (by omega) hx40, fun μ4 hr => ?_⟩
    subst hr
    refine hRI μ3 _ hz3 hq3 (fun μ5 h1 h2 h3 => ?_)
    rcases h3 with ⟨rfl, h3⟩ | ⟨rfl, T', h3, h4⟩
    · have n0 : ¬ μ5 22 29 = 0 := by rw [h3]; exact zn_10
      have fin : zV X (dr - 1) 141 81 [(0, .inr 22)] [] μ5 (zpi (fun r μ' => r = (if false = true then 1 else 0) ∧ Rz L μ0 μ')) := k141_81 (fun _ => ⟨rfl, h2⟩) (fun z => absurd z n0)
      exact k141_60 (fun _ => fin) (fun _ _ => fin) (fun _ z => absurd z n0)
    · have e27 : μ5 22 27 ≤ 0 := by rw [h4.2.2.2.1]; decide
      exact k141_60 (fun _ => k141_81 (fun z => absurd h4.2.2.2.2 z) (fun _ => ⟨rfl, h2⟩)) (fun z => absurd e27 z) (fun z => absurd e27 z)
  rcases hp with ⟨rfl, rfl⟩ | ⟨rfl, rfl⟩
  · rw [if_pos rfl] at hW
    subst hW
    refine k141_19 (Or.inl rfl) (fun z => absurd rfl z) (fun _ => ⟨_, m_bind (a := jN T0) (by omega) hq3 (by simp), fun μ3 hr => run μ3 ?_ hr.1⟩)
    exact ⟨fun c hc => by rw [hr.2.1 c (by omega) (by omega)]; exact hz3.1 c hc, fun i hi c c1 c2 => by rw [hr.2.1 c (by omega) (by omega)]; exact hz3.2.1 i hi c c1 c2, fun i a1 a2 a3 a4 a5 a6 a7 => (hr.2.2 i a3).trans (hz3.2.2 i a1 a2 a3 a4 a5 a6 a7)⟩
  · rw [if_neg (by decide)] at hW
    subst hW
    exact k141_19 (Or.inl rfl) (fun _ => run _ hz3 hq3) (fun z => absurd z (by decide))
theorem ck_body (hd : 104 ≤ d) (hdr : 22 ≤ dr) (hLT : LT L res T0) (hcn : cnm T0) (hR0 : t_R μ0 T0) (h11 : μ0 22 11 = nI res) (hB : BD L μ0) : ∃ ok : Bool,
    (∀ μ, SA μ0 μ → CPi μ T0 → zI X d 44 [.inr 3, .inl (nI res)] μ (fun r μ' => r = (if ok then 1 else 0) ∧ CPi μ' T0 ∧ CK μ μ')) ∧ ∀ μ, Rz L μ0 μ → zI X dr 141 [.inr 22, .inl 12, .inl (nI res)] μ (fun r μ' => r = (if ok then 1 else 0) ∧ Rz L μ0 μ') := by
  obtain ⟨n, e, hn, he, h6, hT⟩ := hB
  have hLT' := hLT
  obtain ⟨t1, t2, t3, t4, t5⟩ := hLT
  have hL2 := LT_2 hLT'
  obtain ⟨e1, e2, e3, e4, e5⟩ := eN_F t4 hcn (by omega)
  have l1 := tput_l T0 (4, 0, 0)
  have e1l := e1.2
  have lj := tw_lt e5
  have eJ : ∀ ν, tJ (eN T0) ν (jN T0) = tE (ν (tput T0 (4, 0, 0)).2) := fun ν => by rw [tJ_3 e1.1.2.2.1 e5, tJ_4 (Ex_at e4 e2)]
  have eC : cT (eN T0) tA (jN T0) = tJ (eN T0) tA (jN T0) := cT_0 e1.1.2.2.1 lj
  have hC : CPc L T0 (eN T0) D0 tA [jN T0] 4 := CPc_0 hLT' e1.1 (fun k v hv => by
    have hk := (List.getElem?_eq_some_iff.mp hv).1
    simp at hk
    subst hk
    simp at hv
    subst hv
    exact ⟨lj, by rw [eC, eJ, th_E, th_A]; omega⟩)
  have h30 := hqb_6 he
  obtain ⟨Tc1, ok, P1, A1, B1⟩ := (Jc_all (X := X) (dr := dr - 1) (by omega) hLT' h11 e (by omega) 480 480 n hT (eN T0) D0 tA [jN T0] 4 hC ⟨by omega, by simp; omega, by omega⟩).2 res (by have := e1.1.2.1; omega)
  refine ⟨ok, fun μ hs hc => ?_, fun μ hz => ?_⟩
  · refine zI_at [0, 1] (by omega) rfl (k44_0 ⟨_, c_count (by omega), fun r μ1 hr => ?_⟩)
    obtain ⟨rfl, rfl⟩ := hr
    rw [hc.1.1, t1]
    obtain ⟨c0, c1⟩ := CC_0 (res := res) (by omega) t4 hcn hc
    have hq0 : CQ μ0 res T0 D0 [] μ1 (zm_up (zm_up μ1 3 5 (nI res)) 3 4 0) := ⟨SA_CK hs c1, c0, c1⟩
    refine k44_7 ⟨_, CM_use (fun μ _ hc => c_nameOf (d := d - 1) (by omega) hc (by omega)) (Nat.le_refl _) hq0, fun r μ2 hr => ?_⟩
    obtain ⟨rfl, hq2⟩ := hr
    refine k44_31 ⟨_, CM_use (cm_e (i := (tput T0 (4, 0, 0)).2) (d := d - 1) (by omega) (by omega) l1.1 rfl) (Nat.le_refl _) hq2, fun r μ3 hr => ?_⟩
    obtain ⟨rfl, hq3⟩ := hr
    have hq3 : CQ μ0 res (eN T0) D0 [] μ1 μ3 := hq3
    refine k44_34 ⟨_, CO_use (co_add (i := jN T0) (d := d - 1) (by omega) (by simp) lj rfl) (Nat.le_refl _) hq3, fun μ4 hq4 => ?_⟩
    refine k44_37 ⟨fun r μ' => μ' = μ4 ∧ r = nI (480 + n - 1), zI_at [0] (by omega) rfl (k30_0 ⟨rfl, by rw [hq4.1.2.2.2.2.2]; exact h6⟩), fun r μ5 hr => ?_⟩
    obtain ⟨rfl, rfl⟩ := hr
    refine k44_45 ⟨_, CM_use A1 (by omega) hq4, fun r μ6 hr => ?_⟩
    obtain ⟨rfl, hq6⟩ := hr
    refine k44_49 ⟨_, c_forget (by omega) t1 t2 (Ex_tr e1.1 P1.1) hq6.2.1, fun μ7 hr => ?_⟩
    exact k44_58 (by cases ok <;> simp) ⟨rfl, hr.1, CK_tr hq6.2.2 hr.2⟩
  · have hN : ∀ i, (i < (eN T0).length ∧ kd (eN T0) i = 4) → i < (eN T0).length ∧ i < (eN T0).length := fun i hi => ⟨hi.1, hi.1⟩
    have hLA := live_all (N := fun i => i < (eN T0).length ∧ kd (eN T0) i = 4) e1.1.2.2.1 (fun i hi k => ⟨hi, k⟩)
    have hP : CPr L T0 (eN T0) tA [jN T0] (eN T0) (fun i => i < (eN T0).length ∧ kd (eN T0) i = 4) tA [] [jN T0] := CPr_0 hLT' ⟨e1.1.1, e1.1.2.1, e1.1.2.2.1⟩ hN (fun i a b hi => ⟨by have := tw_lt hi; have := e1.1.2.1; omega, (kd_at (Ex_at e1.1 hi)).1⟩) rfl (fun k v w hv hw => by
      have hk := (List.getElem?_eq_some_iff.mp hv).1
      simp at hk
      subst hk
      simp at hv hw
      subst hv hw
      exact ⟨hLA _ lj, eC⟩)
    obtain ⟨f1, f2⟩ := CPr_last hLT' hC hP t3
    exact m_typed (by omega) hLT' hcn hR0 hz (Or.inl ⟨rfl, rfl⟩) t3 rfl (by rw [if_pos rfl]) (B1 (eN T0) _ tA [] [jN T0] 0 res hP ⟨by omega, by simp; omega, by omega⟩ f1 f2)
theorem ck_mainT (hd : 104 ≤ d) (hdr : 22 ≤ dr) (hLT : LT L res T0) (hmt : mt < L) (hcn : cnm T0) (hR0 : t_R μ0 T0) (h11 : μ0 22 11 = nI res) (hB : MD L μ0) : ∃ ok : Bool,
    (∀ μ, SA μ0 μ → CPi μ T0 → zI X d 45 [.inr 3, .inl (nI mt), .inl (nI res)] μ (fun r μ' => r = (if ok then 1 else 0) ∧ CPi μ' T0 ∧ CK μ μ')) ∧ ∀ μ, Rz L μ0 μ → zI X dr 141 [.inr 22, .inl 13, .inl (nI mt)] μ (fun r μ' => r = (if ok then 1 else 0) ∧ Rz L μ0 μ') := by
  obtain ⟨n, e, hn, he, h6, hT⟩ := hB
  have hLT' := hLT
  obtain ⟨t1, t2, t3, t4, t5⟩ := hLT
  have hL2 := LT_2 hLT'
  obtain ⟨e1, e2, e3, e4, e5⟩ := eN_F t4 hcn (by omega)
  have e1l := e1.2
  have hC : CPc L T0 T0 D0 tA [] 4 := CPc_0 hLT' (Ex_rf t4 hcn) (fun k v hv => by simp at hv)
  have h30 := hqb_6 he
  obtain ⟨Tc1, ok, P1, A1, B1⟩ := (Jc_all (X := X) (dr := dr - 1) (by omega) hLT' h11 e (by omega) 520 520 n hT T0 D0 tA [] 4 hC ⟨by omega, by simp; omega, by omega⟩).2 mt (by omega)
  refine ⟨ok, fun μ hs hc => ?_, fun μ hz => ?_⟩
  · refine zI_at [0, 1, 2] (by omega) rfl (k45_0 ⟨_, c_count (by omega), fun r μ1 hr => ?_⟩)
    obtain ⟨rfl, rfl⟩ := hr
    rw [hc.1.1, t1]
    obtain ⟨c0, c1⟩ := CC_0 (res := res) (by omega) t4 hcn hc
    have hq0 : CQ μ0 res T0 D0 [] μ1 (zm_up (zm_up μ1 3 5 (nI res)) 3 4 0) := ⟨SA_CK hs c1, c0, c1⟩
    refine k45_7 ⟨fun r μ' => μ' = zm_up (zm_up μ1 3 5 (nI res)) 3 4 0 ∧ r = nI (520 + n - 1), zI_at [0] (by omega) rfl (k31_0 ⟨rfl, by rw [hq0.1.2.2.2.2.2]; exact h6⟩), fun r μ5 hr => ?_⟩
    obtain ⟨rfl, rfl⟩ := hr
    refine k45_26 ⟨_, CM_use A1 (by omega) hq0, fun r μ6 hr => ?_⟩
    obtain ⟨rfl, hq6⟩ := hr
    refine k45_30 ⟨_, c_forget (by omega) t1 t2 P1.1 hq6.2.1, fun μ7 hr => ?_⟩
    exact k45_40 (by cases ok <;> simp) ⟨rfl, hr.1, CK_tr hq6.2.2 hr.2⟩
  · have hP : CPr L T0 T0 tA [] (eN T0) (fun i => i < T0.length ∧ kd T0 i = 4) tA [] [] := CPr_0 hLT' ⟨e1.1.1, e1.1.2.1, e1.1.2.2.1⟩ (fun i hi => ⟨by have := e1.1.2.1; omega, hi.1⟩) (fun i a b hi => ⟨tw_lt hi, (kd_at hi).1⟩) rfl (fun k v w hv => by simp at hv)
    obtain ⟨f1, f2⟩ := CPr_last hLT' hC hP hmt
    exact m_typed (by omega) hLT' hcn hR0 hz (Or.inr ⟨rfl, rfl⟩) hmt rfl (by rw [if_neg (by decide)]) (B1 (eN T0) _ tA [] [] 0 mt hP ⟨by omega, by simp; omega, by omega⟩ f1 f2)
theorem Rz_rf : Rz L μ μ := ⟨fun _ _ => rfl, fun _ _ _ _ _ => rfl, fun _ _ _ _ _ _ _ _ => rfl⟩

theorem ck_at (hd : 106 ≤ d) (hdr : 24 ≤ dr) (hLT : LT L res T0) (hmt : mt < L) (hcn : cnm T0) (hR0 : t_R μ0 T0) (h11 : μ0 22 11 = nI res) (h12 : μ0 22 12 = nI mt) (hB : BD L μ0) (hM : MD L μ0) : ∃ o : Int32,
    (∀ μ, SA μ0 μ → CPi μ T0 → μ 0 4 = nI res → μ 0 5 = nI mt → zI X d 6 [.inr 0] μ (fun r μ' => r = o ∧ CPi μ' T0 ∧ CK μ μ')) ∧ zI X dr 142 [.inr 22] μ0 (fun r μ' => r = o ∧ Rz L μ0 μ') := by
  obtain ⟨ok1, c1, r1⟩ := ck_body (X := X) (d := d - 1) (dr := dr - 1) (by omega) (by omega) hLT hcn hR0 h11 hB
  obtain ⟨ok2, c2, r2⟩ := ck_mainT (X := X) (d := d - 1) (dr := dr - 1) (by omega) (by omega) hLT hmt hcn hR0 h11 hM
  refine ⟨if ok1 then (if ok2 then 0 else 2) else 1, fun μ hs hc h4 h5 => ?_, ?_⟩
  · refine zI_at [0] (by omega) rfl (k6_0 ?_)
    rw [h4]
    refine ⟨_, c1 μ hs hc, fun r μ1 hr => ?_⟩
    obtain ⟨rfl, hc1, hk1⟩ := hr
    have r0 : μ1 0 = μ 0 := hk1 0 (by decide) (by decide) (by decide) (by decide) (by decide) (by decide) (by decide)
    cases ok1 with
    | false => exact k6_11 (fun z => absurd rfl z) (fun _ => ⟨rfl, hc1, hk1⟩)
    | true =>
      refine k6_11 (fun _ => ?_) (fun z => absurd z zn_10)
      rw [r0, h4, h5]
      refine ⟨_, c2 μ1 (SA_CK hs hk1) hc1, fun r μ2 hr => ?_⟩
      obtain ⟨rfl, hc2, hk2⟩ := hr
      cases ok2 with
      | false => exact k6_31 (fun _ => ⟨rfl, hc2, CK_tr hk1 hk2⟩) (fun z => absurd rfl z)
      | true => exact k6_31 (fun z => absurd z zn_10) (fun _ => ⟨rfl, hc2, CK_tr hk1 hk2⟩)
  · refine zI_at [0] (by omega) rfl (k142_0 ?_)
    rw [h11]
    refine ⟨_, r1 μ0 Rz_rf, fun r μ1 hr => ?_⟩
    obtain ⟨rfl, hz1⟩ := hr
    cases ok1 with
    | false => exact k142_10 (fun z => absurd rfl z) (fun _ => ⟨rfl, hz1⟩)
    | true =>
      refine k142_10 (fun _ => ?_) (fun z => absurd z zn_10)
      rw [hz1.2.2 12 (by decide) (by decide) (by decide) (by decide) (by decide) (by decide) (by decide), h12]
      refine ⟨_, r2 μ1 hz1, fun r μ2 hr => ?_⟩
      obtain ⟨rfl, hz2⟩ := hr
      cases ok2 with
      | false => exact k142_25 (fun _ => ⟨rfl, hz2⟩) (fun z => absurd rfl z)
      | true => exact k142_25 (fun z => absurd z zn_10) (fun _ => ⟨rfl, hz2⟩)
end CK4

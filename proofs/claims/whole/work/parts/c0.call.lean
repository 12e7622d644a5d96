def sg (T0 : tT) (t : Tr) (S : Nat → Tr) (j : Nat) : Tr := if k1 T0 j = 0 then t else S j
def nr : Nat → Nat
  | 0 => 0
  | l + 1 => 2 * nr l + 1

def rl (T0 : tT) : Nat → Nat → List Nat
  | 0, _ => []
  | l + 1, i => if kd T0 i = 2 then i :: (rl T0 l (k1 T0 i) ++ rl T0 l (k2 T0 i)) else if kd T0 i = 3 then i :: rl T0 l (k1 T0 i) else []
section CL0
variable {X : zm_T} {d d' dc dr L n i j k a b e h hh p u q res m m0 m1 m2 c r c1 r1 s f l : Nat} {μ μ' μ0 μ1 μs : zm_u} {T T' T1 T0 Tb Tc Tc1 Tc2 Tr' Tr1 Tr2 : tT} {D : Nat → Option Nat} {S S' : Nat → Tr} {V W : List Nat} {N : Nat → Prop} {ν ν' : Nat → Tr} {Q : List (Nat × Nat)} {as : List zm_v} {v x wt : Int32} {t t0 t1 t' : Tr}
theorem rl_len : ∀ l i, (rl T0 l i).length ≤ nr l := by
  intro l
  induction l with
  | zero => intro i; simp [rl]
  | succ l ih =>
    intro i
    unfold rl nr
    have h1 := ih (k1 T0 i)
    have h2 := ih (k2 T0 i)
    split
    · simp only [List.length_cons, List.length_append]; omega
    · split
      · simp only [List.length_cons]; omega
      · simp
theorem rl_self (hw : tw T0) (hi : i < T0.length) (hl : th (tJ T0 tA i) ≤ l + 1) (hk : kd T0 i = 2 ∨ kd T0 i = 3) : i ∈ rl T0 l i := by
  rcases l with _ | l
  · rcases kd_cases hw hi with ⟨k, e⟩ | ⟨k, e⟩ | ⟨k, x1, x2, e⟩ | ⟨k, x1, e⟩ | ⟨k, e⟩ <;> first | omega | skip
    · rw [e, th_P] at hl
      have := th_pos (tJ T0 tA (k1 T0 i))
      omega
    · rw [e, th_E] at hl
      have := th_pos (tJ T0 tA (k1 T0 i))
      omega
  · unfold rl
    rcases hk with hk | hk
    · rw [if_pos hk]; exact List.mem_cons_self ..
    · rw [if_neg (by omega), if_pos hk]; exact List.mem_cons_self ..
theorem rl_part (hw : tw T0) : ∀ l i, i < T0.length → th (tJ T0 tA i) ≤ l + 1 → ∀ j ∈ rl T0 l i, j < T0.length ∧ (kd T0 j = 2 → ∀ x, x = k1 T0 j ∨ x = k2 T0 j → (kd T0 x = 2 ∨ kd T0 x = 3) → x ∈ rl T0 l i) ∧ (kd T0 j = 3 → ∀ x, x = k1 T0 j → (kd T0 x = 2 ∨ kd T0 x = 3) → x ∈ rl T0 l i) := by
  intro l
  induction l with
  | zero => intro i _ _ j hj; simp [rl] at hj
  | succ l ih =>
    intro i hi hl j hj
    unfold rl at hj ⊢
    rcases kd_cases hw hi with ⟨k, e⟩ | ⟨k, e⟩ | ⟨k, x1, x2, e⟩ | ⟨k, x1, e⟩ | ⟨k, e⟩
    · rw [if_neg (by omega), if_neg (by omega)] at hj; simp at hj
    · rw [if_neg (by omega), if_neg (by omega)] at hj; simp at hj
    · rw [if_pos k] at hj ⊢
      rw [e, th_P] at hl
      have h1 : th (tJ T0 tA (k1 T0 i)) ≤ l + 1 := by omega
      have h2 : th (tJ T0 tA (k2 T0 i)) ≤ l + 1 := by omega
      rcases List.mem_cons.mp hj with rfl | hj
      · refine ⟨hi, fun _ x hx hk => List.mem_cons_of_mem _ (List.mem_append.mpr ?_), fun k3 => by omega⟩
        rcases hx with rfl | rfl
        · exact Or.inl (rl_self hw (by omega) h1 hk)
        · exact Or.inr (rl_self hw (by omega) h2 hk)
      · rcases List.mem_append.mp hj with hj | hj
        · obtain ⟨q1, q2, q3⟩ := ih _ (by omega) h1 j hj
          exact ⟨q1, fun k' x hx hk => List.mem_cons_of_mem _ (List.mem_append.mpr (Or.inl (q2 k' x hx hk))), fun k' x hx hk => List.mem_cons_of_mem _ (List.mem_append.mpr (Or.inl (q3 k' x hx hk)))⟩
        · obtain ⟨q1, q2, q3⟩ := ih _ (by omega) h2 j hj
          exact ⟨q1, fun k' x hx hk => List.mem_cons_of_mem _ (List.mem_append.mpr (Or.inr (q2 k' x hx hk))), fun k' x hx hk => List.mem_cons_of_mem _ (List.mem_append.mpr (Or.inr (q3 k' x hx hk)))⟩
    · rw [if_neg (by omega), if_pos k] at hj ⊢
      rw [e, th_E] at hl
      have h1 : th (tJ T0 tA (k1 T0 i)) ≤ l + 1 := by omega
      rcases List.mem_cons.mp hj with rfl | hj
      · refine ⟨hi, fun k3 => by omega, fun _ x hx hk => List.mem_cons_of_mem _ ?_⟩
        subst hx
        exact rl_self hw (by omega) h1 hk
      · obtain ⟨q1, q2, q3⟩ := ih _ (by omega) h1 j hj
        exact ⟨q1, fun k' x hx hk => List.mem_cons_of_mem _ (q2 k' x hx hk), fun k' x hx hk => List.mem_cons_of_mem _ (q3 k' x hx hk)⟩
    · rw [if_neg (by omega), if_neg (by omega)] at hj; simp at hj
theorem c_resultAt (hLT : LT L res T0) : ∀ (l i : Nat) (Tc : tT), l ≤ 3 → i < L → th (tJ T0 tA i) ≤ l + 1 → CPc L T0 Tc D S V h → c < Tc.length → cT Tc S c = t → Tc.length + nr l < 466 →
    ∃ Tc' j, En (nr l) Tc Tc' ∧ j < Tc'.length ∧ cT Tc' S j = tJ T0 (sg T0 t S) i ∧ CM X (l + 5) μ0 res 62 [.inr 3, .inl (nI i), .inl (nI c), .inl (nI (l + 1))] Tc D V (nI j) Tc' := by
  intro l
  induction l with
  | zero =>
    intro i Tc hl3 hi hth hC hc ht hlen
    have hw0 := hLT.2.2.2.1
    have hi0 : i < T0.length := by rw [hLT.1]; exact hi
    have hl := hLT.2.1
    have hat : Tc[i]? = some (kd T0 i, k1 T0 i, k2 T0 i) := (hC.2.1.2 i hi).trans (at_kd hi0)
    obtain ⟨z1, z2, z3⟩ := CPc_last hLT hC hi
    have hc9 : ¬ nI c = -1 := nI_m1 (by omega)
    have hkk := kd_w hw0 hi0
    have start : ∀ (v : Int32), (∀ μs μ, CQ μ0 res Tc D V μs μ → zV X 4 62 19 [(0, .inr 3), (1, .inl (nI i)), (2, .inl (nI c)), (3, .inl (nI 1))] [.inl (nI (t_ck (kd T0 i)))] μ (zpi (fun r' μ' => r' = v ∧ CC μ' Tc D V res ∧ CK μs μ'))) → CM X 5 μ0 res 62 [.inr 3, .inl (nI i), .inl (nI c), .inl (nI 1)] Tc D V v Tc := by
      intro v H μ hs hcc
      refine zI_at [0, 1, 2, 3] (by omega) rfl (k62_0 (fun z => absurd z hc9) (fun _ _ => ⟨_, c_kX (by omega) hcc.1 hat, fun r μ1 hr => ?_⟩) (fun _ z => absurd z (by decide)))
      obtain ⟨rfl, rfl⟩ := hr
      exact H _ _ (CQ_0 hs hcc)
    rcases kd_cases hw0 hi0 with ⟨k, e⟩ | ⟨k, e⟩ | ⟨k, x1, x2, e⟩ | ⟨k, x1, e⟩ | ⟨k, e⟩
    · refine ⟨Tc, i, En_rf hC.1.1 hC.1.2.1, z1, by rw [z3, e, e], start _ (fun μs μ hq => ?_)⟩
      rw [k]
      exact k62_19 (by intros; contradiction) (by intros; contradiction) (by intros; contradiction) (fun _ _ _ => ⟨rfl, hq.2⟩)
    · refine ⟨Tc, i, En_rf hC.1.1 hC.1.2.1, z1, by rw [z3, e, e], start _ (fun μs μ hq => ?_)⟩
      rw [k]
      exact k62_19 (by intros; contradiction) (by intros; contradiction) (by intros; contradiction) (fun _ _ _ => ⟨rfl, hq.2⟩)
    · rw [e, th_P] at hth
      have := th_pos (tJ T0 tA (k1 T0 i))
      omega
    · rw [e, th_E] at hth
      have := th_pos (tJ T0 tA (k1 T0 i))
      omega
    · by_cases h0 : k1 T0 i = 0
      · refine ⟨Tc, c, En_rf hC.1.1 hC.1.2.1, hc, by rw [ht, e]; unfold sg; rw [if_pos h0], start _ (fun μs μ hq => ?_)⟩
        rw [k]
        refine k62_19 (by intros; contradiction) (by intros; contradiction) (fun _ _ _ => ⟨_, c_fX (by omega) hq.2.1.1 hat, fun r μ1 hr => ?_⟩) (by intros; contradiction)
        obtain ⟨rfl, rfl⟩ := hr
        rw [h0]
        exact k62_116 (fun z => absurd rfl z) (fun _ => ⟨rfl, hq.2⟩)
      · refine ⟨Tc, i, En_rf hC.1.1 hC.1.2.1, z1, by rw [z3, e, e]; unfold sg; rw [if_neg h0], start _ (fun μs μ hq => ?_)⟩
        rw [k]
        refine k62_19 (by intros; contradiction) (by intros; contradiction) (fun _ _ _ => ⟨_, c_fX (by omega) hq.2.1.1 hat, fun r μ1 hr => ?_⟩) (by intros; contradiction)
        obtain ⟨rfl, rfl⟩ := hr
        exact k62_116 (fun _ => ⟨rfl, hq.2⟩) (fun z => absurd ((nI_inj (by omega) (by omega)).mp (z.trans (show (0 : Int32) = nI 0 from rfl))) h0)
  | succ l ih =>
    intro i Tc hl3 hi hth hC hc ht hlen
    have hw0 := hLT.2.2.2.1
    have hi0 : i < T0.length := by rw [hLT.1]; exact hi
    have hl := hLT.2.1
    have hat : Tc[i]? = some (kd T0 i, k1 T0 i, k2 T0 i) := (hC.2.1.2 i hi).trans (at_kd hi0)
    obtain ⟨z1, z2, z3⟩ := CPc_last hLT hC hi
    have hc9 : ¬ nI c = -1 := nI_m1 (by omega)
    have hkk := kd_w hw0 hi0
    have hnr : nr (l + 1) = 2 * nr l + 1 := rfl
    have n0 : ¬ nI (l + 1 + 1) = 0 := by rw [show (0 : Int32) = nI 0 from rfl, nI_inj (by omega) (by omega)]; omega
    have em : nI (l + 1 + 1) - 1 = nI (l + 1) := by rw [← nI_one, nI_sub (by omega)]; rfl
    have start : ∀ (v : Int32) (Tc' : tT), (∀ μs μ, CQ μ0 res Tc D V μs μ → zV X (l + 5) 62 19 [(0, .inr 3), (1, .inl (nI i)), (2, .inl (nI c)), (3, .inl (nI (l + 1 + 1)))] [.inl (nI (t_ck (kd T0 i)))] μ (zpi (fun r' μ' => r' = v ∧ CC μ' Tc' D V res ∧ CK μs μ'))) → CM X (l + 1 + 5) μ0 res 62 [.inr 3, .inl (nI i), .inl (nI c), .inl (nI (l + 1 + 1))] Tc D V v Tc' := by
      intro v Tc' H μ hs hcc
      refine zI_at [0, 1, 2, 3] (by omega) rfl (k62_0 (fun z => absurd z hc9) (fun _ _ => ⟨_, c_kX (by omega) hcc.1 hat, fun r μ1 hr => ?_⟩) (fun _ z => absurd z n0))
      obtain ⟨rfl, rfl⟩ := hr
      exact H _ _ (CQ_0 hs hcc)
    rcases kd_cases hw0 hi0 with ⟨k, e⟩ | ⟨k, e⟩ | ⟨k, x1, x2, e⟩ | ⟨k, x1, e⟩ | ⟨k, e⟩
    · refine ⟨Tc, i, En_rf hC.1.1 hC.1.2.1, z1, by rw [z3, e, e], start _ _ (fun μs μ hq => ?_)⟩
      rw [k]
      exact k62_19 (by intros; contradiction) (by intros; contradiction) (by intros; contradiction) (fun _ _ _ => ⟨rfl, hq.2⟩)
    · refine ⟨Tc, i, En_rf hC.1.1 hC.1.2.1, z1, by rw [z3, e, e], start _ _ (fun μs μ hq => ?_)⟩
      rw [k]
      exact k62_19 (by intros; contradiction) (by intros; contradiction) (by intros; contradiction) (fun _ _ _ => ⟨rfl, hq.2⟩)
    · rw [e, th_P] at hth
      obtain ⟨T1, j1, e1, l1, m1, A1⟩ := ih (k1 T0 i) Tc (by omega) (by omega) (by omega) hC hc ht (by omega)
      have hC1 := CPc_mono hC e1.1
      have e1l := e1.2
      have hc1 : c < T1.length := by have := e1.1.2.1; omega
      obtain ⟨T2, j2, e2, l2, m2, A2⟩ := ih (k2 T0 i) T1 (by omega) (by omega) (by omega) hC1 hc1 (by rw [Ex_cT hC.1.1 e1.1 hc, ht]) (by omega)
      have hC2 := CPc_mono hC1 e2.1
      have e2l := e2.2
      have v1 : vc T2 (some j1) := fun i hi => by simp at hi; have := e2.1.2.1; omega
      have v2 : vc T2 (some j2) := fun i hi => by simp at hi; omega
      obtain ⟨g1, g2, g3⟩ := cPair_m (S := S) hC2.1.1 hC2.1.2.1 (by omega) v1 v2
      obtain ⟨jj, hjj⟩ : ∃ j, (cPair T2 (some j1) (some j2)).2 = some j := ⟨_, rfl⟩
      rw [hjj] at g3
      simp only [Option.map_some, o2, Option.some.injEq] at g3
      refine ⟨_, jj, En_tr (En_tr e1 e2 (Nat.le_refl _)) g1 (by omega), g2 jj hjj, by rw [g3, e, m2, Ex_cT hC1.1.1 e2.1 l1, m1], start _ _ (fun μs μ hq => ?_)⟩
      rw [k]
      refine k62_19 (fun _ => ⟨_, c_fX (by omega) hq.2.1.1 hat, fun r μ1 hr => ?_⟩) (by intros; contradiction) (by intros; contradiction) (by intros; contradiction)
      obtain ⟨rfl, rfl⟩ := hr
      refine k62_57 ?_
      rw [em]
      refine ⟨_, CM_use A1 (Nat.le_refl _) hq, fun r μ2 hr => ?_⟩
      obtain ⟨rfl, hq2⟩ := hr
      have hat1 : T1[i]? = some (kd T0 i, k1 T0 i, k2 T0 i) := (hC1.2.1.2 i hi).trans (at_kd hi0)
      refine k62_64 ⟨_, c_sX (by omega) hq2.2.1.1 hat1, fun r μ3 hr => ?_⟩
      obtain ⟨rfl, rfl⟩ := hr
      refine k62_73 ?_
      rw [em]
      refine ⟨_, CM_use A2 (Nat.le_refl _) hq2, fun r μ4 hr => ?_⟩
      obtain ⟨rfl, hq4⟩ := hr
      refine k62_80 ⟨_, CM_use (cm_pair (d := l + 5) (x1 := some j1) (x2 := some j2) (by omega) (by omega) v1 v2) (Nat.le_refl _) hq4, fun r μ5 hr => k62_83 ?_⟩
      obtain ⟨rfl, hq5⟩ := hr
      exact ⟨by rw [hjj]; rfl, hq5.2⟩
    · rw [e, th_E] at hth
      obtain ⟨T1, j1, e1, l1, m1, A1⟩ := ih (k1 T0 i) Tc (by omega) (by omega) (by omega) hC hc ht (by omega)
      have hC1 := CPc_mono hC e1.1
      have e1l := e1.2
      have v1 : vc T1 (some j1) := fun i hi => by simp at hi; omega
      obtain ⟨g1, g2, g3⟩ := cExp_m (S := S) hC1.1.1 hC1.1.2.1 (by omega) v1
      obtain ⟨jj, hjj⟩ : ∃ j, (cExp T1 (some j1)).2 = some j := ⟨_, rfl⟩
      rw [hjj] at g3
      simp only [Option.map_some, Option.some.injEq] at g3
      refine ⟨_, jj, En_tr e1 g1 (by omega), g2 jj hjj, by rw [g3, e, m1], start _ _ (fun μs μ hq => ?_)⟩
      rw [k]
      refine k62_19 (by intros; contradiction) (fun _ _ => ⟨_, c_fX (by omega) hq.2.1.1 hat, fun r μ1 hr => ?_⟩) (by intros; contradiction) (by intros; contradiction)
      obtain ⟨rfl, rfl⟩ := hr
      refine k62_97 ?_
      rw [em]
      refine ⟨_, CM_use A1 (Nat.le_refl _) hq, fun r μ2 hr => ?_⟩
      obtain ⟨rfl, hq2⟩ := hr
      refine k62_104 ⟨_, CM_use (cm_exp (d := l + 5) (x1 := some j1) (by omega) (by omega) v1) (Nat.le_refl _) hq2, fun r μ5 hr => k62_107 ?_⟩
      obtain ⟨rfl, hq5⟩ := hr
      exact ⟨by rw [hjj]; rfl, hq5.2⟩
    · by_cases h0 : k1 T0 i = 0
      · refine ⟨Tc, c, En_rf hC.1.1 hC.1.2.1, hc, by rw [ht, e]; unfold sg; rw [if_pos h0], start _ _ (fun μs μ hq => ?_)⟩
        rw [k]
        refine k62_19 (by intros; contradiction) (by intros; contradiction) (fun _ _ _ => ⟨_, c_fX (by omega) hq.2.1.1 hat, fun r μ1 hr => ?_⟩) (by intros; contradiction)
        obtain ⟨rfl, rfl⟩ := hr
        rw [h0]
        exact k62_116 (fun z => absurd rfl z) (fun _ => ⟨rfl, hq.2⟩)
      · refine ⟨Tc, i, En_rf hC.1.1 hC.1.2.1, z1, by rw [z3, e, e]; unfold sg; rw [if_neg h0], start _ _ (fun μs μ hq => ?_)⟩
        rw [k]
        refine k62_19 (by intros; contradiction) (by intros; contradiction) (fun _ _ _ => ⟨_, c_fX (by omega) hq.2.1.1 hat, fun r μ1 hr => ?_⟩) (by intros; contradiction)
        obtain ⟨rfl, rfl⟩ := hr
        exact k62_116 (fun _ => ⟨rfl, hq.2⟩) (fun z => absurd ((nI_inj (by omega) (by omega)).mp (z.trans (show (0 : Int32) = nI 0 from rfl))) h0)
end CL0

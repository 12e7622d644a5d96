def Lv (T : tT) (N : Nat → Prop) (i : Nat) : Prop := i < T.length ∧ ta N (tJ T tA i)
def MO (T : tT) (N : Nat → Prop) (ν : Nat → Tr) (Q : List (Nat × Nat)) : Prop :=
  (∀ a b, (a, b) ∈ Q → Lv T N a ∧ Lv T N b ∧ tJ T ν a = tJ T ν b) ∧
  (∀ i j l, N i → N j → i < T.length → j < T.length → kd T i = 4 → kd T j = 4 → ν i = tA l → ν j = tA l → Der T Q i j) ∧
  (∀ i, N i → i < T.length → kd T i = 4 → (∀ l, ν i ≠ tA l) → ∃ p, p < T.length ∧ kd T p ≠ 4 ∧ Der T Q i p)
def Rm (T : tT) (N : Nat → Prop) (ν : Nat → Tr) (a b : Nat) : Prop := a = b ∨ (Lv T N a ∧ Lv T N b ∧ tJ T ν a = tJ T ν b)
def sumh (T : tT) (ν : Nat → Tr) : Nat → Nat
  | 0 => 0
  | n + 1 => sumh T ν n + th (tJ T ν n)
section MD
variable {X : zm_T} {d n i j p q x y a b u v w t l : Nat} {μ μ' μ1 : zm_u} {T T' : tT} {rt : Nat → Nat} {W Q Q' : List (Nat × Nat)} {N N' : Nat → Prop} {ν ν' : Nat → Tr}
theorem sumh_le : ∀ n, i < n → th (tJ T ν i) ≤ sumh T ν n := by
  intro n
  induction n with
  | zero => intro h; omega
  | succ n ih =>
    intro h
    unfold sumh
    by_cases e : i = n
    · subst e; omega
    · have := ih (by omega); omega
theorem kd_cases (hw : tw T) (h : i < T.length) : (kd T i = 0 ∧ ∀ ν, tJ T ν i = tI) ∨ (kd T i = 1 ∧ ∀ ν, tJ T ν i = tB) ∨ (kd T i = 2 ∧ k1 T i < i ∧ k2 T i < i ∧ ∀ ν, tJ T ν i = tP (tJ T ν (k1 T i)) (tJ T ν (k2 T i))) ∨ (kd T i = 3 ∧ k1 T i < i ∧ ∀ ν, tJ T ν i = tE (tJ T ν (k1 T i))) ∨ (kd T i = 4 ∧ ∀ ν, tJ T ν i = ν i) := by
  have hq := at_kd h
  have w := kd_w hw h
  rcases (show kd T i = 0 ∨ kd T i = 1 ∨ kd T i = 2 ∨ kd T i = 3 ∨ kd T i = 4 by omega) with k | k | k | k | k
  · rw [k] at hq
    exact Or.inl ⟨k, fun ν => tJ_0 hq⟩
  · rw [k] at hq
    exact Or.inr (Or.inl ⟨k, fun ν => tJ_1 hq⟩)
  · rw [k] at hq
    exact Or.inr (Or.inr (Or.inl ⟨k, (w.2.1 k).1, (w.2.1 k).2, fun ν => tJ_2 hw hq⟩))
  · rw [k] at hq
    exact Or.inr (Or.inr (Or.inr (Or.inl ⟨k, w.2.2.1 k, fun ν => tJ_3 hw hq⟩)))
  · rw [k] at hq
    exact Or.inr (Or.inr (Or.inr (Or.inr ⟨k, fun ν => tJ_4 hq⟩)))
theorem kd_thd (hw : tw T) (h : i < T.length) (hk : kd T i ≠ 4) : thd (tJ T ν i) = kd T i := by
  rcases kd_cases hw h with ⟨k, e⟩ | ⟨k, e⟩ | ⟨k, _, _, e⟩ | ⟨k, _, e⟩ | ⟨k, _⟩
  · rw [k, e]; rfl
  · rw [k, e]; rfl
  · rw [k, e]; rfl
  · rw [k, e]; rfl
  · exact absurd k hk
theorem Lv_2 (hw : tw T) (h : Lv T N i) (k : kd T i = 2) : Lv T N (k1 T i) ∧ Lv T N (k2 T i) := by
  rcases kd_cases hw h.1 with ⟨k', _⟩ | ⟨k', _⟩ | ⟨k', a1, a2, e⟩ | ⟨k', _, _⟩ | ⟨k', _⟩ <;> first | omega | skip
  have h2 := h.2
  rw [e] at h2
  exact ⟨⟨by have := h.1; omega, h2.1⟩, ⟨by have := h.1; omega, h2.2⟩⟩
theorem Lv_3 (hw : tw T) (h : Lv T N i) (k : kd T i = 3) : Lv T N (k1 T i) := by
  rcases kd_cases hw h.1 with ⟨k', _⟩ | ⟨k', _⟩ | ⟨k', a1, a2, e⟩ | ⟨k', a1, e⟩ | ⟨k', _⟩ <;> first | omega | skip
  have h2 := h.2
  rw [e] at h2
  exact ⟨by have := h.1; omega, h2⟩
theorem Lv_4 (hw : tw T) (h : Lv T N i) (k : kd T i = 4) : N i := by
  have hq := at_kd h.1
  rw [k] at hq
  have h2 := h.2
  rw [tJ_4 hq] at h2
  exact h2
theorem Lv_of4 (h : i < T.length) (k : kd T i = 4) (hn : N i) : Lv T N i := by
  have hq := at_kd h
  rw [k] at hq
  refine ⟨h, ?_⟩
  rw [tJ_4 hq]
  exact hn
theorem Rm_eqv : Eqv (Rm T N ν) := by
  refine ⟨fun a => Or.inl rfl, fun a b h => ?_, fun a b c h1 h2 => ?_⟩
  · rcases h with h | ⟨h1, h2, h3⟩
    · exact Or.inl h.symm
    · exact Or.inr ⟨h2, h1, h3.symm⟩
  · rcases h1 with rfl | ⟨a1, a2, a3⟩
    · exact h2
    · rcases h2 with rfl | ⟨b1, b2, b3⟩
      · exact Or.inr ⟨a1, a2, a3⟩
      · exact Or.inr ⟨a1, b2, a3.trans b3⟩
theorem Rm_good (hw : tw T) (h : MO T N ν Q) : Good T Q (Rm T N ν) := by
  refine ⟨Rm_eqv, fun a b hm => Or.inr (h.1 a b hm), fun p q hp hq hr => ?_⟩
  rcases hr with rfl | ⟨h1, h2, h3⟩
  · exact ⟨fun _ _ => ⟨Or.inl rfl, Or.inl rfl⟩, fun _ _ => Or.inl rfl⟩
  · refine ⟨fun kp kq => ?_, fun kp kq => ?_⟩
    · have hp2 := at_kd hp
      have hq2 := at_kd hq
      rw [kp] at hp2
      rw [kq] at hq2
      rw [tJ_2 hw hp2, tJ_2 hw hq2] at h3
      obtain ⟨e1, e2⟩ := tP_inj h3
      exact ⟨Or.inr ⟨(Lv_2 hw h1 kp).1, (Lv_2 hw h2 kq).1, e1⟩, Or.inr ⟨(Lv_2 hw h1 kp).2, (Lv_2 hw h2 kq).2, e2⟩⟩
    · have hp2 := at_kd hp
      have hq2 := at_kd hq
      rw [kp] at hp2
      rw [kq] at hq2
      rw [tJ_3 hw hp2, tJ_3 hw hq2] at h3
      exact Or.inr ⟨Lv_3 hw h1 kp, Lv_3 hw h2 kq, tE_inj h3⟩
theorem Rm_free (hw : tw T) (hp : p < T.length) (hq : q < T.length) (h : Rm T N ν p q) (kp : kd T p ≠ 4) (kq : kd T q ≠ 4) : kd T p = kd T q := by
  rcases h with rfl | ⟨_, _, h3⟩
  · rfl
  · rw [← kd_thd (ν := ν) hw hp kp, h3, kd_thd hw hq kq]
theorem hgt_ex (hw : tw T) : ∃ ht : Nat → Nat, (∀ i j, Rm T N ν i j → ht i = ht j) ∧ ∀ i, i < T.length → (kd T i = 2 → ht (k1 T i) < ht i ∧ ht (k2 T i) < ht i) ∧ (kd T i = 3 → ht (k1 T i) < ht i) := by
  classical
  let ht : Nat → Nat := fun i => if Lv T N i then th (tJ T ν i) else sumh T ν T.length + 1 + i
  have e1 : ∀ i, Lv T N i → ht i = th (tJ T ν i) := fun i h => if_pos h
  have e2 : ∀ i, ¬ Lv T N i → ht i = sumh T ν T.length + 1 + i := fun i h => if_neg h
  have low : ∀ i j, i < T.length → j < i → ¬ Lv T N i → ht j < ht i := by
    intro i j hi hj h
    rw [e2 i h]
    by_cases z : Lv T N j
    · rw [e1 j z]
      have := sumh_le (T := T) (ν := ν) (i := j) T.length (by omega)
      omega
    · rw [e2 j z]
      omega
  refine ⟨ht, fun i j h => ?_, fun i hi => ?_⟩
  · rcases h with rfl | ⟨h1, h2, h3⟩
    · rfl
    · rw [e1 i h1, e1 j h2, h3]
  · have w := kd_w hw hi
    by_cases z : Lv T N i
    · refine ⟨fun k => ?_, fun k => ?_⟩
      · obtain ⟨l1, l2⟩ := Lv_2 hw z k
        have hq := at_kd hi
        rw [k] at hq
        rw [e1 _ z, e1 _ l1, e1 _ l2, tJ_2 hw hq, th_P]
        omega
      · have l1 := Lv_3 hw z k
        have hq := at_kd hi
        rw [k] at hq
        rw [e1 _ z, e1 _ l1, tJ_3 hw hq, th_E]
        omega
    · exact ⟨fun k => ⟨low i _ hi (w.2.1 k).1 z, low i _ hi (w.2.1 k).2 z⟩, fun k => low i _ hi (w.2.2.1 k) z⟩
theorem MO_Wb (h : MO T N ν Q) : Wb T.length Q := fun a b hm => ⟨(h.1 a b hm).1.1, (h.1 a b hm).2.1.1⟩
theorem m_solveM (hd : 7 ≤ d) (hR : RP μ T) (hE : EQ μ Q) (h : MO T N ν Q) : zI X d 121 [.inr 22] μ (fun r μ' => SF μ μ' ∧ r = 1 ∧ ∃ rt, SV μ' T Q rt) := by
  obtain ⟨ht, h1, h2⟩ := hgt_ex (N := N) (ν := ν) hR.2.2.1
  exact m_solve_ok hd hR hE (MO_Wb h) (Rm_good hR.2.2.1 h) (fun _ _ hp hq hr kp kq => Rm_free hR.2.2.1 hp hq hr kp kq) (fun i j _ _ hr => h1 i j hr) h2
theorem Der_Rm (hw : tw T) (h : MO T N ν Q) (hD : Der T Q i j) : Rm T N ν i j := hD _ (Rm_good hw h)
theorem Der_M (hw : tw T) (h : MO T N ν Q) (hD : Der T Q i j) : tJ T ν i = tJ T ν j := by
  rcases Der_Rm hw h hD with rfl | ⟨_, _, e⟩
  · rfl
  · exact e
theorem Der_rf : Der T Q i i := fun R hR => hR.1.1 i
theorem Der_sy (h : Der T Q i j) : Der T Q j i := fun R hR => hR.1.2.1 _ _ (h R hR)
theorem Der_tr (h : Der T Q i j) (h2 : Der T Q j x) : Der T Q i x := fun R hR => hR.1.2.2 _ _ _ (h R hR) (h2 R hR)

theorem M_known (hw : tw T) (h : MO T N ν Q) (hl : Lv T N t) (ha : ∀ l, tJ T ν t ≠ tA l) : ∃ p, Lv T N p ∧ kd T p ≠ 4 ∧ Der T Q t p ∧ tJ T ν p = tJ T ν t ∧ kd T p = thd (tJ T ν t) := by
  by_cases k : kd T t = 4
  · have hq := at_kd hl.1
    rw [k] at hq
    obtain ⟨p, hp, kp, hD⟩ := h.2.2 t (Lv_4 hw hl k) hl.1 k (fun l e => ha l (by rw [tJ_4 hq]; exact e))
    rcases Der_Rm hw h hD with rfl | ⟨_, l2, e⟩
    · exact absurd k kp
    · exact ⟨p, l2, kp, hD, e.symm, by rw [e]; exact (kd_thd hw hp kp).symm⟩
  · exact ⟨t, hl, k, Der_rf, rfl, (kd_thd hw hl.1 k).symm⟩
theorem SV_shape (hw : tw T) (h : MO T N ν Q) (hS : SV μ T Q rt) (hl : Lv T N t) : ((∃ l, tJ T ν t = tA l) ∧ kd T t = 4 ∧ μ 44 (rt t) = -1) ∨ ∃ p, Lv T N p ∧ μ 44 (rt t) = nI p ∧ kd T p ≠ 4 ∧ tJ T ν p = tJ T ν t ∧ kd T p = thd (tJ T ν t) := by
  obtain ⟨⟨dep, hU⟩, hs, hD⟩ := hS
  obtain ⟨u1, u2, _⟩ := hU t hl.1
  rcases hs (rt t) u1 u2 with ⟨s1, s2⟩ | ⟨p, hp, s1, s2, s3⟩
  · have k := s2 t hl.1 rfl
    refine Or.inl ⟨?_, k, s1⟩
    by_cases z : ∃ l, tJ T ν t = tA l
    · exact z
    · obtain ⟨p, lp, kp, hDp, _, _⟩ := M_known hw h hl (fun l e => z ⟨l, e⟩)
      exact absurd (s2 p lp.1 ((hD t p hl.1 lp.1).mpr hDp).symm) kp
  · right
    rcases Der_Rm hw h ((hD p t hp hl.1).mp s2) with rfl | ⟨l1, l2, e⟩
    · exact ⟨p, hl, s1, s3, rfl, (kd_thd hw hl.1 s3).symm⟩
    · exact ⟨p, l1, s1, s3, e, by rw [← e]; exact (kd_thd hw hp s3).symm⟩
def FA (μ μ' : zm_u) : Prop := SF μ μ' ∧ μ' 43 = μ 43 ∧ μ' 44 = μ 44
theorem FA_rf : FA μ μ := ⟨SF_rf, rfl, rfl⟩
theorem FA_tr (h1 : FA μ μ1) (h2 : FA μ1 μ') : FA μ μ' := ⟨SF_tr h1.1 h2.1, h2.2.1.trans h1.2.1, h2.2.2.trans h1.2.2⟩
theorem tA_thd (hw : tw T) (hl : p < T.length) (kp : kd T p ≠ 4) : tJ T ν p ≠ tA l := by
  intro e
  have := kd_thd (ν := ν) hw hl kp
  rw [e] at this
  exact kp this.symm
theorem SV_FA (h : SV μ T Q rt) (hf : FA μ μ') : SV μ' T Q rt := by
  obtain ⟨⟨dep, hU⟩, hs, hD⟩ := h
  exact ⟨⟨dep, UF_43 hU hf.2.1⟩, Us_44 hs hf.2.2, hD⟩
theorem m_eqloop (hd : 2 ≤ d) (h : MO T N ν Q) : ∀ (m a b : Nat), th (tJ T ν a) ≤ m → Lv T N a → Lv T N b → ∀ (W : List (Nat × Nat)) (μ : zm_u), W.length + m < 800 → RP μ T → SV μ T Q rt → Tp μ ((a, b) :: W) → ∀ P : Int32 → zm_u → Prop, (tJ T ν a ≠ tJ T ν b → ∀ μ', FA μ μ' → P 0 μ') → (tJ T ν a = tJ T ν b → ∀ μ', FA μ μ' → Tp μ' W → zV X d 122 11 [(0, .inr 22)] [] μ' (zpi P)) → zV X d 122 11 [(0, .inr 22)] [] μ (zpi P) := by
  intro m
  induction m with
  | zero =>
    intro a b hm
    have := th_pos (tJ T ν a)
    omega
  | succ m ih =>
    intro a b hm la lb W μ hlen hR hS hT P hno hyes
    have hw := hR.2.2.1
    have hl6 := hR.2.1
    obtain ⟨t1, t2, t3⟩ := Tp_pop hT
    have h34 := hT.1
    simp only [List.length_cons] at h34
    have z0 : ¬ μ 22 34 ≤ 0 := by rw [h34, show (0 : Int32) = nI 0 from rfl, nI_leI (by omega) (by omega)]; omega
    have hm1 : μ 22 34 - 1 = nI W.length := by rw [h34, ← nI_one, nI_sub (by omega)]; rfl
    have bb : 0 ≤ (μ 22 34 - 1).toInt ∧ (μ 22 34 - 1).toInt < ((800 : Nat) : Int) := by rw [hm1, nI_t (by omega)]; omega
    have hf0 : FA μ (zm_up μ 22 34 (nI W.length)) := ⟨SF_34, zm_up_row (by decide), zm_up_row (by decide)⟩
    refine k122_11 (fun z => absurd z z0) (fun _ => bb) (fun _ => ?_)
    rw [hm1, nI_c (by omega), t1]
    have t2' : (zm_up μ 22 34 (nI W.length)) 46 W.length = nI b := by rw [zm_up_row (by decide)]; exact t2
    have t34 : (zm_up μ 22 34 (nI W.length)) 22 34 = nI W.length := by rw [zm_up_at, if_pos ⟨rfl, rfl⟩]
    have hR0 := RP_SF hR hf0.1
    have hS0 := SV_FA hS hf0
    generalize (zm_up μ 22 34 (nI W.length)) = μ0 at hf0 t3 t2' t34 hR0 hS0 ⊢
    obtain ⟨⟨dep, hU⟩, hs, hD⟩ := hS0
    have hS0 : SV μ0 T Q rt := ⟨⟨dep, hU⟩, hs, hD⟩
    refine ⟨_, m_top (by omega) hU hl6 la.1, fun r μ2 hr => ?_⟩
    obtain ⟨rfl, rfl⟩ := hr
    refine k122_41 (by rw [t34, nI_t (by omega)]; omega) ?_
    rw [t34, nI_c (by omega), t2']
    refine ⟨_, m_top (by omega) hU hl6 lb.1, fun r μ3 hr => ?_⟩
    obtain ⟨rfl, rfl⟩ := hr
    have ra := (hU a la.1).1
    have rb := (hU b lb.1).1
    have ba : 0 ≤ (nI (rt a)).toInt ∧ (nI (rt a)).toInt < ((600 : Nat) : Int) := by rw [nI_t (by omega)]; omega
    have bb' : 0 ≤ (nI (rt b)).toInt ∧ (nI (rt b)).toInt < ((600 : Nat) : Int) := by rw [nI_t (by omega)]; omega
    have ca : (nI (rt a)).toNatClampNeg = rt a := nI_c (by omega)
    have cb : (nI (rt b)).toNatClampNeg = rt b := nI_c (by omega)
    by_cases hab : rt a = rt b
    · have ee : nI (rt a) = nI (rt b) := by rw [hab]
      have eM : tJ T ν a = tJ T ν b := Der_M hw h ((hD a b la.1 lb.1).mp hab)
      exact k122_55 (fun _ => k122_178 (hyes eM μ3 hf0 t3)) (fun z => absurd ee z) (fun z => absurd ee z) (fun z => absurd ee z) (fun z => absurd ee z) (fun z => absurd ee z) (fun z => absurd ee z) (fun z => absurd ee z) (fun z => absurd ee z) (fun z => absurd ee z) (fun z => absurd ee z) (fun z => absurd ee z) (fun z => absurd ee z)
    have nab : ¬ nI (rt a) = nI (rt b) := by rw [nI_inj (by omega) (by omega)]; exact hab
    have m1 : (-1 : Int32) < 0 := by decide
    rcases SV_shape hw h hS0 la with ⟨⟨l, ea⟩, ka, sa⟩ | ⟨p, lp, sa, kp, ep, hp⟩
    · have hne : tJ T ν a ≠ tJ T ν b := by
        intro e
        have eb : tJ T ν b = tA l := e.symm.trans ea
        have kb : kd T b = 4 := by
          by_cases z : kd T b = 4
          · exact z
          · exact absurd eb (tA_thd hw lb.1 z)
        have qa := at_kd la.1
        have qb := at_kd lb.1
        rw [ka] at qa
        rw [kb] at qb
        rw [tJ_4 qa] at ea
        rw [tJ_4 qb] at eb
        exact hab ((hD a b la.1 lb.1).mpr (h.2.1 a b l (Lv_4 hw la ka) (Lv_4 hw lb kb) la.1 lb.1 ka kb ea eb))
      have hlt : μ3 44 (nI (rt a)).toNatClampNeg < 0 := by rw [ca, sa]; exact m1
      exact k122_55 (fun z => absurd z nab) (fun _ => ba) (fun _ => bb') (fun _ _ => hno hne μ3 hf0) (fun _ z => absurd hlt z) (fun _ z => absurd hlt z) (fun _ z => absurd hlt z) (fun _ z => absurd hlt z) (fun _ z => absurd hlt z) (fun _ z => absurd hlt z) (fun _ z => absurd hlt z) (fun _ z => absurd hlt z) (fun _ z => absurd hlt z)
    have np : ¬ μ3 44 (nI (rt a)).toNatClampNeg < 0 := by rw [ca, sa]; exact nI_pos (by have := lp.1; omega)
    rcases SV_shape hw h hS0 lb with ⟨⟨l, eb⟩, kb, sb⟩ | ⟨q, lq, sb, kq, eq, hq⟩
    · have hne : tJ T ν a ≠ tJ T ν b := by
        intro e
        exact tA_thd (l := l) hw lp.1 kp (ep.trans (e.trans eb))
      have hlt : μ3 44 (nI (rt b)).toNatClampNeg < 0 := by rw [cb, sb]; exact m1
      exact k122_55 (fun z => absurd z nab) (fun _ => ba) (fun _ => bb') (fun _ z => absurd z np) (fun _ _ _ => hno hne μ3 hf0) (fun _ _ z => absurd hlt z) (fun _ _ z => absurd hlt z) (fun _ _ z => absurd hlt z) (fun _ _ z => absurd hlt z) (fun _ _ z => absurd hlt z) (fun _ _ z => absurd hlt z) (fun _ _ z => absurd hlt z) (fun _ _ z => absurd hlt z)
    have nq : ¬ μ3 44 (nI (rt b)).toNatClampNeg < 0 := by rw [cb, sb]; exact nI_pos (by have := lq.1; omega)
    have lp1 := lp.1
    have lq1 := lq.1
    have cp : (nI p).toNatClampNeg = p := nI_c (by omega)
    have cq : (nI q).toNatClampNeg = q := nI_c (by omega)
    have bp : 0 ≤ (nI p).toInt ∧ (nI p).toInt < ((600 : Nat) : Int) := by rw [nI_t (by omega)]; omega
    have bq : 0 ≤ (nI q).toInt ∧ (nI q).toInt < ((600 : Nat) : Int) := by rw [nI_t (by omega)]; omega
    obtain ⟨p23, p24, p25⟩ := hR0.2.2.2 p lp1
    obtain ⟨q23, q24, q25⟩ := hR0.2.2.2 q lq1
    have wp := kd_w hw lp1
    have wq := kd_w hw lq1
    have e2 : (2 : Int32) = nI 2 := rfl
    have e3 : (3 : Int32) = nI 3 := rfl
    have bp' : 0 ≤ (μ3 44 (nI (rt a)).toNatClampNeg).toInt ∧ (μ3 44 (nI (rt a)).toNatClampNeg).toInt < ((600 : Nat) : Int) := by rw [ca, sa]; exact bp
    have bq' : 0 ≤ (μ3 44 (nI (rt b)).toNatClampNeg).toInt ∧ (μ3 44 (nI (rt b)).toNatClampNeg).toInt < ((600 : Nat) : Int) := by rw [cb, sb]; exact bq
    have E1 : (μ3 23 (μ3 44 (nI (rt a)).toNatClampNeg).toNatClampNeg) = nI (kd T p) := by rw [ca, sa, cp]; exact p23
    have E2 : (μ3 23 (μ3 44 (nI (rt b)).toNatClampNeg).toNatClampNeg) = nI (kd T q) := by rw [cb, sb, cq]; exact q23
    refine k122_55 (fun z => absurd z nab) (fun _ => ba) (fun _ => bb') (fun _ z => absurd z np) (fun _ _ z => absurd z nq) (fun _ _ _ => bp') (fun _ _ _ => bq') (fun _ _ _ _ => bp') (fun _ _ _ z zz => ?_) (fun _ _ _ _ _ => bp') (fun _ _ _ z z2 z3 => ?_) (fun _ _ _ z z2 z3 => ?_) (fun _ _ _ z => ?_)
    ·
      rw [E1, E2, nI_inj (by omega) (by omega)] at z
      rw [E1, e2, nI_inj (by omega) (by omega)] at zz
      have kq2 : kd T q = 2 := by omega
      have ap := at_kd lp1
      have aq := at_kd lq1
      rw [zz] at ap
      rw [kq2] at aq
      have eMa : tJ T ν a = tP (tJ T ν (k1 T p)) (tJ T ν (k2 T p)) := by rw [← ep]; exact tJ_2 hw ap
      have eMb : tJ T ν b = tP (tJ T ν (k1 T q)) (tJ T ν (k2 T q)) := by rw [← eq]; exact tJ_2 hw aq
      have hth := hm
      rw [eMa, th_P] at hth
      rw [ca, cb, sa, sb]
      refine k122_131 bp bq ?_
      rw [cp, cq, p24, q24]
      refine ⟨_, m_equate (by omega) t3 (by omega), fun μ4 hr => ?_⟩
      obtain ⟨a1, a2, a3, a4, a5⟩ := hr
      have hf4 : FA μ3 μ4 := ⟨a2, a3, a4⟩
      have hR4 := RP_SF hR0 a2
      obtain ⟨r23, r24, r25⟩ := hR4.2.2.2 p lp1
      obtain ⟨s23, s24, s25⟩ := hR4.2.2.2 q lq1
      refine k122_149 bp (fun z => absurd (by rw [cp, r23, zz]; rfl) z) (fun _ => bp) (fun _ => bq) (fun _ => ?_)
      rw [cp, cq, r25, s25]
      refine ⟨_, m_equate (by omega) a1 (by simp; omega), fun μ5 hr => k122_178 ?_⟩
      obtain ⟨b1, b2, b3, b4, b5⟩ := hr
      have hf5 : FA μ3 μ5 := FA_tr hf4 ⟨b2, b3, b4⟩
      have Lp := Lv_2 hw lp zz
      have Lq := Lv_2 hw lq kq2
      refine ih (k2 T p) (k2 T q) (by omega) Lp.2 Lq.2 ((k1 T p, k1 T q) :: W) μ5 (by simp; omega) (RP_SF hR0 hf5.1) (SV_FA hS0 hf5) b1 P (fun hn μ' hf => hno (fun e => ?_) μ' (FA_tr hf0 (FA_tr hf5 hf))) (fun hy μ' hf hT' => ?_)
      · rw [eMa, eMb] at e
        exact hn (tP_inj e).2
      · refine ih (k1 T p) (k1 T q) (by omega) Lp.1 Lq.1 W μ' (by omega) (RP_SF (RP_SF hR0 hf5.1) hf.1) (SV_FA (SV_FA hS0 hf5) hf) hT' P (fun hn μ'' hf' => hno (fun e => ?_) μ'' (FA_tr hf0 (FA_tr hf5 (FA_tr hf hf')))) (fun hy' μ'' hf' hT'' => hyes ?_ μ'' (FA_tr hf0 (FA_tr hf5 (FA_tr hf hf'))) hT'')
        · rw [eMa, eMb] at e
          exact hn (tP_inj e).1
        · rw [eMa, eMb, hy, hy']
    ·
      rw [E1, E2, nI_inj (by omega) (by omega)] at z
      rw [E1, e2, nI_inj (by omega) (by omega)] at z2
      rw [E1, e3, nI_inj (by omega) (by omega)] at z3
      rw [ca, cb, sa, sb]
      refine k122_149 bp (fun _ => k122_178 (hyes ?_ μ3 hf0 t3)) (fun w => absurd w (by rw [cp, p23, e2, nI_inj (by omega) (by omega)]; exact z2)) (fun w => absurd w (by rw [cp, p23, e2, nI_inj (by omega) (by omega)]; exact z2)) (fun w => absurd w (by rw [cp, p23, e2, nI_inj (by omega) (by omega)]; exact z2))
      rcases kd_cases hw lp1 with ⟨k, e⟩ | ⟨k, e⟩ | ⟨k, _, _, e⟩ | ⟨k, _, e⟩ | ⟨k, e⟩ <;> first | (exact absurd k z2) | (exact absurd k z3) | (exact absurd k kp) | skip
      · rcases kd_cases hw lq1 with ⟨k', e'⟩ | ⟨k', e'⟩ | ⟨k', _, _, e'⟩ | ⟨k', _, e'⟩ | ⟨k', e'⟩ <;> first | omega | skip
        rw [← ep, ← eq, e, e']
      · rcases kd_cases hw lq1 with ⟨k', e'⟩ | ⟨k', e'⟩ | ⟨k', _, _, e'⟩ | ⟨k', _, e'⟩ | ⟨k', e'⟩ <;> first | omega | skip
        rw [← ep, ← eq, e, e']
    ·
      rw [E1, E2, nI_inj (by omega) (by omega)] at z
      rw [E1, e2, nI_inj (by omega) (by omega)] at z2
      rw [E1, e3, nI_inj (by omega) (by omega)] at z3
      have kq2 : kd T q = 3 := by omega
      have ap := at_kd lp1
      have aq := at_kd lq1
      rw [z3] at ap
      rw [kq2] at aq
      have eMa : tJ T ν a = tE (tJ T ν (k1 T p)) := by rw [← ep]; exact tJ_3 hw ap
      have eMb : tJ T ν b = tE (tJ T ν (k1 T q)) := by rw [← eq]; exact tJ_3 hw aq
      have hth := hm
      rw [eMa, th_E] at hth
      rw [ca, cb, sa, sb]
      refine k122_131 bp bq ?_
      rw [cp, cq, p24, q24]
      refine ⟨_, m_equate (by omega) t3 (by omega), fun μ4 hr => ?_⟩
      obtain ⟨a1, a2, a3, a4, a5⟩ := hr
      have hf4 : FA μ3 μ4 := ⟨a2, a3, a4⟩
      have hR4 := RP_SF hR0 a2
      obtain ⟨r23, r24, r25⟩ := hR4.2.2.2 p lp1
      have nn : ¬ μ4 23 (nI p).toNatClampNeg = (2 : Int32) := by rw [cp, r23, e2, nI_inj (by omega) (by omega)]; exact z2
      refine k122_149 bp (fun _ => k122_178 ?_) (fun w => absurd w nn) (fun w => absurd w nn) (fun w => absurd w nn)
      refine ih (k1 T p) (k1 T q) (by omega) (Lv_3 hw lp z3) (Lv_3 hw lq kq2) W μ4 (by omega) hR4 (SV_FA hS0 hf4) a1 P (fun hn μ' hf => hno (fun e => ?_) μ' (FA_tr hf0 (FA_tr hf4 hf))) (fun hy μ' hf hT' => hyes ?_ μ' (FA_tr hf0 (FA_tr hf4 hf)) hT')
      · rw [eMa, eMb] at e
        exact hn (tE_inj e)
      · rw [eMa, eMb, hy]
    ·
      rw [E1, E2, nI_inj (by omega) (by omega)] at z
      refine hno (fun e => z ?_) μ3 hf0
      rw [hp, hq, e]
theorem m_areEq (hd : 3 ≤ d) (hR : RP μ T) (h : MO T N ν Q) (hS : SV μ T Q rt) (la : Lv T N a) (lb : Lv T N b) (hh : th (tJ T ν a) ≤ 700) : zI X d 122 [.inr 22, .inl (nI a), .inl (nI b)] μ (fun r μ' => FA μ μ' ∧ (tJ T ν a = tJ T ν b ∧ r = 1 ∨ tJ T ν a ≠ tJ T ν b ∧ r = 0)) := by
  have hf0 : FA μ (zm_up μ 22 34 0) := ⟨SF_34, zm_up_row (by decide), zm_up_row (by decide)⟩
  have hT0 : Tp (zm_up μ 22 34 0) [] := ⟨by rw [zm_up_at, if_pos ⟨rfl, rfl⟩]; rfl, fun j a b hj => by simp at hj⟩
  refine zI_at [0, 1, 2] (by omega) rfl (k122_0 ⟨_, m_equate (by omega) hT0 (by simp), fun μ1 hr => ?_⟩)
  obtain ⟨a1, a2, a3, a4, a5⟩ := hr
  have hf1 : FA μ μ1 := FA_tr hf0 ⟨a2, a3, a4⟩
  refine m_eqloop (by omega) h 700 a b hh la lb [] μ1 (by simp) (RP_SF hR hf1.1) (SV_FA hS hf1) a1 _ (fun hn μ' hf => ⟨FA_tr hf1 hf, Or.inr ⟨hn, rfl⟩⟩) (fun hy μ' hf hT => ?_)
  have z0 : μ' 22 34 ≤ 0 := by rw [hT.1]; decide
  exact k122_11 (fun _ => ⟨FA_tr hf1 hf, Or.inl ⟨hy, rfl⟩⟩) (fun z => absurd z0 z) (fun z => absurd z0 z)

theorem m_form {k : Nat} (hd : 8 ≤ d) (hR : RP μ T) (hE : EQ μ Q) (h : MO T N ν Q) (lt : Lv T N t) (hk : k = 2 ∨ k = 3) : zI X d 123 [.inr 22, .inl (nI t), .inl (nI k)] μ (fun r μ' => (thd (tJ T ν t) = k ∧ SF μ μ' ∧ ∃ p, r = nI p ∧ Lv T N p ∧ kd T p = k ∧ tJ T ν p = tJ T ν t) ∨ (thd (tJ T ν t) ≠ k ∧ r = 0 ∧ ∃ μ1, SF μ μ1 ∧ μ' = zm_up μ1 22 29 1)) := by
  have hw := hR.2.2.1
  have hl6 := hR.2.1
  refine zI_at [0, 1, 2] (by omega) rfl (k123_0 ⟨_, m_solveM (by omega) hR hE h, fun r μ1 hr => ?_⟩)
  obtain ⟨hf, rfl, rt, hS⟩ := hr
  obtain ⟨⟨dep, hU⟩, hs, hD⟩ := hS
  have hS : SV μ1 T Q rt := ⟨⟨dep, hU⟩, hs, hD⟩
  refine k123_4 ⟨_, m_top (by omega) hU hl6 lt.1, fun r μ2 hr => ?_⟩
  obtain ⟨rfl, rfl⟩ := hr
  have ra := (hU t lt.1).1
  have ba : 0 ≤ (nI (rt t)).toInt ∧ (nI (rt t)).toInt < ((600 : Nat) : Int) := by rw [nI_t (by omega)]; omega
  have ca : (nI (rt t)).toNatClampNeg = rt t := nI_c (by omega)
  have fin : thd (tJ T ν t) ≠ k → zV X (d - 1) 123 36 [(0, .inr 22), (3, .inl (1 : Int32))] [] μ2 (zpi (fun r μ' => (thd (tJ T ν t) = k ∧ SF μ μ' ∧ ∃ p, r = nI p ∧ Lv T N p ∧ kd T p = k ∧ tJ T ν p = tJ T ν t) ∨ (thd (tJ T ν t) ≠ k ∧ r = 0 ∧ ∃ μ1, SF μ μ1 ∧ μ' = zm_up μ1 22 29 1))) := by
    intro hne
    exact k123_36 (Or.inr rfl) (fun z => absurd z zn_10) (fun _ => Or.inr ⟨hne, rfl, μ2, hf, rfl⟩)
  rcases SV_shape hw h hS lt with ⟨⟨l, ea⟩, ka, sa⟩ | ⟨p, lp, sa, kp, ep, hp⟩
  · have hlt : μ2 44 (nI (rt t)).toNatClampNeg < 0 := by rw [ca, sa]; decide
    refine k123_14 ba (fun _ => fin ?_) (fun z => absurd hlt z) (fun z => absurd hlt z) (fun z => absurd hlt z)
    rw [ea]
    show 4 ≠ k
    omega
  · have lp1 := lp.1
    have np : ¬ μ2 44 (nI (rt t)).toNatClampNeg < 0 := by rw [ca, sa]; exact nI_pos (by omega)
    have cp : (nI p).toNatClampNeg = p := nI_c (by omega)
    have p23 := ((RP_SF hR hf).2.2.2 p lp1).1
    have wp := kd_w hw lp1
    refine k123_14 ba (fun z => absurd z np) (fun _ => by rw [ca, sa, nI_t (by omega)]; omega) (fun _ z => fin ?_) (fun _ z => Or.inl ⟨?_, hf, p, by rw [ca, sa], lp, ?_, ep⟩)
    · rw [ca, sa, cp, p23, nI_inj (by omega) (by omega)] at z
      rw [← hp]; exact z
    · rw [ca, sa, cp, p23, nI_inj (by omega) (by omega)] at z
      rw [← hp]; exact z
    · rw [ca, sa, cp, p23, nI_inj (by omega) (by omega)] at z
      exact z
theorem m_formExp (hd : 9 ≤ d) (hR : RP μ T) (hE : EQ μ Q) (h : MO T N ν Q) (lt : Lv T N t) (h29 : μ 22 29 = 0) : zI X d 124 [.inr 22, .inl (nI t)] μ (fun r μ' => (SF μ μ' ∧ ∃ e, r = nI e ∧ Lv T N e ∧ tJ T ν t = tE (tJ T ν e)) ∨ (thd (tJ T ν t) ≠ 3 ∧ r = 0 ∧ ∃ μ1, SF μ μ1 ∧ μ' = zm_up μ1 22 29 1)) := by
  have hw := hR.2.2.1
  have hl6 := hR.2.1
  refine zI_at [0, 1] (by omega) rfl (k124_0 ⟨_, m_form (k := 3) (by omega) hR hE h lt (Or.inr rfl), fun r μ1 hr => ?_⟩)
  rcases hr with ⟨h1, hf, p, rfl, lp, kp, ep⟩ | ⟨h1, rfl, μ2, hf, rfl⟩
  · have lp1 := lp.1
    have e29 : μ1 22 29 = 0 := (hf.2 29 (by decide)).trans h29
    have p24 := ((RP_SF hR hf).2.2.2 p lp1).2.1
    have ap := at_kd lp1
    rw [kp] at ap
    refine k124_6 (fun _ => by rw [nI_t (by omega)]; omega) (fun _ => Or.inl ⟨hf, k1 T p, ?_, Lv_3 hw lp kp, ?_⟩) (fun z => absurd e29 z)
    · rw [nI_c (by omega), p24]
    · rw [← ep]; exact tJ_3 hw ap
  · have e29 : (zm_up μ2 22 29 1) 22 29 = 1 := by rw [zm_up_at, if_pos ⟨rfl, rfl⟩]
    exact k124_6 (fun z => absurd (e29.symm.trans z) zn_10) (fun z => absurd (e29.symm.trans z) zn_10) (fun _ => Or.inr ⟨h1, rfl, μ2, hf, rfl⟩)
end MD

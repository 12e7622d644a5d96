def CO (X : zm_T) (d : Nat) (μ0 : zm_u) (res m : Nat) (as : List zm_v) (Tc : tT) (D : Nat → Option Nat) (V : List Nat) (Tc' : tT) (V' : List Nat) : Prop :=
  ∀ μ, SA μ0 μ → CC μ Tc D V res → zO X d m as μ (fun μ' => CC μ' Tc' D V' res ∧ CK μ μ')
def nNm (T : tT) : tT := T ++ [(4, 3 + T.length, 0)]
section CC7
variable {X : zm_T} {d d' L n i j k a b e h hh p u q res m c v w ip eq' kp ke : Nat} {μ μ' μ0 μ1 μs : zm_u} {T T' T1 T0 Tc Tc1 Tc2 Tce Tcv : tT} {D D' : Nat → Option Nat} {S S' : Nat → Tr} {V V' : List Nat} {as : List zm_v} {x y part : Int32} {ok : Bool}
theorem CO_use (hM : CO X d μ0 res m as Tc D V Tc1 V') (hd : d ≤ d') (hq : CQ μ0 res Tc D V μs μ) : zO X d' m as μ (fun μ' => CQ μ0 res Tc1 D V' μs μ') :=
  zO_mono (hM μ hq.1 hq.2.1) hd (fun μ' q => ⟨SA_CK hq.1 q.2, q.1, CK_tr hq.2.2 q.2⟩)
theorem co_add (hd : 1 ≤ d) (hl : V.length < 16) (hi : i < Tc.length) (hx : x = nI i) : CO X d μ0 res 52 [.inr 3, .inl x] Tc D V Tc (V ++ [i]) := by
  subst hx
  exact fun μ _ hc => c_addVar hd hc hl hi
theorem cm_e (hd : 3 ≤ d) (hl : Tc.length < 466) (hi : i < Tc.length) (hx : x = nI i) : CM X d μ0 res 25 [.inr 1, .inl x] Tc D V (nI (tput Tc (3, i, 0)).2) (tput Tc (3, i, 0)).1 := by
  subst hx
  exact cm_exp (x1 := some i) hd hl (fun j hj => by simp at hj; omega)
theorem cm_p (hd : 3 ≤ d) (hl : Tc.length < 466) (hi : i < Tc.length) (hj : j < Tc.length) (hx : x = nI i) (hy : y = nI j) : CM X d μ0 res 24 [.inr 1, .inl x, .inl y] Tc D V (nI (tput Tc (2, i, j)).2) (tput Tc (2, i, j)).1 := by
  subst hx hy
  exact cm_pair (x1 := some i) (x2 := some j) hd hl (fun j hj => by simp at hj; omega) (fun j hj => by simp at hj; omega)
theorem cm_n (hd : 3 ≤ d) (hl : Tc.length < 466) : CM X d μ0 res 27 [.inr 1] Tc D V (nI Tc.length) (nNm Tc) := fun μ _ hc => c_newName hd hc hl
theorem tput_l (T : tT) (q : Nat × Nat × Nat) : (tput T q).2 < (tput T q).1.length ∧ T.length ≤ (tput T q).1.length ∧ (tput T q).1.length ≤ T.length + 1 := by
  have := tput_F (T := T) (q := q)
  exact ⟨(List.getElem?_eq_some_iff.mp this.2.2.2).1, this.2.1, this.2.2.1⟩
theorem co_lit (hd : 2 ≤ d) (hl : V.length < 16) (hm : m = 11 ∨ m = 12) (h1 : 1 < Tc.length) : CO X d μ0 res 51 [.inr 3, .inl (nI m), .inl x, .inl y] Tc D V Tc (V ++ [m - 11]) := by
  intro μ hs hc
  refine zO_at [0, 1, 2, 3] (by omega) rfl ?_
  rcases hm with rfl | rfl
  · exact k51_0 (fun _ => ⟨_, CO_use (co_add (i := 0) (by omega) hl (by omega) rfl) (Nat.le_refl _) (CQ_0 hs hc), fun μ1 hq => k51_41 (k51_185 hq.2)⟩) (by intros; contradiction) (by intros; contradiction) (by intros; contradiction) (by intros; contradiction) (by intros; contradiction)
  · exact k51_0 (by intros; contradiction) (fun _ _ => ⟨_, CO_use (co_add (i := 1) (by omega) hl (by omega) rfl) (Nat.le_refl _) (CQ_0 hs hc), fun μ1 hq => k51_49 (k51_185 hq.2)⟩) (by intros; contradiction) (by intros; contradiction) (by intros; contradiction) (by intros; contradiction)
theorem co_sum (hd : 4 ≤ d) (hl : V.length + 1 < 16) (h0 : 0 < Tc.length) (hT : Tc.length + 1 ≤ 466) (ht : (tput Tc (3, 0, 0)).1.length < 466) : CO X d μ0 res 51 [.inr 3, .inl (nI 13), .inl x, .inl y] Tc D V (tput Tc (3, 0, 0)).1 (V ++ [(tput Tc (3, 0, 0)).2] ++ [(tput Tc (3, 0, 0)).2]) := by
  intro μ hs hc
  obtain ⟨l1, l2, l3⟩ := tput_l Tc (3, 0, 0)
  refine zO_at [0, 1, 2, 3] (by omega) rfl (k51_0 (by intros; contradiction) (by intros; contradiction) (fun _ _ _ => ⟨_, CM_use (cm_e (i := 0) (d := d - 1) (by omega) (by omega) h0 rfl) (Nat.le_refl _) (CQ_0 hs hc), fun r μ1 hr => ?_⟩) (by intros; contradiction) (by intros; contradiction) (by intros; contradiction))
  obtain ⟨rfl, hq⟩ := hr
  refine k51_61 ⟨_, CO_use (co_add (d := d - 1) (by omega) (by omega) l1 rfl) (Nat.le_refl _) hq, fun μ2 hq2 => ?_⟩
  have again := tput_again Tc (3, 0, 0)
  have hE := cm_e (X := X) (μ0 := μ0) (res := res) (D := D) (V := V ++ [(tput Tc (3, 0, 0)).2]) (x := 0) (i := 0) (d := d - 1) (by omega) ht (by omega) rfl
  rw [again] at hE
  refine k51_64 ⟨_, CM_use hE (Nat.le_refl _) hq2, fun r μ3 hr => ?_⟩
  obtain ⟨rfl, hq3⟩ := hr
  exact k51_73 ⟨_, CO_use (co_add (d := d - 1) (by omega) (by simp; omega) l1 rfl) (Nat.le_refl _) hq3, fun μ4 hq4 => k51_76 (k51_185 hq4.2)⟩
theorem co_when (hd : 4 ≤ d) (hl : V.length + 2 < 16) (h1 : 1 < Tc.length) (hi : i < Tc.length) (hT : Tc.length < 466) (ht1 : (tput Tc (3, 1, 0)).1.length < 466) (ht : (tput (tput Tc (3, 1, 0)).1 (3, i, 0)).1.length < 466) : CO X d μ0 res 51 [.inr 3, .inl (nI 14), .inl (nI i), .inl y] Tc D V (tput (tput Tc (3, 1, 0)).1 (3, i, 0)).1 (V ++ [(tput Tc (3, 1, 0)).2] ++ [(tput (tput Tc (3, 1, 0)).1 (3, i, 0)).2] ++ [(tput (tput Tc (3, 1, 0)).1 (3, i, 0)).2]) := by
  intro μ hs hc
  obtain ⟨l1, l2, l3⟩ := tput_l Tc (3, 1, 0)
  obtain ⟨k1, k2, k3⟩ := tput_l (tput Tc (3, 1, 0)).1 (3, i, 0)
  refine zO_at [0, 1, 2, 3] (by omega) rfl (k51_0 (by intros; contradiction) (by intros; contradiction) (by intros; contradiction) (fun _ _ _ _ => ⟨_, CM_use (cm_e (i := 1) (d := d - 1) (by omega) (by omega) h1 rfl) (Nat.le_refl _) (CQ_0 hs hc), fun r μ1 hr => ?_⟩) (by intros; contradiction) (by intros; contradiction))
  obtain ⟨rfl, hq⟩ := hr
  refine k51_88 ⟨_, CO_use (co_add (d := d - 1) (by omega) (by omega) l1 rfl) (Nat.le_refl _) hq, fun μ2 hq2 => ?_⟩
  refine k51_91 ⟨_, CM_use (cm_e (i := i) (d := d - 1) (by omega) (by omega) (by omega) rfl) (Nat.le_refl _) hq2, fun r μ3 hr => ?_⟩
  obtain ⟨rfl, hq3⟩ := hr
  refine k51_100 ⟨_, CO_use (co_add (d := d - 1) (by omega) (by simp; omega) k1 rfl) (Nat.le_refl _) hq3, fun μ4 hq4 => ?_⟩
  have again := tput_again (tput Tc (3, 1, 0)).1 (3, i, 0)
  have hE := cm_e (X := X) (μ0 := μ0) (res := res) (D := D) (V := V ++ [(tput Tc (3, 1, 0)).2] ++ [(tput (tput Tc (3, 1, 0)).1 (3, i, 0)).2]) (x := nI i) (i := i) (d := d - 1) (by omega) ht (by omega) rfl
  rw [again] at hE
  refine k51_103 ⟨_, CM_use hE (Nat.le_refl _) hq4, fun r μ5 hr => ?_⟩
  obtain ⟨rfl, hq5⟩ := hr
  exact k51_112 ⟨_, CO_use (co_add (d := d - 1) (by omega) (by simp; omega) k1 rfl) (Nat.le_refl _) hq5, fun μ6 hq6 => k51_115 (k51_185 hq6.2)⟩
theorem co_duo (hd : 4 ≤ d) (hl : V.length + 1 < 16) (hT : Tc.length < 466) (ht1 : (tput Tc (3, a, 0)).1.length < 466) (hat : Tc[q]? = some (2, a, b)) (ha : a < Tc.length) (hb : b < Tc.length) : CO X d μ0 res 51 [.inr 3, .inl (nI 15), .inl x, .inl (nI q)] Tc D V (tput (tput Tc (3, a, 0)).1 (3, b, 0)).1 (V ++ [(tput Tc (3, a, 0)).2] ++ [(tput (tput Tc (3, a, 0)).1 (3, b, 0)).2]) := by
  intro μ hs hc
  obtain ⟨l1, l2, l3⟩ := tput_l Tc (3, a, 0)
  obtain ⟨k1, k2, k3⟩ := tput_l (tput Tc (3, a, 0)).1 (3, b, 0)
  refine zO_at [0, 1, 2, 3] (by omega) rfl (k51_0 (by intros; contradiction) (by intros; contradiction) (by intros; contradiction) (by intros; contradiction) (fun _ _ _ _ _ => ⟨_, c_fX (by omega) hc.1 hat, fun r μ1 hr => ?_⟩) (by intros; contradiction))
  obtain ⟨rfl, rfl⟩ := hr
  refine k51_131 ⟨_, CM_use (cm_e (i := a) (d := d - 1) (by omega) (by omega) ha rfl) (Nat.le_refl _) (CQ_0 hs hc), fun r μ2 hr => ?_⟩
  obtain ⟨rfl, hq2⟩ := hr
  refine k51_134 ⟨_, CO_use (co_add (d := d - 1) (by omega) (by omega) l1 rfl) (Nat.le_refl _) hq2, fun μ3 hq3 => ?_⟩
  have hat1 : (tput Tc (3, a, 0)).1[q]? = some (2, a, b) := by
    rw [tput_F.1 q (tw_lt hat)]
    exact hat
  refine k51_137 ⟨_, c_sX (by omega) hq3.2.1.1 hat1, fun r μ4 hr => ?_⟩
  obtain ⟨rfl, rfl⟩ := hr
  refine k51_150 ⟨_, CM_use (cm_e (i := b) (d := d - 1) (by omega) (by omega) (by omega) rfl) (Nat.le_refl _) hq3, fun r μ5 hr => ?_⟩
  obtain ⟨rfl, hq5⟩ := hr
  exact k51_153 ⟨_, CO_use (co_add (d := d - 1) (by omega) (by simp; omega) k1 rfl) (Nat.le_refl _) hq5, fun μ6 hq6 => k51_156 (k51_185 hq6.2)⟩
theorem co_left (hd : 4 ≤ d) (hl : V.length < 16) (hT : Tc.length + 2 < 466) (hi : i < Tc.length) : CO X d μ0 res 51 [.inr 3, .inl (nI 16), .inl (nI i), .inl y] Tc D V (tput (tput (nNm Tc) (2, i, Tc.length)).1 (3, (tput (nNm Tc) (2, i, Tc.length)).2, 0)).1 (V ++ [(tput (tput (nNm Tc) (2, i, Tc.length)).1 (3, (tput (nNm Tc) (2, i, Tc.length)).2, 0)).2]) := by
  intro μ hs hc
  have hn : (nNm Tc).length = Tc.length + 1 := by unfold nNm; simp
  obtain ⟨l1, l2, l3⟩ := tput_l (nNm Tc) (2, i, Tc.length)
  obtain ⟨k1, k2, k3⟩ := tput_l (tput (nNm Tc) (2, i, Tc.length)).1 (3, (tput (nNm Tc) (2, i, Tc.length)).2, 0)
  refine zO_at [0, 1, 2, 3] (by omega) rfl (k51_0 (by intros; contradiction) (by intros; contradiction) (by intros; contradiction) (by intros; contradiction) (by intros; contradiction) (fun _ _ _ _ _ => ⟨_, CM_use (cm_n (d := d - 1) (by omega) (by omega)) (Nat.le_refl _) (CQ_0 hs hc), fun r μ1 hr => ?_⟩))
  obtain ⟨rfl, hq⟩ := hr
  refine k51_176 ⟨_, CM_use (cm_p (i := i) (j := Tc.length) (d := d - 1) (by omega) (by omega) (by omega) (by omega) rfl rfl) (Nat.le_refl _) hq, fun r μ2 hr => ?_⟩
  obtain ⟨rfl, hq2⟩ := hr
  refine k51_179 ⟨_, CM_use (cm_e (i := (tput (nNm Tc) (2, i, Tc.length)).2) (d := d - 1) (by omega) (by omega) l1 rfl) (Nat.le_refl _) hq2, fun r μ3 hr => ?_⟩
  obtain ⟨rfl, hq3⟩ := hr
  exact k51_182 ⟨_, CO_use (co_add (d := d - 1) (by omega) (by omega) k1 rfl) (Nat.le_refl _) hq3, fun μ4 hq4 => k51_185 hq4.2⟩

theorem eq_lit (hd : 1 ≤ d) (hm : m = 11 ∨ m = 12 ∨ m = 13) : CM X d μ0 res 50 [.inr 3, .inl (nI m), .inl x] Tc D V (nI (if m = 12 then 1 else 0)) Tc := by
  intro μ hs hc
  refine zI_at [0, 1, 2] (by omega) rfl ?_
  rcases hm with rfl | rfl | rfl
  · exact k50_0 (fun _ => ⟨rfl, hc, CK_rf⟩) (by intros; contradiction) (by intros; contradiction) (by intros; contradiction) (by intros; contradiction) (by intros; contradiction)
  · exact k50_0 (by intros; contradiction) (fun _ _ => ⟨rfl, hc, CK_rf⟩) (by intros; contradiction) (by intros; contradiction) (by intros; contradiction) (by intros; contradiction)
  · exact k50_0 (by intros; contradiction) (by intros; contradiction) (fun _ _ _ => ⟨rfl, hc, CK_rf⟩) (by intros; contradiction) (by intros; contradiction) (by intros; contradiction)
theorem eq_same (hd : 1 ≤ d) (hm : m = 14 ∨ m = 16) : CM X d μ0 res 50 [.inr 3, .inl (nI m), .inl x] Tc D V x Tc := by
  intro μ hs hc
  refine zI_at [0, 1, 2] (by omega) rfl ?_
  rcases hm with rfl | rfl
  · exact k50_0 (by intros; contradiction) (by intros; contradiction) (by intros; contradiction) (fun _ _ _ _ => ⟨rfl, hc, CK_rf⟩) (by intros; contradiction) (by intros; contradiction)
  · exact k50_0 (by intros; contradiction) (by intros; contradiction) (by intros; contradiction) (by intros; contradiction) (by intros; contradiction) (fun _ _ _ _ _ => ⟨rfl, hc, CK_rf⟩)
theorem eq_pair (hd : 3 ≤ d) (hat : Tc[i]? = some (2, a, b)) : CM X d μ0 res 50 [.inr 3, .inl (nI 15), .inl (nI i)] Tc D V (nI i) Tc := by
  intro μ hs hc
  refine zI_at [0, 1, 2] (by omega) rfl (k50_0 (by intros; contradiction) (by intros; contradiction) (by intros; contradiction) (by intros; contradiction) (fun _ _ _ _ _ => ⟨_, c_kX (by omega) hc.1 hat, fun r μ1 hr => ?_⟩) (by intros; contradiction))
  obtain ⟨rfl, rfl⟩ := hr
  exact k50_48 (fun z => absurd rfl z) (fun _ => k50_76 ⟨rfl, hc, CK_rf⟩)
theorem eq_duo (hd : 4 ≤ d) (hat : Tc[i]? = some (k, a, b)) (hk : k ≠ 2) (hk4 : k ≤ 4) (hT : Tc.length + 2 < 466) : CM X d μ0 res 50 [.inr 3, .inl (nI 15), .inl (nI i)] Tc D V (nI (tput (nNm (nNm Tc)) (2, Tc.length, Tc.length + 1)).2) (tput (nNm (nNm Tc)) (2, Tc.length, Tc.length + 1)).1 := by
  intro μ hs hc
  have hn : (nNm Tc).length = Tc.length + 1 := by unfold nNm; simp
  have hn2 : (nNm (nNm Tc)).length = Tc.length + 2 := by
    have : (nNm (nNm Tc)).length = (nNm Tc).length + 1 := by simp [nNm]
    omega
  refine zI_at [0, 1, 2] (by omega) rfl (k50_0 (by intros; contradiction) (by intros; contradiction) (by intros; contradiction) (by intros; contradiction) (fun _ _ _ _ _ => ⟨_, c_kX (by omega) hc.1 hat, fun r μ1 hr => ?_⟩) (by intros; contradiction))
  obtain ⟨rfl, rfl⟩ := hr
  have hk0 : ¬ nI (t_ck k) = 0 := fun z => hk (ck_inj hk4 (show 2 ≤ 4 by omega) z)
  refine k50_48 (fun _ => ⟨_, CM_use (cm_n (d := d - 1) (by omega) (by omega)) (Nat.le_refl _) (CQ_0 hs hc), fun r μ2 hr => ?_⟩) (fun z => absurd z hk0)
  obtain ⟨rfl, hq2⟩ := hr
  refine k50_66 ⟨_, CM_use (cm_n (d := d - 1) (by omega) (by omega)) (Nat.le_refl _) hq2, fun r μ3 hr => ?_⟩
  obtain ⟨rfl, hq3⟩ := hr
  refine k50_73 ⟨_, CM_use (cm_p (i := Tc.length) (j := Tc.length + 1) (d := d - 1) (by omega) (by omega) (by omega) (by omega) rfl (by rw [hn])) (Nat.le_refl _) hq3, fun r μ4 hr => k50_76 ?_⟩
  obtain ⟨rfl, hq4⟩ := hr
  exact ⟨rfl, hq4.2⟩

theorem cm49_start (hd : 5 ≤ d) (hE : CM X (d - 1) μ0 res 50 [.inr 3, .inl (nI m), .inl (nI ip)] Tc D V (nI eq') Tce) (hp : Tce[ip]? = some (kp, a, b)) (hq : ∃ a b, Tce[eq']? = some (ke, a, b)) (hkp : kp ≤ 4) (hke : ke ≤ 4) {PP : zm_u → Int32 → zm_u → Prop}
    (hno : kp ≠ 4 → kp ≠ ke → ∀ μs μ, CQ μ0 res Tce D V μs μ → PP μs 1 μ)
    (hyes : (kp = 4 ∨ kp = ke) → ∀ μs μ, CQ μ0 res Tce D V μs μ → zV X (d - 1) 49 54 [(0, .inr 3), (1, .inl (nI m)), (2, .inl part), (3, .inl (nI ip)), (4, .inl y), (5, .inl (nI eq')), (6, .inl (if kp = 4 then 1 else 0))] [] μ (zpi (PP μs))) :
    ∀ μ, SA μ0 μ → CC μ Tc D V res → zI X d 49 [.inr 3, .inl (nI m), .inl part, .inl (nI ip), .inl y] μ (PP μ) := by
  intro μ hs hc
  obtain ⟨a2, b2, hq⟩ := hq
  have e4 : ∀ k, k ≤ 4 → (nI (t_ck k) = (2 : Int32) ↔ k = 4) := fun k hk => ⟨fun z => ck_inj hk (show 4 ≤ 4 by omega) z, fun z => by rw [z]; rfl⟩
  refine zI_at [0, 1, 2, 3, 4] (by omega) rfl (k49_0 ⟨_, CM_use hE (Nat.le_refl _) (CQ_0 hs hc), fun r μ1 hr => ?_⟩)
  obtain ⟨rfl, hq1⟩ := hr
  refine k49_6 ⟨_, c_kX (by omega) hq1.2.1.1 hp, fun r μ2 hr => ?_⟩
  obtain ⟨rfl, rfl⟩ := hr
  refine k49_16 (fun z => ?_) (fun z => ?_)
  · have n4 : kp ≠ 4 := fun w => z ((e4 kp hkp).mpr w)
    refine k49_25 (fun w => absurd rfl w) (fun _ => ⟨_, c_kX (by omega) hq1.2.1.1 hp, fun r μ3 hr => ?_⟩)
    obtain ⟨rfl, rfl⟩ := hr
    refine k49_40 ⟨_, c_kX (by omega) hq1.2.1.1 hq, fun r μ4 hr => ?_⟩
    obtain ⟨rfl, rfl⟩ := hr
    refine k49_49 (fun w => ?_) (fun w => hno n4 (fun w' => w (by rw [w'])) μ _ hq1)
    have := hyes (Or.inr (ck_inj hkp hke w)) μ _ hq1
    rw [if_neg n4] at this
    exact this
  · have k4 := (e4 kp hkp).mp z
    have := hyes (Or.inl k4) μ _ hq1
    rw [if_pos k4] at this
    exact k49_25 (fun _ => this) (fun w => absurd w zn_10)
theorem cm49_closed (hd : 5 ≤ d) (hE : CM X (d - 1) μ0 res 50 [.inr 3, .inl (nI m), .inl (nI ip)] Tc D V (nI eq') Tce) (hp : Tce[ip]? = some (kp, a, b)) (hq : ∃ a b, Tce[eq']? = some (ke, a, b)) (hkp : kp ≤ 4) (hke : ke ≤ 4) (h1 : kp ≠ 4) (h2 : kp ≠ ke) : CM X d μ0 res 49 [.inr 3, .inl (nI m), .inl part, .inl (nI ip), .inl y] Tc D V 1 Tce :=
  cm49_start hd hE hp hq hkp hke (PP := fun μs r' μ' => r' = 1 ∧ CC μ' Tce D V res ∧ CK μs μ') (fun _ _ μs μ hq => ⟨rfl, hq.2⟩) (fun h => by omega)
theorem cm49_nopart (hd : 5 ≤ d) (hE : CM X (d - 1) μ0 res 50 [.inr 3, .inl (nI m), .inl (nI ip)] Tc D V (nI eq') Tce) (hp : Tce[ip]? = some (kp, a, b)) (hq : ∃ a b, Tce[eq']? = some (ke, a, b)) (hkp : kp ≤ 4) (hke : ke ≤ 4) (h1 : kp = 4 ∨ kp = ke) : CM X d μ0 res 49 [.inr 3, .inl (nI m), .inl (-1), .inl (nI ip), .inl y] Tc D V 0 Tce :=
  cm49_start hd hE hp hq hkp hke (PP := fun μs r' μ' => r' = 0 ∧ CC μ' Tce D V res ∧ CK μs μ') (fun z1 z2 => by omega) (fun _ μs μ hq => k49_54 (fun _ => ⟨rfl, hq.2⟩) (fun z => absurd rfl z) (fun z => absurd rfl z))
theorem CC_told (h : CC μ Tc D V res) (hD' : ∀ i, i ≠ ip → D' i = D i) (hx : x = oc (D' ip)) : CC (zm_up μ 13 ip x) Tc D' V res ∧ CK μ (zm_up μ 13 ip x) := by
  obtain ⟨⟨⟨a1, a1'⟩, a2, a3, a4⟩, b1, c1, c2, c3, d1⟩ := h
  have r : ∀ c, c ≠ 13 → (zm_up μ 13 ip x) c = μ c := fun c hc => zm_up_row hc
  refine ⟨⟨⟨⟨by rw [r 1 (by decide)]; exact a1, ?_⟩, a2, a3, a4⟩, fun i hi => ?_, by rw [r 3 (by decide)]; exact c1, c2, ?_, by rw [r 3 (by decide)]; exact d1⟩, fun c _ _ _ _ _ hc _ => r c hc⟩
  · rw [r 6 (by decide), r 7 (by decide), r 8 (by decide)]; exact a1'
  · rw [zm_up_at]
    by_cases e : i = ip
    · rw [if_pos ⟨rfl, e⟩, hx, e]
    · rw [if_neg (by omega), hD' i e]; exact b1 i hi
  · rw [r 14 (by decide)]; exact c3
theorem CC_back (h : CC μ Tc D V' res) (hV : ∃ w, V' = V ++ w) (hl : V.length ≤ 16) : CC (zm_up μ 3 4 (nI V.length)) Tc D V res ∧ CK μ (zm_up μ 3 4 (nI V.length)) := by
  obtain ⟨⟨⟨a1, a1'⟩, a2, a3, a4⟩, b1, c1, c2, c3, d1⟩ := h
  obtain ⟨w, rfl⟩ := hV
  have r : ∀ c, c ≠ 3 → (zm_up μ 3 4 (nI V.length)) c = μ c := fun c hc => zm_up_row hc
  refine ⟨⟨⟨⟨by rw [r 1 (by decide)]; exact a1, ?_⟩, a2, a3, a4⟩, fun i hi => by rw [r 13 (by decide)]; exact b1 i hi, by rw [zm_up_at, if_pos ⟨rfl, rfl⟩], hl, fun i v hv => ?_, by rw [zm_up_at, if_neg (by omega)]; exact d1⟩, fun c _ hc _ _ _ _ _ => r c hc⟩
  · rw [r 6 (by decide), r 7 (by decide), r 8 (by decide)]; exact a1'
  · rw [r 14 (by decide)]
    exact c3 i v (by rw [List.getElem?_append_left (List.getElem?_eq_some_iff.mp hv).1]; exact hv)
theorem cm49_go (hd : 5 ≤ d) (hE : CM X (d - 1) μ0 res 50 [.inr 3, .inl (nI m), .inl (nI ip)] Tc D V (nI eq') Tce) (hp : Tce[ip]? = some (kp, a, b)) (hq : ∃ a b, Tce[eq']? = some (ke, a, b)) (hkp : kp ≤ 4) (hke : ke ≤ 4) (h1 : kp = 4 ∨ kp = ke) (hpart : ¬ part = -1) (hle : eq' < 466) (hip : ip < 466) (hVl : V.length ≤ 16)
    (hA : CO X (d - 1) μ0 res 51 [.inr 3, .inl (nI m), .inl (nI ip), .inl (nI eq')] Tce D V Tcv V') (hV : ∃ w, V' = V ++ w) (hD : D ip = none) (hD' : D' = if kp = 4 ∧ eq' ≠ ip then updD D ip eq' else D)
    (hI : CM X d' μ0 res 46 [.inr 3, .inl part, .inl y] Tcv D' V' (if ok then 1 else 0) Tc2) (hdd : d' + 1 ≤ d) : CM X d μ0 res 49 [.inr 3, .inl (nI m), .inl part, .inl (nI ip), .inl y] Tc D V (if ok then 1 else 0) Tc2 := by
  refine cm49_start hd hE hp hq hkp hke (PP := fun μs r' μ' => r' = (if ok then 1 else 0) ∧ CC μ' Tc2 D V res ∧ CK μs μ') (fun z1 z2 => by omega) (fun _ μs μ hq => ?_)
  have e34 : μ 3 4 = nI V.length := hq.2.1.2.2.1
  have bi : 0 ≤ (nI ip).toInt ∧ (nI ip).toInt < ((466 : Nat) : Int) := by rw [nI_t (by omega)]; omega
  have ci : (nI ip).toNatClampNeg = ip := nI_c (by omega)
  refine k49_54 (fun z => absurd z hpart) (fun _ _ => ⟨_, CO_use hA (Nat.le_refl _) hq, fun μ1 hq1 => ?_⟩) (fun _ z => absurd z (nI_m1 (by omega)))
  rw [e34]
  have rest : ∀ μ2, CQ μ0 res Tcv D' V' μs μ2 → zV X (d - 1) 49 100 [(0, .inr 3), (2, .inl part), (3, .inl (nI ip)), (4, .inl y), (7, .inl (nI V.length))] [] μ2 (zpi (fun r' μ' => r' = (if ok then 1 else 0) ∧ CC μ' Tc2 D V res ∧ CK μs μ')) := by
    intro μ2 hq2
    refine k49_100 ⟨_, CM_use hI (by omega) hq2, fun r μ3 hr => ?_⟩
    obtain ⟨rfl, hq3⟩ := hr
    refine k49_107 bi (by cases ok <;> simp) ?_
    rw [ci]
    obtain ⟨s1, s2⟩ := CC_told (D' := D) (ip := ip) (x := -1) hq3.2.1 (fun i hi => by
      rw [hD']
      split
      · unfold updD; rw [if_neg hi]
      · rfl) (by rw [hD]; rfl)
    obtain ⟨s3, s4⟩ := CC_back s1 hV hVl
    exact ⟨rfl, s3, CK_tr hq3.2.2 (CK_tr s2 s4)⟩
  by_cases k4 : kp = 4
  · rw [if_pos k4]
    by_cases en : eq' = ip
    · rw [if_neg (by omega)] at hD'
      subst hD'
      exact k49_81 (fun z => absurd z zn_10) (fun _ _ => rest μ1 hq1) (fun _ z => absurd (by rw [en]) z) (fun _ z => absurd (by rw [en]) z)
    · rw [if_pos ⟨k4, en⟩] at hD'
      subst hD'
      refine k49_81 (fun z => absurd z zn_10) (fun _ z => absurd ((nI_inj (by omega) (by omega)).mp z) en) (fun _ _ => bi) (fun _ _ => ?_)
      rw [ci]
      obtain ⟨s1, s2⟩ := CC_told (D' := updD D ip eq') (ip := ip) (x := nI eq') hq1.2.1 (fun i hi => by unfold updD; rw [if_neg hi]) (by unfold updD; rw [if_pos rfl]; rfl)
      exact rest _ ⟨SA_CK hq1.1 s2, s1, CK_tr hq1.2.2 s2⟩
  · rw [if_neg k4]
    rw [if_neg (by omega)] at hD'
    subst hD'
    exact k49_81 (fun _ => rest μ1 hq1) (fun z => absurd rfl z) (fun z => absurd rfl z) (fun z => absurd rfl z)
end CC7

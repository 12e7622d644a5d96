def Cf (L : Nat) (μ μ' : zm_u) : Prop := (∀ c, c ≠ 22 → ¬ (23 ≤ c ∧ c ≤ 26) → ¬ (33 ≤ c ∧ c ≤ 35) → ¬ (43 ≤ c ∧ c ≤ 48) → μ' c = μ c) ∧ (∀ i, i < L → ∀ c, 23 ≤ c → c ≤ 26 → μ' c i = μ c i) ∧ ∀ i, i ≠ 1 → i ≠ 17 → i ≠ 19 → i ≠ 34 → μ' 22 i = μ 22 i
def RS8 (L : Nat) (μs μ : zm_u) (T : tT) (Q : List (Nat × Nat)) (W : List Nat) (b : Nat) : Prop := Cf L μs μ ∧ RQ μ T Q W b ∧ L ≤ T.length
def nRm (T : tT) : tT := T ++ [(4, 100 + T.length, 0)]
section RC8
variable {X : zm_T} {d d' L n i j k a b e h hh p u q res m c v w : Nat} {μ μ' μ0 μ1 μs : zm_u} {T T' T1 T0 : tT} {N : Nat → Prop} {ν : Nat → Tr} {Q Q' : List (Nat × Nat)} {W W' : List Nat} {x y : Int32} {op : Bool}
theorem Cf_rf : Cf L μ μ := ⟨fun _ _ _ _ _ => rfl, fun _ _ _ _ _ => rfl, fun _ _ _ _ _ => rfl⟩
theorem Cf_tr (h1 : Cf L μ μ1) (h2 : Cf L μ1 μ') : Cf L μ μ' := ⟨fun c a b d e => (h2.1 c a b d e).trans (h1.1 c a b d e), fun i a c d e => (h2.2.1 i a c d e).trans (h1.2.1 i a c d e), fun i a b c d => (h2.2.2 i a b c d).trans (h1.2.2 i a b c d)⟩
theorem Cf_Tf (h : Tf L μ μ') : Cf L μ μ' := ⟨fun c a b _ d => h.1 c a b d, h.2.1, fun i a _ _ d => h.2.2 i a d⟩
theorem Cf_FK (h : Cf L μ μ') : FK b μ μ' := fun i _ c h1 h2 => by rw [h.1 c (by omega) (by omega) (by omega) (by omega)]
theorem Cf_Rz (h : Cf L μ μ') (hz : Rz L μ0 μ) : Rz L μ0 μ' := ⟨fun c hc => (h.1 c (by omega) (by omega) (by omega) (by omega)).trans (hz.1 c hc), fun i hi c c1 c2 => (h.2.1 i hi c c1 c2).trans (hz.2.1 i hi c c1 c2), fun i a1 a2 a3 a4 a5 a6 a7 => (h.2.2 i a1 a2 a3 a7).trans (hz.2.2 i a1 a2 a3 a4 a5 a6 a7)⟩
theorem b_exp (hd : 4 ≤ d) (h : RS8 L μs μ T Q W b) (hl : T.length < 600) (ha : a < T.length) (hx : x = nI a) : zI X d 102 [.inr 22, .inl x] μ (fun r μ' => r = nI (tput T (3, a, 0)).2 ∧ RS8 L μs μ' (tput T (3, a, 0)).1 Q W b) :=
  zI_mono (m_exp hd h.2.1.1 h.2.2 hl ha hx) (Nat.le_refl _) (fun r μ' q => ⟨q.1, Cf_tr h.1 (Cf_Tf q.2.2), Tf_RQ q.2.2 q.2.1 h.2.1, by have := (tput_l T (3, a, 0)).2.1; have := h.2.2; omega⟩)
theorem b_pair {a2 : Nat} (hd : 3 ≤ d) (h : RS8 L μs μ T Q W b) (hl : T.length < 600) (ha : a < T.length) (ha2 : a2 < T.length) (hx : x = nI a) (hy : y = nI a2) : zI X d 101 [.inr 22, .inl 2, .inl x, .inl y] μ (fun r μ' => r = nI (tput T (2, a, a2)).2 ∧ RS8 L μs μ' (tput T (2, a, a2)).1 Q W b) := by
  subst hx hy
  exact zI_mono (m_typeOf (kk := 2) (aa := a) (bb := a2) hd h.2.1.1 h.2.2 hl (by omega) (Or.inl ⟨rfl, ha, ha2⟩) (by omega) (by omega)) (Nat.le_refl _) (fun r μ' q => ⟨q.1, Cf_tr h.1 (Cf_Tf q.2.2), Tf_RQ q.2.2 q.2.1 h.2.1, by have := (tput_l T (2, a, a2)).2.1; have := h.2.2; omega⟩)
theorem b_new (hd : 2 ≤ d) (h : RS8 L μs μ T Q W b) (hl : T.length < 600) : zI X d 131 [.inr 22] μ (fun r μ' => r = nI T.length ∧ RS8 L μs μ' (nRm T) Q W b) :=
  zI_mono (m_newName hd h.2.1.1 h.2.2 hl) (Nat.le_refl _) (fun r μ' q => ⟨q.1, Cf_tr h.1 (Cf_Tf q.2.2), Tf_RQ q.2.2 q.2.1 h.2.1, by have := h.2.2; simp [nRm]; omega⟩)
theorem b_bind (hd : 1 ≤ d) (h : RS8 L μs μ T Q W b) (hl : W.length < 60) (hx : x = nI a) : zO X d 133 [.inr 22, .inl x] μ (fun μ' => RS8 L μs μ' T Q (W ++ [a]) b) := by
  subst hx
  exact zO_mono (m_bind hd h.2.1 hl) (Nat.le_refl _) (fun μ' q => ⟨Cf_tr h.1 ⟨fun c c1 _ c3 _ => q.2.1 c c1 (by omega), fun i _ c c1 c2 => by rw [q.2.1 c (by omega) (by omega)], fun i _ _ c3 _ => q.2.2 i c3⟩, q.1, h.2.2⟩)
theorem b_add {c1 c2 : Nat} (hd : 1 ≤ d) (h : RS8 L μs μ T Q W b) (hl : Q.length < 60) (hx : x = nI c1) (hy : y = nI c2) : zO X d 132 [.inr 22, .inl x, .inl y] μ (fun μ' => RS8 L μs μ' T (Q ++ [(c1, c2)]) W b) := by
  subst hx hy
  exact zO_mono (m_addEq hd h.2.1 hl) (Nat.le_refl _) (fun μ' q => ⟨Cf_tr h.1 ⟨fun c c1 _ c3 _ => q.2.1 c c1 (by omega) (by omega), fun i _ c c1 c2 => by rw [q.2.1 c (by omega) (by omega) (by omega)], fun i _ c2 _ _ => q.2.2 i c2⟩, q.1, h.2.2⟩)

def Slv (T : tT) (Q : List (Nat × Nat)) (op : Bool) : Prop := (op = true → ∃ N ν, MO T N ν Q) ∧ (op = false → Wb T.length Q ∧ Clash T Q)
theorem b_solve (hd : 7 ≤ d) (h : RS8 L μs μ T Q W b) (hs : Slv T Q op) : zI X d 121 [.inr 22] μ (fun r μ' => r = (if op then 1 else 0) ∧ RS8 L μs μ' T Q W b) := by
  have fin : ∀ μ', SF μ μ' → RS8 L μs μ' T Q W b := fun μ' hf => ⟨Cf_tr h.1 (Cf_Tf (Tf_SF hf)), Tf_RQ (L := L) (Tf_SF hf) (RP_SF h.2.1.1 hf) h.2.1, h.2.2⟩
  cases op with
  | true =>
    obtain ⟨N, ν, hM⟩ := hs.1 rfl
    exact zI_mono (m_solveM hd h.2.1.1 h.2.1.2.1 hM) (Nat.le_refl _) (fun r μ' q => ⟨q.2.1, fin μ' q.1⟩)
  | false =>
    obtain ⟨h1, h2⟩ := hs.2 rfl
    exact zI_mono (m_solve_no hd h.2.1.1 h.2.1.2.1 h1 h2) (Nat.le_refl _) (fun r μ' q => ⟨q.2, fin μ' q.1⟩)

theorem b_fin (h : RS8 L μs μ T Q W b) {PP : Int32 → zm_u → Prop} (hP : PP 1 μ) : zV X d 135 231 [] [] μ (zpi PP) := k135_231 hP
def R8 (L : Nat) (μs : zm_u) (b : Nat) (op : Bool) (T1 T2 : tT) (Q1 : List (Nat × Nat)) (W W1 : List Nat) (r : Int32) (μ' : zm_u) : Prop := (op = true ∧ r = 1 ∧ RS8 L μs μ' T2 Q1 W1 b) ∨ (op = false ∧ r = 0 ∧ RS8 L μs μ' T1 Q1 W b)
theorem rc_lit (hd : 9 ≤ d) (h : RQ μ T Q W b) (hL : L ≤ T.length) (hm : m = 11 ∨ m = 12) (hW : W.length < 60) (hQ : Q.length < 60) (hs : Slv T (Q ++ [(e, m - 11)]) op) :
    zI X d 135 [.inr 22, .inl (nI m), .inl (nI e)] μ (R8 L μ b op T T (Q ++ [(e, m - 11)]) W (W ++ [m - 11])) := by
  have h0 : RS8 L μ μ T Q W b := ⟨Cf_rf, h, hL⟩
  refine zI_at [0, 1, 2] (by omega) rfl ?_
  have fin : ∀ (v3 v4 : Int32) (μ1 : zm_u), RS8 L μ μ1 T (Q ++ [(e, m - 11)]) W b → zV X (d - 1) 135 86 [(0, .inr 22), (1, .inl (nI m)), (2, .inl (nI e)), (3, .inl v3), (4, .inl v4)] [] μ1 (zpi (R8 L μ b op T T (Q ++ [(e, m - 11)]) W (W ++ [m - 11]))) := by
    intro v3 v4 μ1 h1
    refine k135_86 ⟨_, b_solve (by omega) h1 hs, fun r μ2 hr => ?_⟩
    obtain ⟨rfl, h2⟩ := hr
    cases op with
    | false => exact k135_90 (fun z => absurd rfl z) (fun z => absurd rfl z) (fun z => absurd rfl z) (fun z => absurd rfl z) (fun z => absurd rfl z) (fun z => absurd rfl z) (fun _ => Or.inr ⟨rfl, rfl, h2⟩)
    | true =>
      rcases hm with rfl | rfl
      · refine k135_90 (by intros; contradiction) (by intros; contradiction) (by intros; contradiction) (by intros; contradiction) (by intros; contradiction) (fun _ _ => k135_168 ⟨_, b_bind (a := 0) (by omega) h2 hW rfl, fun μ3 h3 => ?_⟩) (fun z => absurd z zn_10)
        exact k135_176 (fun _ => k135_191 (fun _ => k135_207 (fun _ => k135_231 (Or.inl ⟨rfl, rfl, h3⟩)) (by intros; contradiction)) (by intros; contradiction)) (by intros; contradiction)
      · refine k135_90 (by intros; contradiction) (by intros; contradiction) (by intros; contradiction) (by intros; contradiction) (fun _ _ _ => k135_168 ⟨_, b_bind (a := 1) (by omega) h2 hW rfl, fun μ3 h3 => ?_⟩) (by intros; contradiction) (fun z => absurd z zn_10)
        exact k135_176 (fun _ => k135_191 (fun _ => k135_207 (fun _ => k135_231 (Or.inl ⟨rfl, rfl, h3⟩)) (by intros; contradiction)) (by intros; contradiction)) (by intros; contradiction)
  rcases hm with rfl | rfl
  · refine k135_0 (by intros; contradiction) (fun _ _ => k135_20 (fun _ => k135_35 (fun _ => k135_49 ⟨_, b_add (c1 := e) (c2 := 0) (by omega) h0 hQ rfl rfl, fun μ1 h1 => ?_⟩) (by intros; contradiction) (by intros; contradiction)) (by intros; contradiction)) (by intros; contradiction)
    exact k135_55 (fun _ => k135_67 (fun _ => fin _ _ μ1 h1) (by intros; contradiction)) (by intros; contradiction)
  · refine k135_0 (by intros; contradiction) (fun _ _ => k135_20 (fun _ => k135_35 (by intros; contradiction) (fun _ _ => k135_55 (by intros; contradiction) (fun _ => ⟨_, b_add (c1 := e) (c2 := 1) (by omega) h0 hQ rfl rfl, fun μ1 h1 => ?_⟩)) (by intros; contradiction)) (by intros; contradiction)) (by intros; contradiction)
    exact k135_67 (fun _ => fin _ _ μ1 h1) (by intros; contradiction)
theorem rc_sum (hd : 9 ≤ d) (h : RQ μ T Q W b) (hL : L ≤ T.length) (h0T : 0 < T.length) (hT : (tput T (3, 0, 0)).1.length < 600) (hW : W.length + 1 < 60) (hQ : Q.length < 60) (hs : Slv T (Q ++ [(e, 0)]) op) :
    zI X d 135 [.inr 22, .inl (nI 13), .inl (nI e)] μ (R8 L μ b op T (tput T (3, 0, 0)).1 (Q ++ [(e, 0)]) W (W ++ [(tput T (3, 0, 0)).2] ++ [(tput T (3, 0, 0)).2])) := by
  have h0 : RS8 L μ μ T Q W b := ⟨Cf_rf, h, hL⟩
  obtain ⟨l1, l2, l3⟩ := tput_l T (3, 0, 0)
  refine zI_at [0, 1, 2] (by omega) rfl (k135_0 (by intros; contradiction) (fun _ _ => k135_20 (fun _ => k135_35 (by intros; contradiction) (by intros; contradiction) (fun _ _ => k135_49 ⟨_, b_add (c1 := e) (c2 := 0) (by omega) h0 hQ rfl rfl, fun μ1 h1 => ?_⟩)) (by intros; contradiction)) (by intros; contradiction))
  refine k135_55 (fun _ => k135_67 (fun _ => k135_86 ⟨_, b_solve (by omega) h1 hs, fun r μ2 hr => ?_⟩) (by intros; contradiction)) (by intros; contradiction)
  obtain ⟨rfl, h2⟩ := hr
  cases op with
  | false => exact k135_90 (fun z => absurd rfl z) (fun z => absurd rfl z) (fun z => absurd rfl z) (fun z => absurd rfl z) (fun z => absurd rfl z) (fun z => absurd rfl z) (fun _ => Or.inr ⟨rfl, rfl, h2⟩)
  | true =>
    refine k135_90 (by intros; contradiction) (by intros; contradiction) (by intros; contradiction) (fun _ _ _ _ => ⟨_, b_exp (a := 0) (by omega) h2 (by omega) h0T rfl, fun r μ3 hr => k135_126 ?_⟩) (by intros; contradiction) (by intros; contradiction) (fun z => absurd z zn_10)
    obtain ⟨rfl, h3⟩ := hr
    refine k135_168 ⟨_, b_bind (by omega) h3 (by omega) rfl, fun μ4 h4 => ?_⟩
    have hE := b_exp (X := X) (d := d - 1) (x := 0) (a := 0) (by omega) h4 (by omega) (by omega) rfl
    rw [tput_again] at hE
    refine k135_176 (by intros; contradiction) (fun _ => ⟨_, hE, fun r μ5 hr => ?_⟩)
    obtain ⟨rfl, h5⟩ := hr
    refine k135_188 ⟨_, b_bind (by omega) h5 (by simp; omega) rfl, fun μ6 h6 => ?_⟩
    exact k135_191 (fun _ => k135_207 (fun _ => k135_231 (Or.inl ⟨rfl, rfl, h6⟩)) (by intros; contradiction)) (by intros; contradiction)
theorem rc_when (hd : 9 ≤ d) (h : RQ μ T Q W b) (hL : L ≤ T.length) (h0T : 1 < T.length) (he : e < T.length) (hT0 : T.length < 600) (hT1 : (tput T (3, 1, 0)).1.length < 600) (hT : (tput (tput T (3, 1, 0)).1 (3, e, 0)).1.length < 600) (hW : W.length + 2 < 60) (hs : ∃ N ν, MO T N ν Q) :
    zI X d 135 [.inr 22, .inl (nI 14), .inl (nI e)] μ (R8 L μ b true T (tput (tput T (3, 1, 0)).1 (3, e, 0)).1 Q W (W ++ [(tput T (3, 1, 0)).2] ++ [(tput (tput T (3, 1, 0)).1 (3, e, 0)).2] ++ [(tput (tput T (3, 1, 0)).1 (3, e, 0)).2])) := by
  have h0 : RS8 L μ μ T Q W b := ⟨Cf_rf, h, hL⟩
  obtain ⟨l1, l2, l3⟩ := tput_l T (3, 1, 0)
  obtain ⟨k1, k2, k3⟩ := tput_l (tput T (3, 1, 0)).1 (3, e, 0)
  refine zI_at [0, 1, 2] (by omega) rfl (k135_0 (by intros; contradiction) (fun _ _ => k135_20 (fun _ => k135_35 (by intros; contradiction) (fun _ _ => k135_55 (fun _ => k135_67 (fun _ => k135_86 ⟨_, b_solve (op := true) (by omega) h0 ⟨fun _ => hs, fun z => by simp at z⟩, fun r μ2 hr => ?_⟩) (by intros; contradiction)) (by intros; contradiction)) (by intros; contradiction)) (by intros; contradiction)) (by intros; contradiction))
  obtain ⟨rfl, h2⟩ := hr
  refine k135_90 (by intros; contradiction) (by intros; contradiction) (fun _ _ _ _ _ => ⟨_, b_exp (a := 1) (by omega) h2 (by omega) h0T rfl, fun r μ3 hr => k135_140 ?_⟩) (by intros; contradiction) (by intros; contradiction) (by intros; contradiction) (fun z => absurd z zn_10)
  obtain ⟨rfl, h3⟩ := hr
  refine k135_168 ⟨_, b_bind (by omega) h3 (by omega) rfl, fun μ4 h4 => ?_⟩
  refine k135_176 (fun _ => k135_191 (fun _ => k135_207 (by intros; contradiction) (fun _ => ⟨_, b_exp (a := e) (by omega) h4 (by omega) (by omega) rfl, fun r μ5 hr => ?_⟩)) (by intros; contradiction)) (by intros; contradiction)
  obtain ⟨rfl, h5⟩ := hr
  refine k135_219 ⟨_, b_bind (by omega) h5 (by simp; omega) rfl, fun μ6 h6 => ?_⟩
  have hE := b_exp (X := X) (d := d - 1) (x := nI e) (a := e) (by omega) h6 (by omega) (by omega) rfl
  rw [tput_again] at hE
  refine k135_222 ⟨_, hE, fun r μ7 hr => ?_⟩
  obtain ⟨rfl, h7⟩ := hr
  exact k135_228 ⟨_, b_bind (by omega) h7 (by simp; omega) rfl, fun μ8 h8 => k135_231 (Or.inl ⟨rfl, rfl, h8⟩)⟩
theorem nR_len (T : tT) : (nRm T).length = T.length + 1 := by simp [nRm]
def dT (T : tT) : tT := (tput (nRm (nRm T)) (2, T.length, T.length + 1)).1
def dq (T : tT) : Nat := (tput (nRm (nRm T)) (2, T.length, T.length + 1)).2
theorem dT_len (T : tT) : T.length + 2 ≤ (dT T).length ∧ (dT T).length ≤ T.length + 3 ∧ dq T < (dT T).length := by
  have h1 := nR_len T
  have h2 := nR_len (nRm T)
  obtain ⟨l1, l2, l3⟩ := tput_l (nRm (nRm T)) (2, T.length, T.length + 1)
  unfold dT dq
  omega
theorem rc_duo (hd : 9 ≤ d) (h : RQ μ T Q W b) (hL : L ≤ T.length) (hT : T.length + 4 < 600) (hW : W.length + 1 < 60) (hQ : Q.length < 60) (hs : Slv (dT T) (Q ++ [(e, dq T)]) op) :
    zI X d 135 [.inr 22, .inl (nI 15), .inl (nI e)] μ (R8 L μ b op (dT T) (tput (tput (dT T) (3, T.length, 0)).1 (3, T.length + 1, 0)).1 (Q ++ [(e, dq T)]) W (W ++ [(tput (dT T) (3, T.length, 0)).2] ++ [(tput (tput (dT T) (3, T.length, 0)).1 (3, T.length + 1, 0)).2])) := by
  have h0 : RS8 L μ μ T Q W b := ⟨Cf_rf, h, hL⟩
  have n1 := nR_len T
  have n2 := nR_len (nRm T)
  obtain ⟨d1, d2, d3⟩ := dT_len T
  obtain ⟨l1, l2, l3⟩ := tput_l (dT T) (3, T.length, 0)
  obtain ⟨k1, k2, k3⟩ := tput_l (tput (dT T) (3, T.length, 0)).1 (3, T.length + 1, 0)
  refine zI_at [0, 1, 2] (by omega) rfl (k135_0 (fun _ => k135_12 ⟨_, b_new (by omega) h0 (by omega), fun r μ1 hr => k135_16 ?_⟩) (by intros; contradiction) (by intros; contradiction))
  obtain ⟨rfl, h1⟩ := hr
  refine k135_20 (by intros; contradiction) (fun _ => ⟨_, b_new (by omega) h1 (by omega), fun r μ2 hr => k135_31 ?_⟩)
  obtain ⟨rfl, h2⟩ := hr
  rw [n1]
  refine k135_35 (by intros; contradiction) (fun _ _ => k135_55 (fun _ => k135_67 (by intros; contradiction) (fun _ => ⟨_, b_pair (a := T.length) (a2 := T.length + 1) (by omega) h2 (by omega) (by omega) (by omega) rfl rfl, fun r μ3 hr => ?_⟩)) (by intros; contradiction)) (by intros; contradiction)
  obtain ⟨rfl, h3⟩ := hr
  have h3 : RS8 L μ μ3 (dT T) Q W b := h3
  refine k135_83 ⟨_, b_add (c1 := e) (c2 := dq T) (by omega) h3 hQ rfl rfl, fun μ4 h4 => ?_⟩
  refine k135_86 ⟨_, b_solve (by omega) h4 hs, fun r μ5 hr => ?_⟩
  obtain ⟨rfl, h5⟩ := hr
  cases op with
  | false => exact k135_90 (fun z => absurd rfl z) (fun z => absurd rfl z) (fun z => absurd rfl z) (fun z => absurd rfl z) (fun z => absurd rfl z) (fun z => absurd rfl z) (fun _ => Or.inr ⟨rfl, rfl, h5⟩)
  | true =>
    refine k135_90 (by intros; contradiction) (fun _ _ _ _ _ _ => ⟨_, b_exp (a := T.length) (by omega) h5 (by omega) (by omega) rfl, fun r μ6 hr => k135_154 ?_⟩) (by intros; contradiction) (by intros; contradiction) (by intros; contradiction) (by intros; contradiction) (fun z => absurd z zn_10)
    obtain ⟨rfl, h6⟩ := hr
    refine k135_168 ⟨_, b_bind (by omega) h6 (by omega) rfl, fun μ7 h7 => ?_⟩
    refine k135_176 (fun _ => k135_191 (by intros; contradiction) (fun _ => ⟨_, b_exp (a := T.length + 1) (by omega) h7 (by omega) (by omega) rfl, fun r μ8 hr => ?_⟩)) (by intros; contradiction)
    obtain ⟨rfl, h8⟩ := hr
    refine k135_204 ⟨_, b_bind (by omega) h8 (by simp; omega) rfl, fun μ9 h9 => ?_⟩
    exact k135_207 (fun _ => k135_231 (Or.inl ⟨rfl, rfl, h9⟩)) (by intros; contradiction)
theorem rc_left (hd : 9 ≤ d) (h : RQ μ T Q W b) (hL : L ≤ T.length) (he : e < T.length) (hT : T.length + 2 < 600) (hW : W.length < 60) (hs : ∃ N ν, MO (nRm T) N ν Q) :
    zI X d 135 [.inr 22, .inl (nI 16), .inl (nI e)] μ (R8 L μ b true (nRm T) (tput (tput (nRm T) (2, e, T.length)).1 (3, (tput (nRm T) (2, e, T.length)).2, 0)).1 Q W (W ++ [(tput (tput (nRm T) (2, e, T.length)).1 (3, (tput (nRm T) (2, e, T.length)).2, 0)).2])) := by
  have h0 : RS8 L μ μ T Q W b := ⟨Cf_rf, h, hL⟩
  have n1 := nR_len T
  obtain ⟨l1, l2, l3⟩ := tput_l (nRm T) (2, e, T.length)
  obtain ⟨k1, k2, k3⟩ := tput_l (tput (nRm T) (2, e, T.length)).1 (3, (tput (nRm T) (2, e, T.length)).2, 0)
  refine zI_at [0, 1, 2] (by omega) rfl (k135_0 (by intros; contradiction) (by intros; contradiction) (fun _ _ => k135_12 ⟨_, b_new (by omega) h0 (by omega), fun r μ1 hr => k135_16 ?_⟩))
  obtain ⟨rfl, h1⟩ := hr
  refine k135_20 (fun _ => k135_35 (by intros; contradiction) (fun _ _ => k135_55 (fun _ => k135_67 (fun _ => k135_86 ⟨_, b_solve (op := true) (by omega) h1 ⟨fun _ => hs, fun z => by simp at z⟩, fun r μ2 hr => ?_⟩) (by intros; contradiction)) (by intros; contradiction)) (by intros; contradiction)) (by intros; contradiction)
  obtain ⟨rfl, h2⟩ := hr
  refine k135_90 (fun _ _ _ _ _ _ => ⟨_, b_pair (a := e) (a2 := T.length) (by omega) h2 (by omega) (by omega) (by omega) rfl rfl, fun r μ3 hr => ?_⟩) (by intros; contradiction) (by intros; contradiction) (by intros; contradiction) (by intros; contradiction) (by intros; contradiction) (fun z => absurd z zn_10)
  obtain ⟨rfl, h3⟩ := hr
  refine k135_165 ⟨_, b_exp (by omega) h3 (by omega) l1 rfl, fun r μ4 hr => ?_⟩
  obtain ⟨rfl, h4⟩ := hr
  refine k135_168 ⟨_, b_bind (by omega) h4 (by omega) rfl, fun μ5 h5 => ?_⟩
  exact k135_176 (fun _ => k135_191 (fun _ => k135_207 (fun _ => k135_231 (Or.inl ⟨rfl, rfl, h5⟩)) (by intros; contradiction)) (by intros; contradiction)) (by intros; contradiction)
end RC8

def vc (T : tT) (c : Option Nat) : Prop := ∀ i, c = some i → i < T.length
def cPair (T : tT) (c1 c2 : Option Nat) : tT × Option Nat := match c1, c2 with
  | some a, some b => ((tput T (2, a, b)).1, some (tput T (2, a, b)).2)
  | _, _ => (T, none)
def cExp (T : tT) (c : Option Nat) : tT × Option Nat := match c with
  | some a => ((tput T (3, a, 0)).1, some (tput T (3, a, 0)).2)
  | none => (T, none)
def Ex (T T' : tT) : Prop := (∀ i, i < T.length → T'[i]? = T[i]?) ∧ T.length ≤ T'.length ∧ tw T' ∧ cnm T'
def cArg (T : tT) (D : Nat → Option Nat) (kk : Nat) (s : Bool) (c : Option Nat) : Option Nat := match c with
  | none => none
  | some i => match T[tl D i]? with
    | some (k, a, b) => if k = kk then some (if s then b else a) else none
    | none => none
section CO
variable {X : zm_T} {d : Nat} {μ μ' μ1 : zm_u} {T T' T1 : tT} {D : Nat → Option Nat} {S : Nat → Tr} {V : List Nat} {i j k a b n res : Nat} {q : Nat × Nat × Nat} {c c1 c2 : Option Nat}
theorem Ex_rf (hw : tw T) (hc : cnm T) : Ex T T := ⟨fun _ _ => rfl, Nat.le_refl _, hw, hc⟩
theorem Ex_tr (h1 : Ex T T1) (h2 : Ex T1 T') : Ex T T' := ⟨fun i hi => (h2.1 i (by have := h1.2.1; omega)).trans (h1.1 i hi), Nat.le_trans h1.2.1 h2.2.1, h2.2.2⟩
theorem Ex_vc (h : Ex T T') (hc : vc T c) : vc T' c := fun i hi => Nat.lt_of_lt_of_le (hc i hi) h.2.1
theorem Ex_at (h : Ex T T') (hi : T[i]? = some q) : T'[i]? = some q := (h.1 i (List.getElem?_eq_some_iff.mp hi).1).trans hi
theorem Ex_cT (hw : tw T) (h : Ex T T') (hi : i < T.length) : cT T' S i = cT T S i := by
  unfold cT
  rw [tJ_ext hw h.2.2.1 h.1 (fun _ _ _ _ => rfl) i hi]
theorem Ex_TD (hw : tw T) (h : Ex T T') (hD : TD T D S) : TD T' D S := by
  intro i
  obtain ⟨h1, h2⟩ := hD i
  refine ⟨h1, fun t ht => ?_⟩
  obtain ⟨⟨a, b, q1⟩, ⟨k, a', b', q2, q3⟩, q4⟩ := h2 t ht
  exact ⟨⟨a, b, Ex_at h q1⟩, ⟨k, a', b', Ex_at h q2, q3⟩, by rw [q4, Ex_cT hw h (tw_lt q2)]⟩
theorem tput_Ex (hw : tw T) (hc : cnm T) (hq : q.1 = 2 ∧ q.2.1 < T.length ∧ q.2.2 < T.length ∨ q.1 = 3 ∧ q.2.1 < T.length ∧ q.2.2 = 0 ∨ q.1 = 4) (ha : q.2.1 < 10000) (hb : q.2.2 < 10000) (hn : q.1 = 4 → (q.2.1 < 3 ∨ q.2.1 = 3 + T.length) ∧ q.2.2 = 0) : Ex T (tput T q).1 ∧ (tput T q).1.length ≤ T.length + 1 ∧ (tput T q).1[(tput T q).2]? = some q := by
  obtain ⟨h1, h2, h3, h4⟩ := tput_F (T := T) (q := q)
  exact ⟨⟨h1, h2, tput_w hw hq ha hb, tput_n hc hn⟩, h3, h4⟩

theorem cPair_F (hw : tw T) (hc : cnm T) (hl : T.length < 466) (h1 : vc T c1) (h2 : vc T c2) : Ex T (cPair T c1 c2).1 ∧ (cPair T c1 c2).1.length ≤ T.length + 1 ∧ vc (cPair T c1 c2).1 (cPair T c1 c2).2 ∧
    (∀ a b, c1 = some a → c2 = some b → ∃ j, (cPair T c1 c2).2 = some j ∧ ∀ S, cT (cPair T c1 c2).1 S j = tP (cT T S a) (cT T S b)) ∧ (c1 = none ∨ c2 = none → (cPair T c1 c2).2 = none) := by
  rcases c1 with _ | a
  · exact ⟨Ex_rf hw hc, by simp [cPair], fun i hi => by simp [cPair] at hi, fun a b z => by simp at z, fun _ => rfl⟩
  rcases c2 with _ | b
  · exact ⟨Ex_rf hw hc, by simp [cPair], fun i hi => by simp [cPair] at hi, fun a b _ z => by simp at z, fun _ => rfl⟩
  have ha := h1 a rfl
  have hb := h2 b rfl
  obtain ⟨e1, e2, e3⟩ := tput_Ex (q := (2, a, b)) hw hc (Or.inl ⟨rfl, ha, hb⟩) (by show a < 10000; omega) (by show b < 10000; omega) (fun z => by simp at z)
  refine ⟨e1, e2, fun i hi => ?_, fun a' b' z1 z2 => ?_, fun z => by simp at z⟩
  · simp only [cPair, Option.some.injEq] at hi
    subst hi
    exact tw_lt e3
  · simp only [Option.some.injEq] at z1 z2
    subst z1 z2
    refine ⟨_, rfl, fun S => ?_⟩
    show cT (tput T (2, a, b)).1 S (tput T (2, a, b)).2 = _
    rw [← Ex_cT hw e1 ha, ← Ex_cT hw e1 hb]
    unfold cT
    rw [tJ_2 e1.2.2.1 e3]
    rfl
theorem cExp_F (hw : tw T) (hc : cnm T) (hl : T.length < 466) (h1 : vc T c) : Ex T (cExp T c).1 ∧ (cExp T c).1.length ≤ T.length + 1 ∧ vc (cExp T c).1 (cExp T c).2 ∧
    (∀ a, c = some a → ∃ j, (cExp T c).2 = some j ∧ ∀ S, cT (cExp T c).1 S j = tE (cT T S a)) ∧ (c = none → (cExp T c).2 = none) := by
  rcases c with _ | a
  · exact ⟨Ex_rf hw hc, by simp [cExp], fun i hi => by simp [cExp] at hi, fun a z => by simp at z, fun _ => rfl⟩
  have ha := h1 a rfl
  obtain ⟨e1, e2, e3⟩ := tput_Ex (q := (3, a, 0)) hw hc (Or.inr (Or.inl ⟨rfl, ha, rfl⟩)) (by show a < 10000; omega) (by show 0 < 10000; omega) (fun z => by simp at z)
  refine ⟨e1, e2, fun i hi => ?_, fun a' z1 => ?_, fun z => by simp at z⟩
  · simp only [cExp, Option.some.injEq] at hi
    subst hi
    exact tw_lt e3
  · simp only [Option.some.injEq] at z1
    subst z1
    refine ⟨_, rfl, fun S => ?_⟩
    show cT (tput T (3, a, 0)).1 S (tput T (3, a, 0)).2 = _
    rw [← Ex_cT hw e1 ha]
    unfold cT
    rw [tJ_3 e1.2.2.1 e3]
    rfl
theorem CC_fr (h : CC μ T D V res) (hT : CT μ' T') (hf : ∀ c, c ≠ 1 → c ≠ 6 → c ≠ 7 → c ≠ 8 → μ' c = μ c) : CC μ' T' D V res ∧ CK μ μ' := by
  obtain ⟨h1, h2, h3, h4, h5, h6⟩ := h
  refine ⟨⟨hT, fun i hi => ?_, ?_, h4, fun i v hv => ?_, ?_⟩, fun c a _ b d e _ _ => hf c a b d e⟩
  · rw [hf 13 (by decide) (by decide) (by decide) (by decide)]; exact h2 i hi
  · rw [hf 3 (by decide) (by decide) (by decide) (by decide)]; exact h3
  · rw [hf 14 (by decide) (by decide) (by decide) (by decide)]; exact h5 i v hv
  · rw [hf 3 (by decide) (by decide) (by decide) (by decide)]; exact h6
theorem c_pairOf (hd : 3 ≤ d) (h : CC μ T D V res) (hl : T.length < 466) (h1 : vc T c1) (h2 : vc T c2) : zI X d 24 [.inr 1, .inl (oc c1), .inl (oc c2)] μ (fun r μ' => r = oc (cPair T c1 c2).2 ∧ CC μ' (cPair T c1 c2).1 D V res ∧ CK μ μ') := by
  refine zI_at [0, 1, 2] (by omega) rfl ?_
  rcases c1 with _ | a
  · refine k24_0 ⟨_, c_hasN (by omega), fun r μ1 hr => ?_⟩
    obtain ⟨rfl, rfl⟩ := hr
    exact k24_5 (fun _ => ⟨rfl, h, CK_rf⟩) (fun z => absurd rfl z)
  refine k24_0 ⟨_, c_hasX (by omega) h.1 (h1 a rfl), fun r μ1 hr => ?_⟩
  obtain ⟨rfl, rfl⟩ := hr
  rcases c2 with _ | b
  · refine k24_5 (fun z => absurd z zn_10) (fun _ => ⟨_, c_hasN (by omega), fun r μ2 hr => ?_⟩)
    obtain ⟨rfl, rfl⟩ := hr
    exact k24_13 (fun _ => ⟨rfl, h, CK_rf⟩) (fun z => absurd rfl z)
  refine k24_5 (fun z => absurd z zn_10) (fun _ => ⟨_, c_hasX (by omega) h.1 (h2 b rfl), fun r μ2 hr => ?_⟩)
  obtain ⟨rfl, rfl⟩ := hr
  refine k24_13 (fun z => absurd z zn_10) (fun _ => ⟨_, c_putX (kk := 2) (aa := a) (bb := b) (by omega) h.1 hl (by omega) (Or.inl ⟨rfl, h1 a rfl, h2 b rfl⟩) (fun z => absurd z (by omega)) rfl rfl rfl, fun r μ3 hr => k24_23 ?_⟩)
  obtain ⟨rfl, e1, e2⟩ := hr
  exact ⟨rfl, CC_fr h e1 e2⟩
theorem c_expOf (hd : 3 ≤ d) (h : CC μ T D V res) (hl : T.length < 466) (h1 : vc T c) : zI X d 25 [.inr 1, .inl (oc c)] μ (fun r μ' => r = oc (cExp T c).2 ∧ CC μ' (cExp T c).1 D V res ∧ CK μ μ') := by
  refine zI_at [0, 1] (by omega) rfl ?_
  rcases c with _ | a
  · refine k25_0 ⟨_, c_hasN (by omega), fun r μ1 hr => ?_⟩
    obtain ⟨rfl, rfl⟩ := hr
    exact k25_5 (fun _ => ⟨rfl, h, CK_rf⟩) (fun z => absurd rfl z)
  refine k25_0 ⟨_, c_hasX (by omega) h.1 (h1 a rfl), fun r μ1 hr => ?_⟩
  obtain ⟨rfl, rfl⟩ := hr
  refine k25_5 (fun z => absurd z zn_10) (fun _ => ⟨_, c_putX (kk := 3) (aa := a) (bb := 0) (by omega) h.1 hl (by omega) (Or.inr (Or.inl ⟨rfl, h1 a rfl, rfl⟩)) (fun z => absurd z (by omega)) rfl rfl rfl, fun r μ3 hr => k25_15 ?_⟩)
  obtain ⟨rfl, e1, e2⟩ := hr
  exact ⟨rfl, CC_fr h e1 e2⟩

theorem new_no (hc : cnm T) (hw : tw T) : t_find T (4, 3 + T.length, 0) = none := by
  refine t_find_none (fun j hj z => ?_)
  have := hc j _ _ z
  omega
theorem c_newName (hd : 3 ≤ d) (h : CC μ T D V res) (hl : T.length < 466) : zI X d 27 [.inr 1] μ (fun r μ' => r = nI T.length ∧ CC μ' (T ++ [(4, 3 + T.length, 0)]) D V res ∧ CK μ μ') := by
  refine zI_at [0] (by omega) rfl (k27_0 ⟨_, c_putX (kk := 4) (aa := 3 + T.length) (bb := 0) (by omega) h.1 hl (by omega) (Or.inr (Or.inr rfl)) (fun _ => ⟨Or.inr rfl, rfl⟩) rfl ?_ rfl, fun r μ3 hr => k27_12 ?_⟩)
  · rw [h.1.1.1]; exact nI_add 3 _
  · unfold tput at hr
    rw [new_no h.1.2.2.2 h.1.2.2.1] at hr
    obtain ⟨rfl, e1, e2⟩ := hr
    exact ⟨rfl, CC_fr h e1 e2⟩
theorem new_Ex (hw : tw T) (hc : cnm T) (hl : T.length < 466) : Ex T (T ++ [(4, 3 + T.length, 0)]) ∧ ∀ S : Nat → Tr, cT (T ++ [(4, 3 + T.length, 0)]) S T.length = S T.length := by
  have hw' : tw (T ++ [(4, 3 + T.length, 0)]) := tw_put hw (Or.inr (Or.inr rfl)) (by show 3 + T.length < 10000; omega) (by show 0 < 10000; omega)
  refine ⟨⟨fun i hi => app_lt hi, by simp, hw', ?_⟩, fun S => ?_⟩
  · have := tput_n (q := (4, 3 + T.length, 0)) hc (fun _ => ⟨Or.inr rfl, rfl⟩)
    unfold tput at this
    rw [new_no hc hw] at this
    exact this
  · unfold cT
    rw [tJ_4 app_at]
    rfl

theorem c_nameOf (hd : 3 ≤ d) (h : CC μ T D V res) (hl : T.length < 466) : zI X d 26 [.inr 1, .inl 0] μ (fun r μ' => r = nI (tput T (4, 0, 0)).2 ∧ CC μ' (tput T (4, 0, 0)).1 D V res ∧ CK μ μ') := by
  refine zI_at [0, 1] (by omega) rfl (k26_0 ⟨_, c_putX (kk := 4) (aa := 0) (bb := 0) (by omega) h.1 hl (by omega) (Or.inr (Or.inr rfl)) (fun _ => ⟨Or.inl (by omega), rfl⟩) rfl rfl rfl, fun r μ3 hr => k26_7 ?_⟩)
  obtain ⟨rfl, e1, e2⟩ := hr
  exact ⟨rfl, CC_fr h e1 e2⟩
theorem tl_lt (hD : TD T D S) (hi : i < T.length) : tl D i < T.length := by
  unfold tl
  rcases h : D i with _ | t
  · exact hi
  · obtain ⟨_, ⟨k, a, b, q, _⟩, _⟩ := (hD i).2 t h
    exact tw_lt q
theorem tl_cT (hD : TD T D S) (hi : i < T.length) : cT T S (tl D i) = cT T S i ∧ ∀ a b, T[tl D i]? = some (4, a, b) → cT T S (tl D i) = tA (tl D i) := by
  unfold tl
  rcases h : D i with _ | t
  · refine ⟨rfl, fun a b q => ?_⟩
    show cT T S i = tA i
    have q' : T[i]? = some (4, a, b) := q
    unfold cT
    rw [tJ_4 q']
    exact (hD i).1 h
  · obtain ⟨⟨a1, b1, q1⟩, ⟨k, a, b, q, hk⟩, e⟩ := (hD i).2 t h
    refine ⟨?_, fun a' b' q' => ?_⟩
    · show cT T S t = cT T S i
      rw [← e]
      unfold cT
      rw [tJ_4 q1]
      rfl
    · rw [show (some t : Option Nat).getD i = t from rfl, q] at q'
      simp only [Option.some.injEq, Prod.mk.injEq] at q'
      exact absurd q'.1 hk
theorem oc_m1 (h : i < 466) : ¬ oc (some i) = -1 := nI_m1 (by omega)
theorem c_asTold (hd : 2 ≤ d) (h : CC μ T D V res) (hD : TD T D S) (h1 : vc T c) : zI X d 61 [.inr 3, .inl (oc c)] μ (fun r μ' => μ' = μ ∧ r = oc (c.map (tl D))) := by
  have hl := h.1.2.1
  refine zI_at [0, 1] (by omega) rfl ?_
  rcases c with _ | i
  · refine k61_0 ⟨_, c_hasN (by omega), fun r μ1 hr => ?_⟩
    obtain ⟨rfl, rfl⟩ := hr
    exact k61_8 (fun _ => ⟨rfl, rfl⟩) (fun z => absurd rfl z) (fun z => absurd rfl z) (fun z => absurd rfl z) (fun z => absurd rfl z)
  have hi := h1 i rfl
  have bb : 0 ≤ (oc (some i)).toInt ∧ (oc (some i)).toInt < ((466 : Nat) : Int) := by
    show 0 ≤ (nI i).toInt ∧ (nI i).toInt < ((466 : Nat) : Int)
    rw [nI_t (by omega)]; omega
  have e13 : μ 13 (oc (some i)).toNatClampNeg = oc (D i) := by
    show μ 13 (nI i).toNatClampNeg = _
    rw [nI_c (by omega)]; exact h.2.1 i (by omega)
  refine k61_0 ⟨_, c_hasX (by omega) h.1 hi, fun r μ1 hr => ?_⟩
  obtain ⟨rfl, rfl⟩ := hr
  refine k61_8 (fun z => absurd z zn_10) (fun _ => bb) (fun _ z => ⟨rfl, ?_⟩) (fun _ _ => bb) (fun _ z => ⟨rfl, ?_⟩)
  · rw [e13] at z
    rcases hq : D i with _ | t
    · show nI i = nI (tl D i)
      unfold tl
      rw [hq]; rfl
    · rw [hq] at z
      obtain ⟨_, ⟨k, a, b, q, _⟩, _⟩ := (hD i).2 t hq
      exact absurd z (oc_m1 (by have := tw_lt q; omega))
  · rw [e13] at z ⊢
    rcases hq : D i with _ | t
    · rw [hq] at z
      exact absurd rfl z
    · show nI t = nI (tl D i)
      unfold tl
      rw [hq]; rfl
theorem ck_k {k kk : Nat} (hk : k ≤ 4) (hkk : kk ≤ 4) : nI (t_ck k) = nI (t_ck kk) ↔ k = kk := ⟨ck_inj hk hkk, fun z => by rw [z]⟩
theorem cArg_F (hw : tw T) (hD : TD T D S) (h1 : vc T c) {kk : Nat} {s : Bool} (hkk : kk = 3 ∧ s = false ∨ kk = 2) : vc T (cArg T D kk s c) ∧ (c = none → cArg T D kk s c = none) ∧
    ∀ i, c = some i → (thd (cT T S i) ≠ kk ∧ cArg T D kk s c = none ∨ thd (cT T S i) = kk ∧ ∃ a b, T[tl D i]? = some (kk, a, b) ∧ a < T.length ∧ (kk = 2 → b < T.length) ∧ cArg T D kk s c = some (if s then b else a) ∧ (kk = 2 → cT T S i = tP (cT T S a) (cT T S b)) ∧ (kk = 3 → cT T S i = tE (cT T S a))) := by
  rcases c with _ | i
  · exact ⟨fun i hi => by simp [cArg] at hi, fun _ => rfl, fun i z => by simp at z⟩
  have hi := h1 i rfl
  have hlt := tl_lt hD hi
  obtain ⟨e1, e2⟩ := tl_cT hD hi
  obtain ⟨k, a, b, hq⟩ := tw_at hlt
  have hq' := hw.2 _ _ _ _ hq
  have ec : cArg T D kk s (some i) = if k = kk then some (if s then b else a) else none := by
    unfold cArg
    simp only
    rw [hq]
  have hhd : thd (cT T S i) = k := by
    by_cases k4 : k = 4
    · subst k4
      rw [← e1, e2 a b hq]; rfl
    · rw [← e1]; exact hd_k hw hq k4
  by_cases hk : k = kk
  · subst hk
    rw [if_pos rfl] at ec
    have main : ∃ a' b', T[tl D i]? = some (k, a', b') ∧ a' < T.length ∧ (k = 2 → b' < T.length) ∧ cArg T D k s (some i) = some (if s then b' else a') ∧ (k = 2 → cT T S i = tP (cT T S a') (cT T S b')) ∧ (k = 3 → cT T S i = tE (cT T S a')) := by
      refine ⟨a, b, hq, by omega, by omega, ec, fun z => ?_, fun z => ?_⟩
      · subst z
        rw [← e1]; unfold cT; rw [tJ_2 hw hq]; rfl
      · subst z
        rw [← e1]; unfold cT; rw [tJ_3 hw hq]; rfl
    refine ⟨fun j hj => ?_, fun z => by simp at z, fun i' z => ?_⟩
    · rw [ec] at hj
      simp only [Option.some.injEq] at hj
      subst hj
      rcases hkk with ⟨rfl, rfl⟩ | rfl
      · simp only [Bool.false_eq_true, if_false]; omega
      · split <;> omega
    · simp only [Option.some.injEq] at z
      subst z
      exact Or.inr ⟨hhd, main⟩
  · rw [if_neg hk] at ec
    refine ⟨fun j hj => ?_, fun z => by simp at z, fun i' z => ?_⟩
    · rw [ec] at hj; simp at hj
    · simp only [Option.some.injEq] at z
      subst z
      exact Or.inl ⟨by rw [hhd]; exact hk, ec⟩
theorem cArg_e (hi : T[tl D i]? = some (k, a, b)) {kk : Nat} {s : Bool} : cArg T D kk s (some i) = if k = kk then some (if s then b else a) else none := by
  unfold cArg
  simp only
  rw [hi]
theorem c_insideOf (hd : 4 ≤ d) (h : CC μ T D V res) (hD : TD T D S) (h1 : vc T c) : zI X d 58 [.inr 3, .inl (oc c)] μ (fun r μ' => μ' = μ ∧ r = oc (cArg T D 3 false c)) := by
  refine zI_at [0, 1] (by omega) rfl (k58_0 ⟨_, c_asTold (by omega) h hD h1, fun r μ1 hr => ?_⟩)
  obtain ⟨rfl, rfl⟩ := hr
  rcases c with _ | i
  · refine k58_5 ⟨_, c_kN (by omega) h.1, fun r μ2 hr => ?_⟩
    obtain ⟨rfl, rfl⟩ := hr
    exact k58_14 (fun _ => ⟨rfl, rfl⟩) (fun z => absurd z (by decide))
  obtain ⟨k, a, b, hq⟩ := tw_at (tl_lt hD (h1 i rfl))
  have hk := tw_k h.1.2.2.1 hq
  refine k58_5 ⟨_, c_kX (i := tl D i) (by omega) h.1 hq, fun r μ2 hr => ?_⟩
  obtain ⟨rfl, rfl⟩ := hr
  rw [cArg_e hq]
  have e1 : (1 : Int32) = nI (t_ck 3) := rfl
  refine k58_14 (fun z => ?_) (fun z => ?_)
  · rw [e1, ck_k hk (by omega)] at z
    rw [if_neg z]
    exact ⟨rfl, rfl⟩
  · rw [e1, ck_k hk (by omega)] at z
    rw [if_pos z]
    refine ⟨_, c_fX (i := tl D i) (by omega) h.1 hq, fun r μ3 hr => k58_26 ?_⟩
    exact ⟨hr.1, hr.2⟩
theorem c_firstIn (hd : 4 ≤ d) (h : CC μ T D V res) (hD : TD T D S) (h1 : vc T c) : zI X d 59 [.inr 3, .inl (oc c)] μ (fun r μ' => μ' = μ ∧ r = oc (cArg T D 2 false c)) := by
  refine zI_at [0, 1] (by omega) rfl (k59_0 ⟨_, c_asTold (by omega) h hD h1, fun r μ1 hr => ?_⟩)
  obtain ⟨rfl, rfl⟩ := hr
  rcases c with _ | i
  · refine k59_5 ⟨_, c_kN (by omega) h.1, fun r μ2 hr => ?_⟩
    obtain ⟨rfl, rfl⟩ := hr
    exact k59_14 (fun _ => ⟨rfl, rfl⟩) (fun z => absurd z (by decide))
  obtain ⟨k, a, b, hq⟩ := tw_at (tl_lt hD (h1 i rfl))
  have hk := tw_k h.1.2.2.1 hq
  refine k59_5 ⟨_, c_kX (i := tl D i) (by omega) h.1 hq, fun r μ2 hr => ?_⟩
  obtain ⟨rfl, rfl⟩ := hr
  rw [cArg_e hq]
  have e1 : (0 : Int32) = nI (t_ck 2) := rfl
  refine k59_14 (fun z => ?_) (fun z => ?_)
  · rw [e1, ck_k hk (by omega)] at z
    rw [if_neg z]
    exact ⟨rfl, rfl⟩
  · rw [e1, ck_k hk (by omega)] at z
    rw [if_pos z]
    refine ⟨_, c_fX (i := tl D i) (by omega) h.1 hq, fun r μ3 hr => k59_25 ?_⟩
    exact ⟨hr.1, hr.2⟩
theorem c_secondIn (hd : 4 ≤ d) (h : CC μ T D V res) (hD : TD T D S) (h1 : vc T c) : zI X d 60 [.inr 3, .inl (oc c)] μ (fun r μ' => μ' = μ ∧ r = oc (cArg T D 2 true c)) := by
  refine zI_at [0, 1] (by omega) rfl (k60_0 ⟨_, c_asTold (by omega) h hD h1, fun r μ1 hr => ?_⟩)
  obtain ⟨rfl, rfl⟩ := hr
  rcases c with _ | i
  · refine k60_5 ⟨_, c_kN (by omega) h.1, fun r μ2 hr => ?_⟩
    obtain ⟨rfl, rfl⟩ := hr
    exact k60_14 (fun _ => ⟨rfl, rfl⟩) (fun z => absurd z (by decide))
  obtain ⟨k, a, b, hq⟩ := tw_at (tl_lt hD (h1 i rfl))
  have hk := tw_k h.1.2.2.1 hq
  refine k60_5 ⟨_, c_kX (i := tl D i) (by omega) h.1 hq, fun r μ2 hr => ?_⟩
  obtain ⟨rfl, rfl⟩ := hr
  rw [cArg_e hq]
  have e1 : (0 : Int32) = nI (t_ck 2) := rfl
  refine k60_14 (fun z => ?_) (fun z => ?_)
  · rw [e1, ck_k hk (by omega)] at z
    rw [if_neg z]
    exact ⟨rfl, rfl⟩
  · rw [e1, ck_k hk (by omega)] at z
    rw [if_pos z]
    refine ⟨_, c_sX (i := tl D i) (by omega) h.1 hq, fun r μ3 hr => k60_25 ?_⟩
    exact ⟨hr.1, hr.2⟩

theorem c_variableAt (hd : 1 ≤ d) (h : CC μ T D V res) (hn : n < 1000) : zI X d 57 [.inr 3, .inl (nI n)] μ (fun r μ' => μ' = μ ∧ r = oc V[n]?) := by
  have h34 := h.2.2.1
  have hl := h.2.2.2.1
  refine zI_at [0, 1] (by omega) rfl (k57_0 (fun z => absurd z (nI_pos (by omega))) (fun _ z => ⟨rfl, ?_⟩) (fun _ z => ?_) (fun _ z => ⟨rfl, ?_⟩))
  · rw [h34, nI_leI (by omega) (by omega)] at z
    rw [List.getElem?_eq_none z]; rfl
  · rw [h34, nI_leI (by omega) (by omega)] at z
    rw [nI_t (by omega)]; omega
  · rw [h34, nI_leI (by omega) (by omega)] at z
    obtain ⟨v, hv⟩ := ns_at (ns := V) (j := n) (by omega)
    rw [nI_c (by omega), hv]
    exact h.2.2.2.2.1 n v hv
theorem c_addVar (hd : 1 ≤ d) (h : CC μ T D V res) (hl : V.length < 16) (hi : i < T.length) : zO X d 52 [.inr 3, .inl (nI i)] μ (fun μ' => CC μ' T D (V ++ [i]) res ∧ CK μ μ') := by
  obtain ⟨h1, h2, h3, h4, h5, h6⟩ := h
  have e16 : (16 : Int32) = nI 16 := rfl
  have n16 : ¬ (16 : Int32) ≤ μ 3 4 := by rw [h3, e16, nI_leI (by omega) (by omega)]; omega
  have c34 : (μ 3 4).toNatClampNeg = V.length := by rw [h3, nI_c (by omega)]
  refine zO_at [0, 1] hd rfl (k52_0 (fun z => absurd z n16) (fun _ => by rw [h3, nI_t (by omega)]; omega) (fun _ => ?_))
  rw [c34, h3, ← nI_one, nI_add]
  refine ⟨⟨⟨⟨?_, fun j k a b hj => ?_⟩, h1.2⟩, fun j hj => ?_, ?_, by simp; omega, fun j v hv => ?_, ?_⟩, fun c a1 a3 _ _ _ _ a14 => ?_⟩
  · rw [zm_up_row (by decide), zm_up_row (by decide)]; exact h1.1.1
  · rw [zm_up_row (by decide), zm_up_row (by decide), zm_up_row (by decide), zm_up_row (by decide), zm_up_row (by decide), zm_up_row (by decide)]; exact h1.1.2 j k a b hj
  · rw [zm_up_row (by decide), zm_up_row (by decide)]; exact h2 j hj
  · rw [zm_up_at, if_pos ⟨rfl, rfl⟩]; simp
  · rw [zm_up_row (by decide), zm_up_at]
    by_cases e : j = V.length
    · rw [if_pos ⟨rfl, e⟩]
      rw [e, List.getElem?_append_right (Nat.le_refl _), Nat.sub_self] at hv
      simp only [List.getElem?_cons_zero, Option.some.injEq] at hv
      rw [hv]
    · rw [if_neg (by omega)]
      have hlt : j < V.length := by
        have := (List.getElem?_eq_some_iff.mp hv).1
        simp only [List.length_append, List.length_singleton] at this
        omega
      rw [List.getElem?_append_left hlt] at hv
      exact h5 j v hv
  · rw [zm_up_at, if_neg (by omega), zm_up_row (by decide)]; exact h6
  · rw [zm_up_row a3, zm_up_row a14]

theorem c_areEqual (h : CC μ T D V res) (hD : TD T D S) : ∀ (lev d i j : Nat), lev < 100 → lev + 4 ≤ d → i < T.length → j < T.length → th (cT T S i) ≤ lev → zI X d 63 [.inr 3, .inl (nI i), .inl (nI j), .inl (nI lev)] μ (fun r μ' => μ' = μ ∧ (cT T S i = cT T S j ∧ r = 1 ∨ cT T S i ≠ cT T S j ∧ r = 0)) := by
  have hl := h.1.2.1
  have hw := h.1.2.2.1
  intro lev
  induction lev with
  | zero =>
    intro d i j _ _ _ _ hth
    have := th_pos (cT T S i)
    omega
  | succ lev ih =>
    intro d i j hlev hd hi hj hth
    have n0 : ¬ nI (lev + 1) = 0 := nI_s0 (by omega)
    refine zI_at [0, 1, 2, 3] (by omega) rfl (k63_0 (fun z => absurd z (nI_m1 (by omega))) (fun _ z => absurd z (nI_m1 (by omega))) (fun _ _ _ => ⟨_, c_asTold (c := some i) (by omega) h hD (fun i' z => by simp only [Option.some.injEq] at z; omega), fun r μ1 hr => ?_⟩) (fun _ _ z => absurd z n0))
    obtain ⟨rfl, rfl⟩ := hr
    refine k63_21 ⟨_, c_asTold (c := some j) (by omega) h hD (fun i' z => by simp only [Option.some.injEq] at z; omega), fun r μ1 hr => ?_⟩
    obtain ⟨rfl, rfl⟩ := hr
    have hxl := tl_lt hD hi
    have hyl := tl_lt hD hj
    obtain ⟨ex, ax⟩ := tl_cT hD hi
    obtain ⟨ey, ay⟩ := tl_cT hD hj
    rw [← ex, ← ey]
    rw [← ex] at hth
    show zV X (d - 1) 63 28 [(0, .inr 3), (3, .inl (nI (lev + 1))), (4, .inl (nI (tl D i)))] [.inl (nI (tl D j))] μ1 _
    generalize tl D i = x at hxl ax hth ⊢
    generalize tl D j = y at hyl ay ⊢
    obtain ⟨k, a, b, hx⟩ := tw_at hxl
    obtain ⟨k', a', b', hy⟩ := tw_at hyl
    have hk := tw_k hw hx
    have hk' := tw_k hw hy
    have wx := (hw.2 _ _ _ _ hx).1
    have wy := (hw.2 _ _ _ _ hy).1
    refine k63_28 (fun hne => ⟨_, c_kX (by omega) h.1 hx, fun r μ2 hr => ?_⟩) (fun z => ?_)
    · obtain ⟨rfl, rfl⟩ := hr
      refine k63_48 ⟨_, c_kX (by omega) h.1 hy, fun r μ3 hr => ?_⟩
      obtain ⟨rfl, rfl⟩ := hr
      have hdx : thd (cT T S x) = k := by
        by_cases k4 : k = 4
        · subst k4; rw [ax a b hx]; rfl
        · exact hd_k hw hx k4
      have hdy : thd (cT T S y) = k' := by
        by_cases k4 : k' = 4
        · subst k4; rw [ay a' b' hy]; rfl
        · exact hd_k hw hy k4
      rw [nI_inj (by omega) (by omega)] at hne
      refine k63_57 (fun z => ⟨_, c_kX (by omega) h.1 hx, fun r μ4 hr => ?_⟩) (fun z => ⟨rfl, Or.inr ⟨fun e => ?_, rfl⟩⟩)
      · obtain ⟨rfl, rfl⟩ := hr
        obtain rfl : k = k' := ck_inj hk hk' z
        have e0 : (0 : Int32) = nI (t_ck 2) := rfl
        have e1 : (1 : Int32) = nI (t_ck 3) := rfl
        refine k63_71 (fun z => ⟨_, c_fX (by omega) h.1 hx, fun r μ5 hr => ?_⟩) (fun _ z => ⟨_, c_fX (by omega) h.1 hx, fun r μ5 hr => ?_⟩) (fun z1 z2 => ⟨rfl, Or.inr ⟨fun e => ?_, rfl⟩⟩)
        · obtain ⟨rfl, rfl⟩ := hr
          rw [e0, ck_k hk (by omega)] at z
          subst z
          have tx : cT T S x = tP (cT T S a) (cT T S b) := by unfold cT; rw [tJ_2 hw hx]; rfl
          have ty : cT T S y = tP (cT T S a') (cT T S b') := by unfold cT; rw [tJ_2 hw hy]; rfl
          rw [tx, th_P] at hth
          rw [tx, ty]
          refine k63_106 ⟨_, c_fX (by omega) h.1 hy, fun r μ6 hr => ?_⟩
          obtain ⟨rfl, rfl⟩ := hr
          have el : nI (lev + 1) - 1 = nI lev := nI_pr
          refine k63_115 ?_
          rw [el]
          refine ⟨_, ih (d - 1) a a' (by omega) (by omega) (by omega) (by omega) (by omega), fun r μ7 hr => ?_⟩
          obtain ⟨rfl, ⟨q1, rfl⟩ | ⟨q1, rfl⟩⟩ := hr
          · refine k63_121 (fun z => absurd z zn_10) (fun _ => ⟨_, c_sX (by omega) h.1 hx, fun r μ8 hr => ?_⟩)
            obtain ⟨rfl, rfl⟩ := hr
            refine k63_134 ⟨_, c_sX (by omega) h.1 hy, fun r μ9 hr => ?_⟩
            obtain ⟨rfl, rfl⟩ := hr
            refine k63_143 ?_
            rw [el]
            refine ⟨_, ih (d - 1) b b' (by omega) (by omega) (by omega) (by omega) (by omega), fun r μ7 hr => ?_⟩
            obtain ⟨rfl, ⟨q2, rfl⟩ | ⟨q2, rfl⟩⟩ := hr
            · exact k63_149 (fun z => absurd z zn_10) (fun _ => ⟨rfl, Or.inl ⟨by rw [q1, q2], rfl⟩⟩)
            · exact k63_149 (fun _ => ⟨rfl, Or.inr ⟨fun e => q2 (tP_inj e).2, rfl⟩⟩) (fun z => absurd rfl z)
          · exact k63_121 (fun _ => ⟨rfl, Or.inr ⟨fun e => q1 (tP_inj e).1, rfl⟩⟩) (fun z => absurd rfl z)
        · obtain ⟨rfl, rfl⟩ := hr
          rw [e1, ck_k hk (by omega)] at z
          subst z
          have tx : cT T S x = tE (cT T S a) := by unfold cT; rw [tJ_3 hw hx]; rfl
          have ty : cT T S y = tE (cT T S a') := by unfold cT; rw [tJ_3 hw hy]; rfl
          rw [tx, th_E] at hth
          rw [tx, ty]
          refine k63_168 ⟨_, c_fX (by omega) h.1 hy, fun r μ6 hr => ?_⟩
          obtain ⟨rfl, rfl⟩ := hr
          have el : nI (lev + 1) - 1 = nI lev := nI_pr
          refine k63_177 ?_
          rw [el]
          refine ⟨_, ih (d - 1) a a' (by omega) (by omega) (by omega) (by omega) (by omega), fun r μ7 hr => ?_⟩
          obtain ⟨rfl, ⟨q1, rfl⟩ | ⟨q1, rfl⟩⟩ := hr
          · exact k63_183 (Or.inr rfl) ⟨rfl, Or.inl ⟨by rw [q1], rfl⟩⟩
          · exact k63_183 (Or.inl rfl) ⟨rfl, Or.inr ⟨fun e => q1 (tE_inj e), rfl⟩⟩
        · rw [e0, ck_k hk (by omega)] at z1
          rw [e1, ck_k hk (by omega)] at z2
          rcases wx with w | w | w | w | w
          · omega
          · omega
          · omega
          · omega
          · subst w
            rw [ax a b hx, ay a' b' hy] at e
            exact hne (tA_inj e)
      · have : k = k' := by rw [← hdx, ← hdy, e]
        exact z (by rw [this])
    · rw [nI_inj (by omega) (by omega)] at z
      exact ⟨rfl, Or.inl ⟨by rw [z], rfl⟩⟩
end CO

def Tok (T : tT) : Prop := T.length ≤ 24 ∧ tw T ∧ (∀ (i a b : Nat), T[i]? = some (4, a, b) → a < 3 ∧ b = 0) ∧ ∀ i, i < T.length → th (tJ T tA i) ≤ 4
section LA
variable {L n i j k a b res : Nat} {T T' : tT} {x y z r : Int32}
theorem t_h_min (hw : tw T) : ∀ f i, i < T.length → t_h T f i = min f (th (tJ T tA i)) := by
  intro f
  induction f with
  | zero => intro i _; show 0 = min 0 _; omega
  | succ f ih =>
    intro i hi
    have hp := th_pos (tJ T tA i)
    have hq := at_kd hi
    unfold t_h
    rcases kd_cases hw hi with ⟨k, e⟩ | ⟨k, e⟩ | ⟨k, a1, a2, e⟩ | ⟨k, a1, e⟩ | ⟨k, e⟩
    · rw [k] at hq
      rw [hq, e]
      show 1 = min (f + 1) 1
      omega
    · rw [k] at hq
      rw [hq, e]
      show 1 = min (f + 1) 1
      omega
    · rw [k] at hq
      rw [hq, e, th_P]
      show 1 + max (t_h T f (k1 T i)) (t_h T f (k2 T i)) = _
      rw [ih _ (by omega), ih _ (by omega)]
      omega
    · rw [k] at hq
      rw [hq, e, th_E]
      show 1 + t_h T f (k1 T i) = _
      rw [ih _ (by omega)]
      omega
    · rw [k] at hq
      rw [hq, e, th_A]
      show 1 = min (f + 1) 1
      omega
theorem Tok_cnm (h : Tok T) : cnm T := fun i a b hi => ⟨Or.inl (h.2.2.1 i a b hi).1, (h.2.2.1 i a b hi).2⟩
theorem Tok_wf (h : Tok T) : t_wf T := by
  intro i k a b hi
  have hl := tw_lt hi
  have h24 := h.1
  have h0 := h.2.1.1
  rcases (h.2.1.2 i k a b hi).1 with ⟨rfl, rfl⟩ | ⟨rfl, rfl⟩ | ⟨rfl, h1, h2⟩ | ⟨rfl, h1, h2⟩ | rfl
  · rw [h0.1] at hi
    simp only [Option.some.injEq, Prod.mk.injEq] at hi
    omega
  · rw [h0.2] at hi
    simp only [Option.some.injEq, Prod.mk.injEq] at hi
    omega
  · omega
  · omega
  · have := h.2.2.1 i a b hi
    omega
theorem Tok_LT (h : Tok T) (hr : res < T.length) : LT T.length res T := ⟨rfl, h.1, hr, h.2.1, h.2.2.2⟩
theorem Tok_0 : Tok [(0, 0, 0), (1, 0, 0)] := by
  have hw : tw [(0, 0, 0), (1, 0, 0)] := by
    refine ⟨⟨rfl, rfl⟩, fun i k a b hi => ?_⟩
    have hl := tw_lt hi
    simp at hl
    rcases (show i = 0 ∨ i = 1 by omega) with rfl | rfl
    · simp at hi; omega
    · simp at hi; omega
  refine ⟨by simp, hw, fun i a b hi => ?_, fun i hi => ?_⟩
  · have hl := tw_lt hi
    simp at hl
    rcases (show i = 0 ∨ i = 1 by omega) with rfl | rfl
    · simp at hi
    · simp at hi
  · have := th_ix hw i hi
    simp at hi
    omega
theorem Tok_add (h : Tok T) (hl : T.length < 24) (hq : k = 2 ∧ a < T.length ∧ b < T.length ∧ 1 + max (t_h T 4 a) (t_h T 4 b) ≤ 4 ∨ k = 3 ∧ a < T.length ∧ b = 0 ∧ 1 + t_h T 4 a ≤ 4 ∨ k = 4 ∧ a < 3 ∧ b = 0) : Tok (T ++ [(k, a, b)]) := by
  obtain ⟨h1, h2, h3, h4⟩ := h
  have hw : tw (T ++ [(k, a, b)]) := tw_put (q := (k, a, b)) h2 (by
    rcases hq with ⟨q1, q2, q3, _⟩ | ⟨q1, q2, q3, _⟩ | ⟨q1, _⟩
    · exact Or.inl ⟨q1, q2, q3⟩
    · exact Or.inr (Or.inl ⟨q1, q2, q3⟩)
    · exact Or.inr (Or.inr q1)) (by show a < 10000; omega) (by show b < 10000; omega)
  refine ⟨by simp; omega, hw, fun i a' b' hi => ?_, fun i hi => ?_⟩
  · by_cases e : i = T.length
    · subst e
      rw [app_at] at hi
      simp only [Option.some.injEq, Prod.mk.injEq] at hi
      omega
    · have hlt : i < T.length := by
        have := tw_lt hi
        simp at this
        omega
      rw [app_lt hlt] at hi
      exact h3 i a' b' hi
  · have old : ∀ j, j < T.length → tJ (T ++ [(k, a, b)]) tA j = tJ T tA j := tJ_ext h2 hw (fun i hi => app_lt hi) (fun _ _ _ _ => rfl)
    by_cases e : i = T.length
    · subst e
      have hat : (T ++ [(k, a, b)])[T.length]? = some (k, a, b) := app_at
      rcases hq with ⟨rfl, q2, q3, q4⟩ | ⟨rfl, q2, q3, q4⟩ | ⟨rfl, q2, q3⟩
      · rw [tJ_2 hw hat, th_P, old a q2, old b q3]
        rw [t_h_min h2 4 a q2, t_h_min h2 4 b q3] at q4
        omega
      · rw [tJ_3 hw hat, th_E, old a q2]
        rw [t_h_min h2 4 a q2] at q4
        omega
      · rw [tJ_4 hat, th_A]
        omega
    · have hlt : i < T.length := by
        simp at hi
        omega
      rw [old i hlt]
      exact h4 i hlt
theorem Tok_make (h : Tok T) (hm : t_make T x y z = (r, T')) : Tok T' ∧ T.length ≤ T'.length ∧ ∀ i, i < T.length → T'[i]? = T[i]? := by
  unfold t_make at hm
  split at hm
  · rename_i hc
    split at hm
    · simp only [Prod.mk.injEq] at hm
      rw [← hm.2]
      exact ⟨h, Nat.le_refl _, fun _ _ => rfl⟩
    · by_cases hn : T.length = 24 ∨ 4 < (if x = 2 then 1 else if x = 1 then 1 + t_h T 4 y.toInt.toNat else 1 + max (t_h T 4 y.toInt.toNat) (t_h T 4 z.toInt.toNat))
      · rw [if_pos hn] at hm
        simp only [Prod.mk.injEq] at hm
        rw [← hm.2]
        exact ⟨h, Nat.le_refl _, fun _ _ => rfl⟩
      · rw [if_neg hn] at hm
        simp only [Prod.mk.injEq] at hm
        rw [← hm.2]
        have h24 := h.1
        have e1 : ((1 : Int32)).toInt = 1 := by decide
        have e2 : ((2 : Int32)).toInt = 2 := by decide
        have e0 : ((0 : Int32)).toInt = 0 := by decide
        refine ⟨Tok_add h (by omega) ?_, by simp, fun i hi => app_lt hi⟩
        rcases hc with ⟨rfl, c1⟩ | ⟨rfl, c1⟩ | ⟨rfl, c1⟩
        · rw [if_neg (by decide), if_neg (by decide)] at hn
          rw [if_pos rfl, e0]
          exact Or.inl ⟨rfl, by omega, by omega, by omega⟩
        · rw [if_neg (by decide), if_pos rfl] at hn
          rw [if_neg (by decide), e1]
          exact Or.inr (Or.inl ⟨rfl, by omega, rfl, by omega⟩)
        · rw [if_neg (by decide), e2]
          exact Or.inr (Or.inr ⟨rfl, by omega, rfl⟩)
  · simp only [Prod.mk.injEq] at hm
    rw [← hm.2]
    exact ⟨h, Nat.le_refl _, fun _ _ => rfl⟩
end LA

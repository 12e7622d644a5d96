def tj (T : tT) (ν : Nat → Tr) : Nat → Nat → Tr
  | 0, _ => tI
  | f + 1, i => match T[i]? with
    | some (0, _, _) => tI
    | some (1, _, _) => tB
    | some (2, a, b) => tP (tj T ν f a) (tj T ν f b)
    | some (3, a, _) => tE (tj T ν f a)
    | some (_ + 4, _, _) => ν i
    | none => tI
def tJ (T : tT) (ν : Nat → Tr) (i : Nat) : Tr := tj T ν (i + 1) i
def tw (T : tT) : Prop := (T[0]? = some (0, 0, 0) ∧ T[1]? = some (1, 0, 0)) ∧ ∀ (i k a b : Nat), T[i]? = some (k, a, b) → (k = 0 ∧ i = 0 ∨ k = 1 ∧ i = 1 ∨ k = 2 ∧ a < i ∧ b < i ∨ k = 3 ∧ a < i ∧ b = 0 ∨ k = 4) ∧ a < 10000 ∧ b < 10000

def ta (N : Nat → Prop) : Tr → Prop
  | .nest _ t => ta N t
  | .append a b => ta N a ∧ ta N b
  | .tag n _ => N n
  | _ => True
section TR
variable {T T' : tT} {ν ν' S S' : Nat → Tr} {i j k a b n : Nat} {t : Tr}
theorem tw_k (h : tw T) (hi : T[i]? = some (k, a, b)) : k ≤ 4 := by
  have := (h.2 i k a b hi).1
  omega
theorem tj_fuel (hw : tw T) : ∀ (i f : Nat), i < f → tj T ν f i = tJ T ν i := by
  intro i
  induction i using Nat.strongRecOn with
  | ind i ih =>
    intro f hf
    obtain ⟨f, rfl⟩ : ∃ m, f = m + 1 := ⟨f - 1, by omega⟩
    unfold tJ
    show (match T[i]? with
      | some (0, _, _) => tI
      | some (1, _, _) => tB
      | some (2, a, b) => tP (tj T ν f a) (tj T ν f b)
      | some (3, a, _) => tE (tj T ν f a)
      | some (_ + 4, _, _) => ν i
      | none => tI) = (match T[i]? with
      | some (0, _, _) => tI
      | some (1, _, _) => tB
      | some (2, a, b) => tP (tj T ν i a) (tj T ν i b)
      | some (3, a, _) => tE (tj T ν i a)
      | some (_ + 4, _, _) => ν i
      | none => tI)
    rcases h : T[i]? with _ | ⟨k, a, b⟩
    · rfl
    · have hk := hw.2 i k a b h
      match k, hk with
      | 0, _ => rfl
      | 1, _ => rfl
      | 2, hk =>
        show tP (tj T ν f a) (tj T ν f b) = tP (tj T ν i a) (tj T ν i b)
        rw [ih a (by omega) f (by omega), ih b (by omega) f (by omega), ih a (by omega) i (by omega), ih b (by omega) i (by omega)]
      | 3, hk =>
        show tE (tj T ν f a) = tE (tj T ν i a)
        rw [ih a (by omega) f (by omega), ih a (by omega) i (by omega)]
      | k + 4, _ => rfl
theorem tJ_0 (h : T[i]? = some (0, a, b)) : tJ T ν i = tI := by
  unfold tJ tj
  rw [h]
theorem tJ_1 (h : T[i]? = some (1, a, b)) : tJ T ν i = tB := by
  unfold tJ tj
  rw [h]
theorem tJ_2 (hw : tw T) (h : T[i]? = some (2, a, b)) : tJ T ν i = tP (tJ T ν a) (tJ T ν b) := by
  have hk := hw.2 i _ a b h
  rw [← tj_fuel hw a i (by omega), ← tj_fuel hw b i (by omega)]
  conv => lhs; unfold tJ tj
  rw [h]
theorem tJ_3 (hw : tw T) (h : T[i]? = some (3, a, b)) : tJ T ν i = tE (tJ T ν a) := by
  have hk := hw.2 i _ a b h
  rw [← tj_fuel hw a i (by omega)]
  conv => lhs; unfold tJ tj
  rw [h]
theorem tJ_4 (h : T[i]? = some (4, a, b)) : tJ T ν i = ν i := by
  unfold tJ tj
  rw [h]
theorem tJ_ext (hw : tw T) (hw' : tw T') (hT : ∀ i, i < T.length → T'[i]? = T[i]?) (hν : ∀ i a b, T[i]? = some (4, a, b) → ν' i = ν i) : ∀ i, i < T.length → tJ T' ν' i = tJ T ν i := by
  intro i
  induction i using Nat.strongRecOn with
  | ind i ih =>
    intro hi
    have h : T[i]? = some T[i] := List.getElem?_eq_getElem hi
    obtain ⟨⟨k, a, b⟩, hq⟩ : ∃ q, T[i] = q := ⟨_, rfl⟩
    rw [hq] at h
    have h' := (hT i hi).trans h
    have hk := hw.2 i k a b h
    rcases hk.1 with ⟨rfl, _⟩ | ⟨rfl, _⟩ | ⟨rfl, h1, h2⟩ | ⟨rfl, h1, _⟩ | rfl
    · rw [tJ_0 h, tJ_0 h']
    · rw [tJ_1 h, tJ_1 h']
    · rw [tJ_2 hw h, tJ_2 hw' h', ih a h1 (by omega), ih b h2 (by omega)]
    · rw [tJ_3 hw h, tJ_3 hw' h', ih a h1 (by omega)]
    · rw [tJ_4 h, tJ_4 h', hν i a b h]
theorem hd_k (hw : tw T) (h : T[i]? = some (k, a, b)) (hk : k ≠ 4) : thd (ts S (tJ T ν i)) = k := by
  rcases (hw.2 i k a b h).1 with ⟨rfl, _⟩ | ⟨rfl, _⟩ | ⟨rfl, h1, h2⟩ | ⟨rfl, h1, _⟩ | rfl
  · rw [tJ_0 h]; rfl
  · rw [tJ_1 h]; rfl
  · rw [tJ_2 hw h]; rfl
  · rw [tJ_3 hw h]; rfl
  · exact absurd rfl hk
theorem th_pos (t : Tr) : 1 ≤ th t := by cases t <;> simp [th]
theorem th_P (a b : Tr) : th (tP a b) = 1 + max (th a) (th b) := rfl
theorem th_E (a : Tr) : th (tE a) = 1 + th a := rfl
theorem th_A (n : Nat) : th (tA n) = 1 := rfl
theorem th_ts {m : Nat} (hS : ∀ n, th (S n) ≤ 1 + m) : ∀ t, th (ts S t) ≤ th t + m := by
  intro t
  induction t with
  | nil => simp [ts, th]
  | line => simp [ts, th]
  | align b => simp [ts, th]
  | text s => simp [ts, th]
  | nest i t ih => simp only [ts, th]; omega
  | append a b iha ihb => simp only [ts, th]; omega
  | group f b => simp [ts, th]
  | tag n f => simp only [ts, th]; exact hS n
theorem ts_ts : ∀ t, ts S (ts S' t) = ts (fun n => ts S (S' n)) t := by
  intro t
  induction t with
  | nil => rfl
  | line => rfl
  | align b => rfl
  | text s => rfl
  | nest i t ih => simp only [ts, ih]
  | append a b iha ihb => simp only [ts, iha, ihb]
  | group f b => rfl
  | tag n f => rfl
theorem ta_imp {N N' : Nat → Prop} (h : ∀ n, N n → N' n) : ∀ t, ta N t → ta N' t := by
  intro t
  induction t with
  | nil => exact fun z => z
  | line => exact fun z => z
  | align b => exact fun z => z
  | text s => exact fun z => z
  | nest i t ih => exact ih
  | append a b iha ihb => exact fun z => ⟨iha z.1, ihb z.2⟩
  | group f b => exact fun z => z
  | tag n f => exact h n
theorem hd_ts (h : thd t ≠ 4) : thd (ts S t) = thd t := by
  cases t <;> first | rfl | exact absurd rfl h
theorem tw_at (h : i < T.length) : ∃ k a b, T[i]? = some (k, a, b) := by
  obtain ⟨⟨k, a, b⟩, hq⟩ : ∃ q, T[i] = q := ⟨_, rfl⟩
  exact ⟨k, a, b, by rw [List.getElem?_eq_getElem h, hq]⟩
theorem tw_lt (h : T[i]? = some (k, a, b)) : i < T.length := (List.getElem?_eq_some_iff.mp h).1

theorem tw_put {q : Nat × Nat × Nat} (h : tw T) (hq : q.1 = 2 ∧ q.2.1 < T.length ∧ q.2.2 < T.length ∨ q.1 = 3 ∧ q.2.1 < T.length ∧ q.2.2 = 0 ∨ q.1 = 4) (ha : q.2.1 < 10000) (hb : q.2.2 < 10000) : tw (T ++ [q]) := by
  have hl : 1 < T.length := tw_lt h.1.2
  refine ⟨⟨?_, ?_⟩, fun i k a b hi => ?_⟩
  · rw [List.getElem?_append_left (by omega)]; exact h.1.1
  · rw [List.getElem?_append_left (by omega)]; exact h.1.2
  · by_cases e : i = T.length
    · subst e
      rw [List.getElem?_append_right (Nat.le_refl _), Nat.sub_self] at hi
      simp only [List.getElem?_cons_zero, Option.some.injEq] at hi
      subst hi
      refine ⟨?_, ha, hb⟩
      rcases hq with ⟨q1, q2, q3⟩ | ⟨q1, q2, q3⟩ | q1
      · exact Or.inr (Or.inr (Or.inl ⟨q1, q2, q3⟩))
      · exact Or.inr (Or.inr (Or.inr (Or.inl ⟨q1, q2, q3⟩)))
      · exact Or.inr (Or.inr (Or.inr (Or.inr q1)))
    · have hlt : i < T.length := by
        have := tw_lt hi
        simp at this
        omega
      rw [List.getElem?_append_left hlt] at hi
      exact h.2 i k a b hi
theorem app_at {q : Nat × Nat × Nat} : (T ++ [q])[T.length]? = some q := by
  rw [List.getElem?_append_right (Nat.le_refl _), Nat.sub_self]
  rfl
theorem app_lt {q : Nat × Nat × Nat} (h : i < T.length) : (T ++ [q])[i]? = T[i]? := List.getElem?_append_left h
end TR

section ZN
variable {sh : List zm_h} {X : zm_T} {cd : Nat → List zm_q} {d n pc : Nat} {st : List zm_v} {μ : zm_u} {post : Option zm_v → zm_u → Prop}
def zm_le (l l2 : zm_L) : Prop := ∀ (i : Nat) (v : zm_v), zm_get l i = some v → zm_get l2 i = some v
theorem zm_get_set {i j : Nat} {v : zm_v} : ∀ l : zm_L, zm_get (zm_set l i v) j = cond (Nat.beq i j) (some v) (zm_get l j) := by
  intro l
  induction l with
  | nil =>
    show cond (Nat.beq i j) (some v) none = _
    rfl
  | cons x r ih =>
    obtain ⟨k, w⟩ := x
    unfold zm_set
    cases hb : Nat.beq i k with
    | true =>
      have e := Nat.eq_of_beq_eq_true hb
      subst e
      simp only [cond_true]
      show cond (Nat.beq i j) (some v) (zm_get r j) = cond (Nat.beq i j) (some v) (cond (Nat.beq i j) (some w) (zm_get r j))
      cases Nat.beq i j <;> rfl
    | false =>
      simp only [cond_false]
      cases hl : Nat.ble i k with
      | true =>
        simp only [cond_true]
        rfl
      | false =>
        simp only [cond_false]
        show cond (Nat.beq k j) (some w) (zm_get (zm_set r i v) j) = cond (Nat.beq i j) (some v) (cond (Nat.beq k j) (some w) (zm_get r j))
        rw [ih]
        cases h1 : Nat.beq k j with
        | false => rfl
        | true =>
          have e := Nat.eq_of_beq_eq_true h1
          subst e
          rw [hb]
          rfl
theorem zm_set_le {l l2 : zm_L} (h : zm_le l l2) (i : Nat) (v : zm_v) : zm_le (zm_set l i v) (zm_set l2 i v) := by
  intro j w hj
  rw [zm_get_set] at hj ⊢
  cases hb : Nat.beq i j with
  | true => rw [hb] at hj; exact hj
  | false => rw [hb] at hj; exact h j w hj
theorem zm_s1_le {q : zm_q} {l l2 l' : zm_L} {bs : List Bool} {pc' : Nat} {st' : List zm_v} {μ' : zm_u} (hle : zm_le l l2) (h : zm_s1 sh X q l st μ = some (bs, pc', l', st', μ')) : ∃ l2' : zm_L, zm_s1 sh X q l2 st μ = some (bs, pc', l2', st', μ') ∧ zm_le l' l2' := by
  obtain ⟨pc, nx, op, a, b, k, sw⟩ := q
  unfold zm_s1 at h ⊢
  simp only at h ⊢
  split at h
  · cases h
    exact ⟨l2, rfl, hle⟩
  · split at h
    · rename_i v hv
      cases h
      exact ⟨l2, by rw [hle _ _ hv], hle⟩
    · cases h
  · split at h
    · cases h
      exact ⟨_, rfl, zm_set_le hle _ _⟩
    · cases h
  · split at h
    · rename_i v hv
      cases h
      exact ⟨zm_set l2 a (.inl (v + k)), by rw [hle _ _ hv], zm_set_le hle _ _⟩
    · cases h
  all_goals first
    | (split at h
       · rename_i v hv
         cases h
         exact ⟨l2, by rw [hle _ _ hv], hle⟩
       · cases h)
    | ((repeat' split at h) <;> first
        | (cases h; exact ⟨l2, rfl, hle⟩)
        | (cases h; exact ⟨l2, by simp only [*], hle⟩)
        | (cases h; exact ⟨l2, by simp [*], hle⟩)
        | (cases h; done))
theorem zm_s1_hi {q : zm_q} {l : zm_L} (h : 30 ≤ q.2.2.1) : zm_s1 sh X q l st μ = none := by
  obtain ⟨pc, nx, op, a, b, k, sw⟩ := q
  simp only at h
  obtain ⟨j, rfl⟩ : ∃ j, op = j + 30 := ⟨op - 30, by omega⟩
  simp only [zm_s1]
theorem zm_s2_le {q : zm_q} {l l2 : zm_L} {call : Nat → List zm_v → zm_u → Option (Option zm_v × zm_u)} {y : zm_S ⊕ (Option zm_v × zm_u)} (h : zm_s2 sh call q l st μ = some y) :
    (∃ x, y = .inr x ∧ zm_s2 sh call q l2 st μ = some (.inr x)) ∨ ∃ pc' st' μ', y = .inl (pc', l, st', μ') ∧ zm_s2 sh call q l2 st μ = some (.inl (pc', l2, st', μ')) := by
  obtain ⟨pc, nx, op, a, b, k, sw⟩ := q
  unfold zm_s2 at h ⊢
  simp only at h ⊢
  split at h
  · split at h
    · cases h; exact Or.inr ⟨_, _, _, rfl, rfl⟩
    · cases h
  · split at h
    · cases h; exact Or.inr ⟨_, _, _, rfl, rfl⟩
    · cases h
  · split at h
    · cases h; exact Or.inr ⟨_, _, _, rfl, rfl⟩
    · cases h
  · split at h
    · cases h; exact Or.inl ⟨_, rfl, rfl⟩
    · cases h
  · split at h
    · cases h; exact Or.inl ⟨_, rfl, rfl⟩
    · cases h
  · cases hb : (Nat.ble b st.length && Nat.ble (st.drop b).length 8) with
    | false => rw [hb] at h; cases h
    | true =>
      rw [hb] at h
      simp only [cond_true] at h ⊢
      split at h
      · rename_i r μ1 hc
        cases h
        exact Or.inr ⟨_, _, _, rfl, by first | rfl | rw [hc]⟩
      · cases h
  · cases hb : (Nat.ble b st.length && Nat.ble (st.drop b).length 8 && zm_is sh k.toNatClampNeg (st.take b).reverse) with
    | false => rw [hb] at h; cases h
    | true =>
      rw [hb] at h
      simp only [cond_true] at h ⊢
      split at h
      · rename_i r μ1 hc
        cases h
        exact Or.inr ⟨_, _, _, rfl, by first | rfl | rw [hc]⟩
      · cases h
  · split at h
    · rename_i v
      cases hv : decide (v = 0 ∨ v = 1) with
      | false => rw [hv] at h; cases h
      | true => rw [hv] at h; cases h; exact Or.inl ⟨_, rfl, rfl⟩
    · cases h
  · cases h
theorem zm_s2_op {q : zm_q} {l : zm_L} {call : Nat → List zm_v → zm_u → Option (Option zm_v × zm_u)} {y : zm_S ⊕ (Option zm_v × zm_u)} (h : zm_s2 sh call q l st μ = some y) : 30 ≤ q.2.2.1 := by
  obtain ⟨pc, nx, op, a, b, k, sw⟩ := q
  unfold zm_s2 at h
  simp only at h ⊢
  split at h
  all_goals first
    | decide
    | (cases h; done)
theorem zm_loop_le {call : Nat → List zm_v → zm_u → Option (Option zm_v × zm_u)} {t : List zm_q} {x : Option zm_v × zm_u} : ∀ (f pc : Nat) (l l2 : zm_L) (st : List zm_v) (μ : zm_u), zm_le l l2 → zm_loop sh X call t f pc l st μ = some x → zm_loop sh X call t f pc l2 st μ = some x := by
  intro f
  induction f with
  | zero => intro pc l l2 st μ _ h; cases h
  | succ f ih =>
    intro pc l l2 st μ hle h
    unfold zm_loop at h ⊢
    cases hq : zm_at t pc with
    | none => rw [hq] at h; cases h
    | some q =>
      rw [hq] at h
      simp only at h ⊢
      unfold zm_st at h ⊢
      cases h1 : zm_s1 sh X q l st μ with
      | some y =>
        obtain ⟨bs, pc', l', st', μ'⟩ := y
        obtain ⟨l2', h2, hle'⟩ := zm_s1_le hle h1
        rw [h1] at h
        rw [h2]
        simp only at h ⊢
        cases hb : bs.all id with
        | false => rw [hb] at h; cases h
        | true =>
          rw [hb] at h
          exact ih pc' l' l2' st' μ' hle' h
      | none =>
        rw [h1] at h
        simp only at h
        cases h2 : zm_s2 sh call q l st μ with
        | none => rw [h2] at h; cases h
        | some y =>
          have hop := zm_s2_op h2
          have h3 : zm_s1 sh X q l2 st μ = none := zm_s1_hi hop
          rw [h3]
          simp only
          rw [h2] at h
          rcases zm_s2_le (l2 := l2) h2 with ⟨x', rfl, g2⟩ | ⟨pc', st', μ', rfl, g2⟩
          · rw [g2]; exact h
          · rw [g2]; exact ih pc' l l2 st' μ' hle h
def zm_pick (l : zm_L) (is : List Nat) : zm_L := match is with
  | [] => []
  | i :: r => match zm_get l i with
    | some v => (i, v) :: zm_pick l r
    | none => zm_pick l r
theorem zm_pick_le (l : zm_L) : ∀ is : List Nat, zm_le (zm_pick l is) l := by
  intro is
  induction is with
  | nil => intro i v h; cases h
  | cons i r ih =>
    intro j v h
    unfold zm_pick at h
    cases hg : zm_get l i with
    | none => rw [hg] at h; exact ih j v h
    | some w =>
      rw [hg] at h
      have h' : cond (Nat.beq i j) (some w) (zm_get (zm_pick l r) j) = some v := h
      cases hb : Nat.beq i j with
      | true =>
        rw [hb] at h'
        rw [← Nat.eq_of_beq_eq_true hb, hg]
        exact h'
      | false => rw [hb] at h'; exact ih j v h'
theorem zm_V_pick {l l' : zm_L} (is : List Nat) (hp : zm_pick l is = l') (h : zm_V sh cd X d n pc l' st μ post) : zm_V sh cd X d n pc l st μ post := by
  subst hp
  obtain ⟨F, r, μ', h1, h2⟩ := h
  exact ⟨F, r, μ', zm_loop_le F pc _ _ st μ (zm_pick_le l is) h1, h2⟩
end ZN
theorem zm_bc {A : Prop} {i : Decidable A} {bs : List Bool} (h : A) (t : bs.all id = true) : ((@decide A i) :: bs).all id = true := by
  rw [List.all_cons, t, Bool.and_true]
  exact decide_eq_true h
theorem zm_bt {b : Bool} {bs : List Bool} (h : b = true) (t : bs.all id = true) : (b :: bs).all id = true := by
  rw [List.all_cons, t, Bool.and_true]
  exact h
def zpi (P : Int32 → zm_u → Prop) : Option zm_v → zm_u → Prop := fun r μ => ∃ v : Int32, r = some (.inl v) ∧ P v μ
def zpo (P : zm_u → Prop) : Option zm_v → zm_u → Prop := fun r μ => r = none ∧ P μ

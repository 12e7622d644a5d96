theorem zn_m1 : (-1 : Int32).toInt = -1 := by decide
theorem zn_m2 : (-2 : Int32).toInt = -2 := by decide
theorem zn_add {a b : Int32} (h1 : -2147483648 ≤ a.toInt + b.toInt) (h2 : a.toInt + b.toInt < 2147483648) : (a + b).toInt = a.toInt + b.toInt := by
  rw [Int32.toInt_add]
  exact Int.bmod_eq_of_le (by omega) (by omega)
theorem zn_sub {a b : Int32} (h1 : -2147483648 ≤ a.toInt - b.toInt) (h2 : a.toInt - b.toInt < 2147483648) : (a - b).toInt = a.toInt - b.toInt := by
  rw [Int32.toInt_sub]
  exact Int.bmod_eq_of_le (by omega) (by omega)
theorem zn_mul {a b : Int32} (h1 : -2147483648 ≤ a.toInt * b.toInt) (h2 : a.toInt * b.toInt < 2147483648) : (a * b).toInt = a.toInt * b.toInt := by
  rw [Int32.toInt_mul]
  exact Int.bmod_eq_of_le (by omega) (by omega)
theorem zn_lo (x : Int32) : -2147483648 ≤ x.toInt := Int32.le_toInt x
theorem zn_hi (x : Int32) : x.toInt < 2147483648 := Int32.toInt_lt x
theorem zn_cl (x : Int32) : x.toNatClampNeg = x.toInt.toNat := rfl
theorem zn_nat {x : Int32} (h : 0 ≤ x.toInt) : (x.toNatClampNeg : Int) = x.toInt := by rw [zn_cl]; omega
theorem zn_nI {x : Int32} (h : 0 ≤ x.toInt) : nI x.toNatClampNeg = x := by
  have h2 := zn_hi x
  rw [← Int32.toInt_inj, nI_toInt (by rw [zn_cl]; omega), zn_nat h]
theorem zI_at {X : zm_T} {d n : Nat} {as : List zm_v} {l : zm_L} {μ : zm_u} {P : Int32 → zm_u → Prop} (is : List Nat) (hd : 1 ≤ d) (hl : zm_pick (zm_args 0 as) is = l) (h : zV X (d - 1) n 0 l [] μ (zpi P)) : zI X d n as μ P := by
  obtain ⟨e, rfl⟩ : ∃ e, d = e + 1 := ⟨d - 1, by omega⟩
  exact zI_of is hl h
theorem zO_at {X : zm_T} {d n : Nat} {as : List zm_v} {l : zm_L} {μ : zm_u} {P : zm_u → Prop} (is : List Nat) (hd : 1 ≤ d) (hl : zm_pick (zm_args 0 as) is = l) (h : zV X (d - 1) n 0 l [] μ (zpo P)) : zO X d n as μ P := by
  obtain ⟨e, rfl⟩ : ∃ e, d = e + 1 := ⟨d - 1, by omega⟩
  exact zO_of is hl h

section TY
variable {X : zm_T} {d : Nat} {μ : zm_u} {x y k a b : Int32}
def ty_has (μ : zm_u) (x : Int32) : Prop := 0 ≤ x.toInt ∧ x.toInt < (μ 1 3).toInt
def ty_at (μ : zm_u) (i : Nat) (k a b : Int32) : Prop := μ 6 i = k ∧ μ 7 i = a ∧ μ 8 i = b

def ty_ok (μ : zm_u) : Prop := 0 ≤ (μ 1 3).toInt ∧ (μ 1 3).toInt ≤ 466
theorem c_count (hd : 1 ≤ d) : zI X d 14 [.inr 1] μ (fun r μ' => μ' = μ ∧ r = μ 1 3) := zI_at [0] hd rfl (k14_0 ⟨rfl, rfl⟩)
theorem c_has (hd : 1 ≤ d) : zI X d 15 [.inr 1, .inl x] μ (fun r μ' => μ' = μ ∧ (ty_has μ x ∧ r = 1 ∨ ¬ ty_has μ x ∧ r = 0)) := by
  refine zI_at [0, 1] hd rfl (k15_0 (fun h1 => ⟨rfl, Or.inr ⟨fun z => ?_, rfl⟩⟩) (fun h1 h2 => ⟨rfl, Or.inr ⟨fun z => ?_, rfl⟩⟩) (fun h1 h2 => ⟨rfl, Or.inl ⟨⟨?_, ?_⟩, rfl⟩⟩))
  · obtain ⟨z1, z2⟩ := z
    simp only [Int32.lt_iff_toInt_lt, Int32.le_iff_toInt_le, ← Int32.toInt_inj, Int32.reduceToInt, zn_m1, zn_m2] at *
    omega
  · obtain ⟨z1, z2⟩ := z
    simp only [Int32.lt_iff_toInt_lt, Int32.le_iff_toInt_le, ← Int32.toInt_inj, Int32.reduceToInt, zn_m1, zn_m2] at *
    omega
  · simp only [Int32.lt_iff_toInt_lt, Int32.le_iff_toInt_le, ← Int32.toInt_inj, Int32.reduceToInt, zn_m1, zn_m2] at *
    omega
  · simp only [Int32.lt_iff_toInt_lt, Int32.le_iff_toInt_le, ← Int32.toInt_inj, Int32.reduceToInt, zn_m1, zn_m2] at *
    omega
theorem zn_10 : ¬ (1 : Int32) = 0 := by decide
theorem c_kindOf (hd : 2 ≤ d) (hc : ty_ok μ) : zI X d 16 [.inr 1, .inl x] μ (fun r μ' => μ' = μ ∧ (ty_has μ x ∧ r = μ 6 x.toNatClampNeg ∨ ¬ ty_has μ x ∧ r = -1)) := by
  refine zI_at [0, 1] (by omega) rfl (k16_0 ⟨_, c_has (by omega), fun r μ1 h => ?_⟩)
  obtain ⟨rfl, ⟨h, rfl⟩ | ⟨h, rfl⟩⟩ := h
  · have hx := h
    obtain ⟨h1, h2⟩ := h
    obtain ⟨h3, h4⟩ := hc
    exact k16_5 (fun z => absurd z zn_10) (fun _ => by omega) (fun _ => ⟨rfl, Or.inl ⟨hx, rfl⟩⟩)
  · exact k16_5 (fun _ => ⟨rfl, Or.inr ⟨h, rfl⟩⟩) (fun z => absurd rfl z) (fun z => absurd rfl z)
theorem c_firstOf (hd : 2 ≤ d) (hc : ty_ok μ) : zI X d 17 [.inr 1, .inl x] μ (fun r μ' => μ' = μ ∧ (ty_has μ x ∧ r = μ 7 x.toNatClampNeg ∨ ¬ ty_has μ x ∧ r = -1)) := by
  refine zI_at [0, 1] (by omega) rfl (k17_0 ⟨_, c_has (by omega), fun r μ1 h => ?_⟩)
  obtain ⟨rfl, ⟨h, rfl⟩ | ⟨h, rfl⟩⟩ := h
  · have hx := h
    obtain ⟨h1, h2⟩ := h
    obtain ⟨h3, h4⟩ := hc
    exact k17_5 (fun z => absurd z zn_10) (fun _ => by omega) (fun _ => ⟨rfl, Or.inl ⟨hx, rfl⟩⟩)
  · exact k17_5 (fun _ => ⟨rfl, Or.inr ⟨h, rfl⟩⟩) (fun z => absurd rfl z) (fun z => absurd rfl z)
theorem c_secondOf (hd : 2 ≤ d) (hc : ty_ok μ) : zI X d 18 [.inr 1, .inl x] μ (fun r μ' => μ' = μ ∧ (ty_has μ x ∧ r = μ 8 x.toNatClampNeg ∨ ¬ ty_has μ x ∧ r = -1)) := by
  refine zI_at [0, 1] (by omega) rfl (k18_0 ⟨_, c_has (by omega), fun r μ1 h => ?_⟩)
  obtain ⟨rfl, ⟨h, rfl⟩ | ⟨h, rfl⟩⟩ := h
  · have hx := h
    obtain ⟨h1, h2⟩ := h
    obtain ⟨h3, h4⟩ := hc
    exact k18_5 (fun z => absurd z zn_10) (fun _ => by omega) (fun _ => ⟨rfl, Or.inl ⟨hx, rfl⟩⟩)
  · exact k18_5 (fun _ => ⟨rfl, Or.inr ⟨h, rfl⟩⟩) (fun z => absurd rfl z) (fun z => absurd rfl z)
theorem c_seek_loop {P : Int32 → zm_u → Prop} (hc : ty_ok μ) (hn : (∀ i : Nat, (i : Int) < (μ 1 3).toInt → ¬ ty_at μ i k a b) → P (-1) μ) (hy : ∀ i : Nat, (i : Int) < (μ 1 3).toInt → ty_at μ i k a b → (∀ j, j < i → ¬ ty_at μ j k a b) → P (nI i) μ) :
    ∀ (m i : Nat), (μ 1 3).toInt = (i : Int) + m → (∀ j, j < i → ¬ ty_at μ j k a b) → zV X d 22 3 [(0, .inr 1), (1, .inl k), (2, .inl a), (3, .inl b), (4, .inl (nI i))] [] μ (zpi P) := by
  intro m
  induction m with
  | zero =>
    intro i hi hb
    have hti : (nI i).toInt = i := nI_toInt (by have := zn_hi (μ 1 3); omega)
    have hle : μ 1 3 ≤ nI i := by
      rw [Int32.le_iff_toInt_le, hti]
      omega
    refine k22_3 (fun _ => hn (fun j hj => hb j (by omega))) (fun z => absurd hle z) (fun z => absurd hle z) (fun z => absurd hle z) (fun z => absurd hle z) (fun z => absurd hle z) (fun z => absurd hle z) (fun z => absurd hle z)
  | succ m ih =>
    intro i hi hb
    obtain ⟨hc1, hc2⟩ := hc
    have hlt : i < 2 ^ 31 := by have := zn_hi (μ 1 3); omega
    have hti : (nI i).toInt = i := nI_toInt hlt
    have hcl : (nI i).toNatClampNeg = i := nI_clamp hlt
    have hle : ¬ μ 1 3 ≤ nI i := by
      rw [Int32.le_iff_toInt_le, hti]
      omega
    have hin : 0 ≤ (nI i).toInt ∧ (nI i).toInt < ((466 : Nat) : Int) := by rw [hti]; omega
    have next : ¬ ty_at μ i k a b → zV X d 22 48 [(0, .inr 1), (1, .inl k), (2, .inl a), (3, .inl b), (4, .inl (nI i))] [] μ (zpi P) := by
      intro hne
      refine k22_48 ?_
      rw [nI_1]
      refine ih (i + 1) (by omega) (fun j hj => ?_)
      by_cases e : j = i
      · subst e; exact hne
      · exact hb j (by omega)
    refine k22_3 (fun z => absurd z hle) (fun _ => hin) (fun _ z => next ?_) (fun _ _ => hin) (fun _ _ z => next ?_) (fun _ _ _ => hin) (fun _ _ _ z => next ?_) (fun _ z1 z2 z3 => ?_)
    · rw [hcl] at z; exact fun q => z q.1
    · rw [hcl] at z; exact fun q => z q.2.1
    · rw [hcl] at z; exact fun q => z q.2.2
    · rw [hcl] at z1 z2 z3
      exact hy i (by omega) ⟨z1, z2, z3⟩ hb
theorem c_seek (hd : 1 ≤ d) (hc : ty_ok μ) : zI X d 22 [.inr 1, .inl k, .inl a, .inl b] μ (fun r μ' => μ' = μ ∧ ((r = -1 ∧ ∀ i : Nat, (i : Int) < (μ 1 3).toInt → ¬ ty_at μ i k a b) ∨ ∃ i : Nat, (i : Int) < (μ 1 3).toInt ∧ r = nI i ∧ ty_at μ i k a b ∧ ∀ j, j < i → ¬ ty_at μ j k a b)) := by
  refine zI_at [0, 1, 2, 3] hd rfl (k22_0 ?_)
  have h := c_seek_loop (X := X) (d := d - 1) (P := fun r μ' => μ' = μ ∧ ((r = -1 ∧ ∀ i : Nat, (i : Int) < (μ 1 3).toInt → ¬ ty_at μ i k a b) ∨ ∃ i : Nat, (i : Int) < (μ 1 3).toInt ∧ r = nI i ∧ ty_at μ i k a b ∧ ∀ j, j < i → ¬ ty_at μ j k a b)) hc (fun h => ⟨rfl, Or.inl ⟨rfl, h⟩⟩) (fun i h1 h2 h3 => ⟨rfl, Or.inr ⟨i, h1, rfl, h2, h3⟩⟩) (μ 1 3).toInt.toNat 0 (by have := hc.1; omega) (fun j hj => absurd hj (Nat.not_lt_zero j))
  exact h
end TY

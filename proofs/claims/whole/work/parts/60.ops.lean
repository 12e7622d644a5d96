def pt (k : Nat) : Nat := [0, 0, 0, 2, 2, 3, 2, 1, 1, 1, 1, 1, 1, 2, 3, 2, 1, 1].getD k 0
def pop6 (n : Nat) : Nat := n % 2 + n / 2 % 2 + n / 4 % 2 + n / 8 % 2 + n / 16 % 2 + n / 32 % 2
def ar (o a : Int32) : Nat := pt o.toInt.toNat + if o = 17 then pop6 a.toInt.toNat else 0
theorem pt_pt : ∀ k, k < 18 → zm_pt k = nI (pt k) := by decide +kernel
theorem pop6_le (n : Nat) : pop6 n ≤ 6 := by unfold pop6; omega
theorem pt_le : ∀ k, pt k ≤ 3 := by
  intro k
  by_cases h : k < 18
  · revert k h
    decide +kernel
  · unfold pt
    rw [List.getD_eq_getElem?_getD, List.getElem?_eq_none (by simp; omega)]
    simp
section OP
variable {X : zm_T} {d : Nat} {μ : zm_u} {o a x : Int32}
theorem c_bitCount (hd : 1 ≤ d) {n : Nat} (hn : n < 64) : zI X d 161 [.inl (nI n)] μ (fun r μ' => μ' = μ ∧ r = nI (pop6 n)) := by
  refine zI_at [0] hd rfl (k161_0 ⟨rfl, ?_⟩)
  revert n
  decide +kernel
theorem m_bits_step : ∀ n, n < 64 → ∀ k, k < 6 → (nI n >>> (nI k &&& 31)) &&& (1 : Int32) = nI (n / 2 ^ k % 2) := by decide +kernel
def popk (n : Nat) : Nat → Nat
  | 0 => 0
  | k + 1 => popk n k + n / 2 ^ k % 2
theorem popk6 (n : Nat) : popk n 6 = pop6 n := by
  simp [popk, pop6]
theorem m_bits_loop {n : Nat} (hn : n < 64) {P : Int32 → zm_u → Prop} (hP : P (nI (pop6 n)) μ) : ∀ (m k : Nat), k + m = 6 → zV X d 105 4 [(0, .inl (nI n)), (1, .inl (nI (popk n k))), (2, .inl (nI k))] [] μ (zpi P) := by
  intro m
  have e6 : (6 : Int32) = nI 6 := rfl
  induction m with
  | zero =>
    intro k hk
    have hk : k = 6 := by omega
    subst hk
    rw [popk6]
    exact k105_4 (fun _ => hP) (fun z => absurd (Int32.le_refl 6) z)
  | succ m ih =>
    intro k hk
    refine k105_4 (fun z => ?_) (fun _ => ?_)
    · rw [e6, nI_leI (by omega) (by omega)] at z
      omega
    · rw [m_bits_step n hn k (by omega), nI_add, nI_1]
      exact ih (k + 1) (by omega)
theorem m_bits (hd : 1 ≤ d) {n : Nat} (hn : n < 64) : zI X d 105 [.inl (nI n)] μ (fun r μ' => μ' = μ ∧ r = nI (pop6 n)) :=
  zI_at [0] hd rfl (k105_0 (m_bits_loop hn ⟨rfl, rfl⟩ 6 0 rfl))
theorem op_nat (h : 0 ≤ o.toInt ∧ o.toInt ≤ 17) : ∃ k, k < 18 ∧ o = nI k := ⟨o.toInt.toNat, by omega, zn_toN h.1⟩
theorem ar_17 {n : Nat} (hn : n < 64) : ar 17 (nI n) = 1 + pop6 n := by
  unfold ar
  rw [if_pos rfl, nI_t (by omega)]
  rfl
theorem ar_ne {k : Nat} (hk : k < 17) : ar (nI k) a = pt k := by
  unfold ar
  have e17 : (17 : Int32) = nI 17 := rfl
  rw [if_neg (by rw [e17, nI_inj (by omega) (by omega)]; omega), nI_t (by omega)]
  rfl
theorem c_partsOf (hd : 2 ≤ d) (ho : 0 ≤ o.toInt ∧ o.toInt ≤ 17) (ha : o = 17 → 0 ≤ a.toInt ∧ a.toInt < 64) : zI X d 12 [.inl o, .inl a] μ (fun r μ' => μ' = μ ∧ r = nI (ar o a)) := by
  have e17 : (17 : Int32).toInt = 17 := by decide
  have e0 : (0 : Int32).toInt = 0 := by decide
  refine zI_at [0, 1] (by omega) rfl (k12_0 (fun z => ?_) (fun _ _ _ => by omega) (fun _ _ z => ?_) (fun _ _ _ => by omega) (fun _ _ z => ?_) (fun _ z => ?_))
  · rw [Int32.lt_iff_toInt_lt, e0] at z
    omega
  · refine ⟨rfl, ?_⟩
    obtain ⟨k, hk, rfl⟩ := op_nat ho
    rw [nI_c (by omega), pt_pt k hk, ar_ne]
    have e17 : (17 : Int32) = nI 17 := rfl
    rw [e17, nI_inj (by omega) (by omega)] at z
    omega
  · subst z
    obtain ⟨h1, h2⟩ := ha rfl
    have hb := c_bitCount (X := X) (d := d - 1) (μ := μ) (by omega) (n := a.toInt.toNat) (by omega)
    rw [← zn_toN h1] at hb
    refine ⟨_, hb, fun r μ1 hr => ?_⟩
    obtain ⟨rfl, rfl⟩ := hr
    refine k12_27 ⟨rfl, ?_⟩
    have h3 := ar_17 (n := a.toInt.toNat) (by omega)
    rw [← zn_toN h1] at h3
    rw [h3, ← nI_add]
    rfl
  · rw [Int32.le_iff_toInt_le, e17] at z
    omega
theorem m_arity (hd : 2 ≤ d) (ho : 0 ≤ o.toInt ∧ o.toInt ≤ 17) (ha : o = 17 → 0 ≤ a.toInt ∧ a.toInt < 64) : zI X d 106 [.inl o, .inl a] μ (fun r μ' => μ' = μ ∧ r = nI (ar o a)) := by
  obtain ⟨k, hk, rfl⟩ := op_nat ho
  refine zI_at [0, 1] (by omega) rfl ?_
  match k, hk with
  | 0, _ => rw [ar_ne (by omega)]; apply k106_0 <;> intros <;> first | exact ⟨rfl, rfl⟩ | contradiction
  | 1, _ => rw [ar_ne (by omega)]; apply k106_0 <;> intros <;> first | exact ⟨rfl, rfl⟩ | contradiction
  | 2, _ => rw [ar_ne (by omega)]; apply k106_0 <;> intros <;> first | exact ⟨rfl, rfl⟩ | contradiction
  | 3, _ => rw [ar_ne (by omega)]; apply k106_0 <;> intros <;> first | exact ⟨rfl, rfl⟩ | contradiction
  | 4, _ => rw [ar_ne (by omega)]; apply k106_0 <;> intros <;> first | exact ⟨rfl, rfl⟩ | contradiction
  | 5, _ => rw [ar_ne (by omega)]; apply k106_0 <;> intros <;> first | exact ⟨rfl, rfl⟩ | contradiction
  | 6, _ => rw [ar_ne (by omega)]; apply k106_0 <;> intros <;> first | exact ⟨rfl, rfl⟩ | contradiction
  | 7, _ => rw [ar_ne (by omega)]; apply k106_0 <;> intros <;> first | exact ⟨rfl, rfl⟩ | contradiction
  | 8, _ => rw [ar_ne (by omega)]; apply k106_0 <;> intros <;> first | exact ⟨rfl, rfl⟩ | contradiction
  | 9, _ => rw [ar_ne (by omega)]; apply k106_0 <;> intros <;> first | exact ⟨rfl, rfl⟩ | contradiction
  | 10, _ => rw [ar_ne (by omega)]; apply k106_0 <;> intros <;> first | exact ⟨rfl, rfl⟩ | contradiction
  | 11, _ => rw [ar_ne (by omega)]; apply k106_0 <;> intros <;> first | exact ⟨rfl, rfl⟩ | contradiction
  | 12, _ => rw [ar_ne (by omega)]; apply k106_0 <;> intros <;> first | exact ⟨rfl, rfl⟩ | contradiction
  | 13, _ => rw [ar_ne (by omega)]; apply k106_0 <;> intros <;> first | exact ⟨rfl, rfl⟩ | contradiction
  | 14, _ => rw [ar_ne (by omega)]; apply k106_0 <;> intros <;> first | exact ⟨rfl, rfl⟩ | contradiction
  | 15, _ => rw [ar_ne (by omega)]; apply k106_0 <;> intros <;> first | exact ⟨rfl, rfl⟩ | contradiction
  | 16, _ => rw [ar_ne (by omega)]; apply k106_0 <;> intros <;> first | exact ⟨rfl, rfl⟩ | contradiction
  | 17, _ =>
    obtain ⟨h1, h2⟩ := ha rfl
    have hb := m_bits (X := X) (d := d - 1) (μ := μ) (by omega) (n := a.toInt.toNat) (by omega)
    rw [← zn_toN h1] at hb
    have h3 := ar_17 (n := a.toInt.toNat) (by omega)
    rw [← zn_toN h1] at h3
    apply k106_0 <;> intros <;> first
      | contradiction
      | exact ⟨_, hb, fun r μ1 hr => by
          obtain ⟨rfl, rfl⟩ := hr
          refine k106_95 ⟨rfl, ?_⟩
          rw [show ar (nI 17) a = 1 + pop6 a.toInt.toNat from h3, ← nI_add]
          rfl⟩
  | k + 18, h => exact absurd h (by omega)
theorem c_isMaker (hd : 1 ≤ d) : zI X d 13 [.inl x] μ (fun r μ' => μ' = μ ∧ (11 ≤ x.toInt ∧ x.toInt ≤ 16 ∧ r = 1 ∨ ¬ (11 ≤ x.toInt ∧ x.toInt ≤ 16) ∧ r = 0)) := by
  have e11 : (11 : Int32).toInt = 11 := by decide
  have e16 : (16 : Int32).toInt = 16 := by decide
  refine zI_at [0] hd rfl (k13_0 (fun z => ?_) (fun z1 z2 => ?_) (fun z1 z2 => ?_))
  · rw [Int32.lt_iff_toInt_lt, e11] at z
    exact ⟨rfl, Or.inr ⟨by omega, rfl⟩⟩
  · rw [Int32.lt_iff_toInt_lt, e16] at z2
    exact ⟨rfl, Or.inr ⟨by omega, rfl⟩⟩
  · rw [Int32.lt_iff_toInt_lt, e11] at z1
    rw [Int32.lt_iff_toInt_lt, e16] at z2
    exact ⟨rfl, Or.inl ⟨by omega, by omega, rfl⟩⟩
theorem c_isPlace (hd : 1 ≤ d) : zI X d 43 [.inl x] μ (fun r μ' => μ' = μ ∧ (0 ≤ x.toInt ∧ x.toInt < 560 ∧ r = 1 ∨ ¬ (0 ≤ x.toInt ∧ x.toInt < 560) ∧ r = 0)) := by
  have e11 : (0 : Int32).toInt = 0 := by decide
  have e16 : (560 : Int32).toInt = 560 := by decide
  refine zI_at [0] hd rfl (k43_0 (fun z => ?_) (fun z1 z2 => ?_) (fun z1 z2 => ?_))
  · rw [Int32.lt_iff_toInt_lt, e11] at z
    exact ⟨rfl, Or.inr ⟨by omega, rfl⟩⟩
  · rw [Int32.le_iff_toInt_le, e16] at z2
    exact ⟨rfl, Or.inr ⟨by omega, rfl⟩⟩
  · rw [Int32.lt_iff_toInt_lt, e11] at z1
    rw [Int32.le_iff_toInt_le, e16] at z2
    exact ⟨rfl, Or.inl ⟨by omega, by omega, rfl⟩⟩
theorem c_opOf (hd : 2 ≤ d) {q : Nat} (hq : q < 560) : zI X d 32 [.inr 2, .inl (nI q)] μ (fun r μ' => μ' = μ ∧ r = μ 9 q) := by
  refine zI_at [0, 1] (by omega) rfl (k32_0 ⟨_, c_isPlace (by omega), fun r μ1 hr => ?_⟩)
  rw [nI_t (by omega)] at hr
  obtain ⟨rfl, ⟨_, _, rfl⟩ | ⟨h, _⟩⟩ := hr
  · exact k32_4 (fun z => absurd z zn_10) (fun _ => by rw [nI_t (by omega)]; omega) (fun _ => ⟨rfl, by rw [nI_c (by omega)]⟩)
  · omega
theorem c_argumentOf (hd : 2 ≤ d) {q : Nat} (hq : q < 560) : zI X d 33 [.inr 2, .inl (nI q)] μ (fun r μ' => μ' = μ ∧ r = μ 10 q) := by
  refine zI_at [0, 1] (by omega) rfl (k33_0 ⟨_, c_isPlace (by omega), fun r μ1 hr => ?_⟩)
  rw [nI_t (by omega)] at hr
  obtain ⟨rfl, ⟨_, _, rfl⟩ | ⟨h, _⟩⟩ := hr
  · exact k33_4 (fun z => absurd z zn_10) (fun _ => by rw [nI_t (by omega)]; omega) (fun _ => ⟨rfl, by rw [nI_c (by omega)]⟩)
  · omega
theorem c_sizeOf (hd : 2 ≤ d) {q : Nat} (hq : q < 560) : zI X d 42 [.inr 2, .inl (nI q)] μ (fun r μ' => μ' = μ ∧ r = μ 11 q) := by
  refine zI_at [0, 1] (by omega) rfl (k42_0 ⟨_, c_isPlace (by omega), fun r μ1 hr => ?_⟩)
  rw [nI_t (by omega)] at hr
  obtain ⟨rfl, ⟨_, _, rfl⟩ | ⟨h, _⟩⟩ := hr
  · exact k42_4 (fun z => absurd z zn_10) (fun _ => by rw [nI_t (by omega)]; omega) (fun _ => ⟨rfl, by rw [nI_c (by omega)]⟩)
  · omega
end OP

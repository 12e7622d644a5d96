def Tl (R : Nat → Nat → Nat → Prop) : Nat → Nat → List Nat → Prop
  | _, _, [] => True
  | p, u, n :: r => R p u n ∧ Tl R (p + n) (u + n) r
def okop (L : Nat) (o a : Int32) : Prop := (0 ≤ o.toInt ∧ o.toInt ≤ 17) ∧ (o = 17 → 1 ≤ a.toInt ∧ a.toInt < 64) ∧ (o = 2 → 0 ≤ a.toInt ∧ a.toInt < 12) ∧ (o = 1 → a = 0 ∨ a = 1) ∧ (o = 10 → 0 ≤ a.toInt ∧ a.toInt < L)
def Tm (L : Nat) (μ : zm_u) : Nat → Nat → Nat → Nat → Prop
  | 0 => fun _ _ _ => False
  | d + 1 => fun p u n => (1 ≤ n ∧ u + n ≤ 560 ∧ p + n ≤ 560) ∧ μ 27 p = μ 9 (u + n - 1) ∧ μ 28 p = μ 10 (u + n - 1) ∧ μ 11 (u + n - 1) = nI n ∧ okop L (μ 9 (u + n - 1)) (μ 10 (u + n - 1)) ∧
      ∃ ns : List Nat, ns.length = ar (μ 9 (u + n - 1)) (μ 10 (u + n - 1)) ∧ n = 1 + ns.sum ∧ Tl (Tm L μ d) (p + 1) u ns
theorem Tl_imp {R R' : Nat → Nat → Nat → Prop} : ∀ (ns : List Nat) (p u : Nat), (∀ a b n, R a b n → R' a b n) → Tl R p u ns → Tl R' p u ns := by
  intro ns
  induction ns with
  | nil => intro p u _ _; trivial
  | cons n r ih =>
    intro p u h1 h2
    exact ⟨h1 _ _ _ h2.1, ih _ _ h1 h2.2⟩
theorem Tl_at {R : Nat → Nat → Nat → Prop} : ∀ (ns : List Nat) (p u i m : Nat), Tl R p u ns → ns[i]? = some m → R (p + (ns.take i).sum) (u + (ns.take i).sum) m := by
  intro ns
  induction ns with
  | nil => intro p u i m _ h; simp at h
  | cons n r ih =>
    intro p u i m h1 h2
    cases i with
    | zero =>
      simp at h2
      subst h2
      simpa using h1.1
    | succ i =>
      simp only [List.getElem?_cons_succ] at h2
      have h3 := ih (p + n) (u + n) i m h1.2 h2
      rw [List.take_succ_cons, List.sum_cons, ← Nat.add_assoc, ← Nat.add_assoc]
      exact h3
theorem tk_succ {ns : List Nat} {i m : Nat} (h : ns[i]? = some m) : (ns.take (i + 1)).sum = (ns.take i).sum + m := by
  rw [List.take_add_one, h]
  simp
theorem tk_le (ns : List Nat) (i : Nat) : (ns.take i).sum ≤ ns.sum := by
  have h := List.take_append_drop i ns
  have h2 : (ns.take i ++ ns.drop i).sum = ns.sum := by rw [h]
  rw [List.sum_append] at h2
  omega
theorem Tm_pos {L : Nat} {μ : zm_u} {d p u n : Nat} (h : Tm L μ d p u n) : 1 ≤ n ∧ u + n ≤ 560 ∧ p + n ≤ 560 := by
  cases d with
  | zero => exact h.elim
  | succ d => exact h.1
theorem Tm_up {L : Nat} {μ : zm_u} : ∀ (d p u n : Nat), Tm L μ d p u n → Tm L μ (d + 1) p u n := by
  intro d
  induction d with
  | zero => intro p u n h; exact h.elim
  | succ d ih =>
    intro p u n h
    obtain ⟨h1, h2, h3, h4, h5, ns, h6, h7, h8⟩ := h
    exact ⟨h1, h2, h3, h4, h5, ns, h6, h7, Tl_imp ns _ _ (fun a b n => ih a b n) h8⟩
theorem Tm_ge {L : Nat} {μ : zm_u} {d e p u n : Nat} (h : Tm L μ d p u n) (hd : d ≤ e) : Tm L μ e p u n := by
  induction hd with
  | refl => exact h
  | step _ ih => exact Tm_up _ _ _ _ ih
theorem okop_mono {L L' : Nat} {o a : Int32} (h : okop L o a) (hL : L ≤ L') : okop L' o a :=
  ⟨h.1, h.2.1, h.2.2.1, h.2.2.2.1, fun e => by have := h.2.2.2.2 e; omega⟩
theorem Tl_move {R R' : Nat → Nat → Nat → Prop} {p p' u u' : Nat} : ∀ (ns : List Nat) (s : Nat), (∀ s n, s + n ≤ s + n → R (p + s) (u + s) n → R' (p' + s) (u' + s) n) → Tl R (p + s) (u + s) ns → Tl R' (p' + s) (u' + s) ns := by
  intro ns
  induction ns with
  | nil => intro s _ _; trivial
  | cons n r ih =>
    intro s h1 h2
    refine ⟨h1 s n (Nat.le_refl _) h2.1, ?_⟩
    have h3 := ih (s + n) h1
    rw [← Nat.add_assoc, ← Nat.add_assoc, ← Nat.add_assoc, ← Nat.add_assoc] at h3
    exact h3 h2.2

theorem Tm_move {L L' : Nat} {μ μ' : zm_u} (hL : L ≤ L') : ∀ (d p u p' u' n : Nat), p' + n ≤ 560 → u' + n ≤ 560 → (∀ i, i < n → μ' 27 (p' + i) = μ 27 (p + i) ∧ μ' 28 (p' + i) = μ 28 (p + i)) → (∀ i, i < n → μ' 9 (u' + i) = μ 9 (u + i) ∧ μ' 10 (u' + i) = μ 10 (u + i) ∧ μ' 11 (u' + i) = μ 11 (u + i)) → Tm L μ d p u n → Tm L' μ' d p' u' n := by
  intro d
  induction d with
  | zero => intro p u p' u' n _ _ _ _ h; exact h.elim
  | succ d ih =>
    intro p u p' u' n hp hu hr hc h
    obtain ⟨⟨h1, h1a, h1b⟩, h2, h3, h4, h5, ns, h6, h7, h8⟩ := h
    have c1 := hc (n - 1) (by omega)
    rw [show u' + (n - 1) = u' + n - 1 by omega, show u + (n - 1) = u + n - 1 by omega] at c1
    have r1 := hr 0 (by omega)
    simp only [Nat.add_zero] at r1
    refine ⟨⟨h1, hu, hp⟩, ?_, ?_, ?_, ?_, ns, ?_, h7, ?_⟩
    · rw [r1.1, c1.1]; exact h2
    · rw [r1.2, c1.2.1]; exact h3
    · rw [c1.2.2]; exact h4
    · rw [c1.1, c1.2.1]; exact okop_mono h5 hL
    · rw [c1.1, c1.2.1]; exact h6
    ·
      have key : ∀ (ms : List Nat) (s : Nat), s + ms.sum + 1 ≤ n → Tl (Tm L μ d) (p + 1 + s) (u + s) ms → Tl (Tm L' μ' d) (p' + 1 + s) (u' + s) ms := by
        intro ms
        induction ms with
        | nil => intro s _ _; trivial
        | cons m r ih2 =>
          intro s hs h
          rw [List.sum_cons] at hs
          refine ⟨ih (p + 1 + s) (u + s) (p' + 1 + s) (u' + s) m (by omega) (by omega) (fun i hi => ?_) (fun i hi => ?_) h.1, ?_⟩
          · have := hr (1 + s + i) (by omega)
            rw [show p' + (1 + s + i) = p' + 1 + s + i by omega, show p + (1 + s + i) = p + 1 + s + i by omega] at this
            exact this
          · have := hc (s + i) (by omega)
            rw [show u' + (s + i) = u' + s + i by omega, show u + (s + i) = u + s + i by omega] at this
            exact this
          · have h3 := ih2 (s + m) (by omega) (by rw [show p + 1 + (s + m) = p + 1 + s + m by omega, show u + (s + m) = u + s + m by omega]; exact h.2)
            rw [show p' + 1 + (s + m) = p' + 1 + s + m by omega, show u' + (s + m) = u' + s + m by omega] at h3
            exact h3
      exact key ns 0 (by omega) h8
section TM
variable {X : zm_T} {d e : Nat} {μ : zm_u} {L : Nat}
theorem okop_ar {o a : Int32} (h : okop L o a) : (0 ≤ o.toInt ∧ o.toInt ≤ 17) ∧ (o = 17 → 0 ≤ a.toInt ∧ a.toInt < 64) := ⟨h.1, fun e => by have := h.2.1 e; omega⟩
theorem ar_le (o a : Int32) : ar o a ≤ 9 := by
  unfold ar
  have h1 := pt_le o.toInt.toNat
  have h2 := pop6_le a.toInt.toNat
  split <;> omega

theorem c_part (hd : 4 ≤ d) {p u n k m : Nat} {ns : List Nat} (hu : 1 ≤ n ∧ u + n ≤ 560) (hns : ns.length = ar (μ 9 (u + n - 1)) (μ 10 (u + n - 1))) (hok : okop L (μ 9 (u + n - 1)) (μ 10 (u + n - 1))) (hn : n = 1 + ns.sum) (ht : Tl (Tm L μ e) p u ns) (hk : ns[k]? = some m) :
    zI X d 34 [.inr 2, .inl (nI (u + n - 1)), .inl (nI k)] μ (fun r μ' => μ' = μ ∧ r = nI (u + (ns.take k).sum + m - 1)) := by
  have hkl : k < ns.length := (List.getElem?_eq_some_iff.mp hk).1
  have har := ar_le (μ 9 (u + n - 1)) (μ 10 (u + n - 1))
  have loop : ∀ (j i : Nat), i = k + j → i < ns.length → zV X (d - 1) 34 21 [(0, .inr 2), (2, .inl (nI k)), (3, .inl (nI (u + (ns.take (i + 1)).sum - 1))), (4, .inl (nI i))] [] μ (zpi (fun r μ' => μ' = μ ∧ r = nI (u + (ns.take k).sum + m - 1))) := by
    intro j
    induction j with
    | zero =>
      intro i hi hil
      subst hi
      refine k34_21 (fun _ => ⟨rfl, ?_⟩) (fun z => absurd (Int32.le_refl _) z)
      rw [Nat.add_zero, tk_succ hk, Nat.add_assoc]
    | succ j ih =>
      intro i hi hil
      have hm := List.getElem?_eq_getElem hil
      generalize ns[i] = mi at hm
      have hT := Tl_at ns p u i mi ht hm
      have hpos := Tm_pos hT
      have hle := tk_le ns (i + 1)
      have hsum := tk_succ hm
      have hS : μ 11 (u + (ns.take (i + 1)).sum - 1) = nI mi := by
        cases e with
        | zero => exact hT.elim
        | succ e =>
          have := hT.2.2.2.1
          rw [hsum, ← Nat.add_assoc]
          exact this
      refine k34_21 (fun z => ?_) (fun _ => ⟨_, c_sizeOf (by omega) (by omega), fun r μ1 hr => ?_⟩)
      · rw [nI_leI (by omega) (by omega)] at z
        omega
      · obtain ⟨rfl, rfl⟩ := hr
        rw [hS]
        refine k34_33 ?_
        have e1 : nI (u + (ns.take (i + 1)).sum - 1) - nI mi = nI (u + (ns.take i).sum - 1 + 0) ∨ True := Or.inr trivial
        obtain ⟨i', rfl⟩ : ∃ i', i = i' + 1 := ⟨i - 1, by omega⟩
        have h1 : 1 ≤ u + (ns.take (i' + 1)).sum := by
          have hm2 := List.getElem?_eq_getElem (show i' < ns.length by omega)
          generalize ns[i'] = m2 at hm2
          have := (Tm_pos (Tl_at ns p u i' m2 ht hm2)).1
          rw [tk_succ hm2]
          omega
        have e2 : nI (u + (ns.take (i' + 1 + 1)).sum - 1) - nI mi = nI (u + (ns.take (i' + 1)).sum - 1) := by
          rw [hsum, show u + ((ns.take (i' + 1)).sum + mi) - 1 = (u + (ns.take (i' + 1)).sum - 1) + mi by omega, ← nI_add, Int32.add_sub_cancel]
        have e3 : nI (i' + 1) + (-1) = nI i' := by
          rw [← nI_1, Int32.add_assoc]
          show nI i' + (1 + -1) = nI i'
          rw [show (1 : Int32) + -1 = 0 by decide, Int32.add_zero]
        rw [e2, e3]
        exact ih i' (by omega) (by omega)
  have hq : u + n - 1 < 560 := by omega
  refine zI_at [0, 1, 2] (by omega) rfl (k34_0 ⟨_, c_opOf (by omega) hq, fun r μ1 hr => ?_⟩)
  obtain ⟨rfl, rfl⟩ := hr
  refine k34_9 ⟨_, c_argumentOf (by omega) hq, fun r μ2 hr => ?_⟩
  obtain ⟨rfl, rfl⟩ := hr
  refine k34_14 ⟨_, c_partsOf (by omega) (okop_ar hok).1 (okop_ar hok).2, fun r μ3 hr => ?_⟩
  obtain ⟨rfl, rfl⟩ := hr
  refine k34_17 ?_
  rw [← hns]
  obtain ⟨l, hl⟩ : ∃ l, ns.length = l + 1 := ⟨ns.length - 1, by omega⟩
  have h1 := loop (l - k) l (by omega) (by omega)
  rw [show (ns.take (l + 1)) = ns by rw [← hl]; exact List.take_length] at h1
  rw [hl, nI_pr, show nI (u + n - 1) - 1 = nI (u + ns.sum - 1) by rw [show u + n - 1 = (u + ns.sum - 1) + 1 by
    have hm2 := List.getElem?_eq_getElem (show k < ns.length by omega)
    generalize ns[k] = m2 at hm2
    have h3 := (Tm_pos (Tl_at ns p u k m2 ht hm2)).1
    have h4 := tk_succ hm2
    have h5 := tk_le ns (k + 1)
    omega, nI_pr]]
  exact h1
end TM

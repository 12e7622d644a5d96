section TM2
variable {X : zm_T} {d e : Nat} {μ : zm_u} {L : Nat}
theorem nI_need (m k : Nat) : nI (m + 1) + (nI k - 1) = nI (m + k) := by
  rw [← nI_1, Int32.add_assoc, Int32.add_comm 1, Int32.sub_add_cancel, nI_add]

theorem m_behind_run {P : Int32 → zm_u → Prop} (hd : 2 ≤ d) : ∀ (e p u n m : Nat), m + 10 * e < 100000 → Tm L μ e p u n → zV X d 114 4 [(0, .inr 22), (2, .inl (nI m)), (3, .inl (nI (p + n)))] [] μ (zpi P) → zV X d 114 4 [(0, .inr 22), (2, .inl (nI (m + 1))), (3, .inl (nI p))] [] μ (zpi P) := by
  intro e
  induction e with
  | zero => intro p u n m _ h _; exact h.elim
  | succ e ih =>
    intro p u n m hm h hV
    obtain ⟨⟨h1, h1a, h1b⟩, h2, h3, h4, h5, ns, h6, h7, h8⟩ := h
    have har := ar_le (μ 9 (u + n - 1)) (μ 10 (u + n - 1))
    have hp : (nI p).toInt = p := nI_t (by omega)
    have hnz : ¬ nI (m + 1) ≤ 0 := nI_nle (by omega) (by omega)
    have rows : ∀ (ms : List Nat) (q v m : Nat), m + ms.length + 10 * e < 100000 → Tl (Tm L μ e) q v ms → zV X d 114 4 [(0, .inr 22), (2, .inl (nI m)), (3, .inl (nI (q + ms.sum)))] [] μ (zpi P) → zV X d 114 4 [(0, .inr 22), (2, .inl (nI (m + ms.length))), (3, .inl (nI q))] [] μ (zpi P) := by
      intro ms
      induction ms with
      | nil => intro q v m _ _ h; simpa using h
      | cons a r ih2 =>
        intro q v m hm2 ht hV2
        simp only [List.length_cons] at hm2
        have hV3 := ih2 (q + a) (v + a) m (by omega) ht.2 (by rw [List.sum_cons, ← Nat.add_assoc] at hV2; exact hV2)
        exact ih q v a (m + r.length) (by omega) ht.1 hV3
    refine k114_4 (fun z => absurd z hnz) (fun _ => by rw [hp]; omega) (fun _ => by rw [hp]; omega) (fun _ => ?_)
    rw [nI_c (by omega), h2, h3]
    refine ⟨_, m_arity (by omega) (okop_ar h5).1 (okop_ar h5).2, fun r μ1 hr => ?_⟩
    obtain ⟨rfl, rfl⟩ := hr
    refine k114_24 ?_
    rw [nI_need, nI_1, ← h6]
    refine rows ns (p + 1) u m (by omega) h8 ?_
    rw [show p + 1 + ns.sum = p + n by omega]
    exact hV
theorem m_behind (hd : 3 ≤ d) {e p u n : Nat} (he : e < 100) (h : Tm L μ e p u n) : zI X d 114 [.inr 22, .inl (nI p)] μ (fun r μ' => μ' = μ ∧ r = nI (p + n)) := by
  refine zI_at [0, 1] (by omega) rfl (k114_0 (m_behind_run (by omega) e p u n 0 (by omega) h ?_))
  exact k114_4 (fun _ => ⟨rfl, rfl⟩) (fun z => absurd (Int32.le_refl 0) z) (fun z => absurd (Int32.le_refl 0) z) (fun z => absurd (Int32.le_refl 0) z)

theorem m_part (hd : 4 ≤ d) {p u k m : Nat} {ns : List Nat} (he : e < 100) (hp : p + 1 + ns.sum ≤ 560) (hl : ns.length < 100) (ht : Tl (Tm L μ e) (p + 1) u ns) (hk : k ≤ ns.length) :
    zI X d 115 [.inr 22, .inl (nI p), .inl (nI k)] μ (fun r μ' => μ' = μ ∧ r = nI (p + 1 + (ns.take k).sum)) := by
  have loop : ∀ (j i : Nat), i + j = k → zV X (d - 1) 115 7 [(0, .inr 22), (2, .inl (nI k)), (3, .inl (nI (p + 1 + (ns.take i).sum))), (4, .inl (nI i))] [] μ (zpi (fun r μ' => μ' = μ ∧ r = nI (p + 1 + (ns.take k).sum))) := by
    intro j
    induction j with
    | zero =>
      intro i hi
      have hi : i = k := by omega
      subst hi
      exact k115_7 (fun _ => ⟨rfl, rfl⟩) (fun z => absurd (Int32.le_refl _) z)
    | succ j ih =>
      intro i hi
      have hm := List.getElem?_eq_getElem (show i < ns.length by omega)
      generalize ns[i] = mi at hm
      have hT := Tl_at ns (p + 1) u i mi ht hm
      refine k115_7 (fun z => ?_) (fun _ => ⟨_, m_behind (by omega) he hT, fun r μ1 hr => ?_⟩)
      · rw [nI_leI (by omega) (by omega)] at z
        omega
      · obtain ⟨rfl, rfl⟩ := hr
        refine k115_18 ?_
        rw [nI_1, Nat.add_assoc (p + 1), ← tk_succ hm]
        exact ih (i + 1) (by omega)
  refine zI_at [0, 1, 2] (by omega) rfl (k115_0 ?_)
  rw [nI_1]
  exact loop k 0 (by omega)
end TM2

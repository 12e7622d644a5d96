section EK
variable {X : zm_T} {d L : Nat} {μ μ' μ0 μ1 : zm_u} {vs vs' : List vE} {s b t B f i w p : Nat} {E : Nat → Nat} {num o x : Int32} {ps : List Nat}
theorem RE_row {c j : Nat} (hc : c = 52 ∨ c = 53 ∨ c = 54 ∨ c = 55 ∨ c = 56) (h : RE μ vs s b t B E f) : RE (zm_up μ c j x) vs s b t B E f := by
  obtain ⟨⟨h1, h1'⟩, h2, h3, h4, h5, h6, h7, h8, h9⟩ := h
  refine ⟨⟨?_, fun i w num ps hi => ?_⟩, ?_, ?_, ?_, ?_, fun i hi => ?_, ?_, ?_, ?_⟩
  · rw [zm_up_row (by omega)]; exact h1
  · rw [zm_up_row (by omega), zm_up_row (by omega), zm_up_row (by omega)]; exact h1' i w num ps hi
  · rw [zm_up_row (by omega)]; exact h2
  · rw [zm_up_row (by omega)]; exact h3
  · rw [zm_up_row (by omega)]; exact h4
  · rw [zm_up_row (by omega)]; exact h5
  · rw [zm_up_row (by omega)]; exact h6 i hi
  · rw [zm_up_row (by omega)]; exact h7
  · rw [zm_up_row (by omega)]; exact h8
  · rw [zm_up_row (by omega)]; exact h9
theorem RFr_row {c j : Nat} (hc : c = 52 ∨ c = 53 ∨ c = 54 ∨ c = 55 ∨ c = 57 ∨ c = 49 ∨ c = 50 ∨ c = 51) (hj : f ≤ j ∨ 57 = c ∨ c < 52) : RFr f μ (zm_up μ c j x) := by
  refine ⟨fun i hi => ?_, fun i hi => ?_, fun q hq => zm_up_row (by omega), fun i _ _ _ _ _ _ _ _ _ => by rw [zm_up_row (by omega)]⟩
  · simp only [zm_up_at]
    rw [if_neg (by omega), if_neg (by omega), if_neg (by omega), if_neg (by omega)]
    exact ⟨rfl, rfl, rfl, rfl⟩
  · rw [zm_up_row (by omega)]
theorem RFr_56 {j : Nat} (hj : 3 * f ≤ j) : RFr f μ (zm_up μ 56 j x) := by
  refine ⟨fun i hi => ?_, fun i hi => ?_, fun q hq => zm_up_row (by omega), fun i _ _ _ _ _ _ _ _ _ => by rw [zm_up_row (by omega)]⟩
  · rw [zm_up_row (by decide), zm_up_row (by decide), zm_up_row (by decide), zm_up_row (by decide)]
    exact ⟨rfl, rfl, rfl, rfl⟩
  · rw [zm_up_at, if_neg (by omega)]
theorem RFr_22 {j : Nat} (hj : j = 27 ∨ j = 37 ∨ j = 43 ∨ j = 50 ∨ j = 51 ∨ j = 52 ∨ j = 53 ∨ j = 54 ∨ j = 55) : RFr f μ (zm_up μ 22 j x) := by
  refine ⟨fun i hi => ?_, fun i hi => ?_, fun q hq => zm_up_row (by omega), fun i a1 a2 a3 a4 a5 a6 a7 a8 a9 => ?_⟩
  · rw [zm_up_row (by decide), zm_up_row (by decide), zm_up_row (by decide), zm_up_row (by decide)]
    exact ⟨rfl, rfl, rfl, rfl⟩
  · rw [zm_up_row (by decide)]
  · rw [zm_up_at, if_neg (by omega)]
theorem st_keep (h : RE μ vs s b t B E f) : RE (st_mem μ p f s B t) vs (s + 1) b t B E (f + 1) ∧ FD (st_mem μ p f s B t) f p 0 B t ∧ RFr f μ (st_mem μ p f s B t) := by
  refine ⟨?_, ?_, ?_⟩
  · obtain ⟨⟨h1, h1'⟩, h2, h3, h4, h5, h6, h7, h8, h9⟩ := h
    unfold st_mem
    refine ⟨⟨?_, fun i w num ps hi => ?_⟩, ?_, ?_, ?_, ?_, fun i hi => ?_, ?_, ?_, ?_⟩
    · simp only [zm_up_at]; simp; exact h1
    · simp only [zm_up_at]; simp; exact h1' i w num ps hi
    · simp only [zm_up_at]; simp
    · simp only [zm_up_at]; simp; exact h3
    · simp only [zm_up_at]; simp; exact h4
    · simp only [zm_up_at]; simp; exact h5
    · simp only [zm_up_at]; simp; exact h6 i hi
    · simp only [zm_up_at]; simp
    · simp only [zm_up_at]; simp; exact h8
    · simp only [zm_up_at]; simp; exact h9
  · unfold st_mem FD
    simp only [zm_up_at]
    simp
    rfl
  · unfold st_mem
    exact RFr_tr (RFr_tr (RFr_tr (RFr_tr (RFr_tr (RFr_22 (by omega)) (RFr_row (by omega) (by omega))) (RFr_row (by omega) (by omega))) (RFr_row (by omega) (by omega))) (RFr_row (by omega) (by omega))) (RFr_22 (by omega))
theorem gv_keep {t' B' b' : Nat} {E' : Nat → Nat} {v : Nat} (h : RE μ vs s b' t' B' E' (f + 1)) (hE : ∀ i, i < t → μ 57 i = nI (E i)) : RE (gv_mem μ (nI v) f B t) vs s b' t B E f ∧ gv_mem μ (nI v) f B t 22 53 = nI v ∧ RFr f μ (gv_mem μ (nI v) f B t) := by
  refine ⟨?_, ?_, ?_⟩
  · obtain ⟨⟨h1, h1'⟩, h2, h3, h4, h5, h6, h7, h8, h9⟩ := h
    unfold gv_mem
    refine ⟨⟨?_, fun i w num ps hi => ?_⟩, ?_, ?_, ?_, ?_, fun i hi => ?_, ?_, ?_, ?_⟩
    · simp only [zm_up_at]; simp; exact h1
    · simp only [zm_up_at]; simp; exact h1' i w num ps hi
    · simp only [zm_up_at]; simp; exact h2
    · simp only [zm_up_at]; simp; exact h3
    · simp only [zm_up_at]; simp
    · simp only [zm_up_at]; simp
    · simp only [zm_up_at]; simp; exact hE i hi
    · simp only [zm_up_at]; simp
    · simp only [zm_up_at]; simp; exact h8
    · simp only [zm_up_at]; simp; exact h9
  · unfold gv_mem
    simp only [zm_up_at]
    simp
  · unfold gv_mem
    exact RFr_tr (RFr_tr (RFr_tr (RFr_22 (by omega)) (RFr_22 (by omega))) (RFr_22 (by omega))) (RFr_22 (by omega))
theorem rv_keep {g : Nat} {a c e : Int32} (h : RE μ vs s b t B E g) (ha : a = gp ps 0) (hc : c = gp ps 1) (he : e = gp ps 2) : RE (rv_put μ vs.length w num a c e) (vs ++ [(w, num, ps)]) s b t B E g ∧ RFr f μ (rv_put μ vs.length w num a c e) := by
  refine ⟨?_, ?_⟩
  · obtain ⟨h1, h2, h3, h4, h5, h6, h7, h8, h9⟩ := h
    refine ⟨RV_put h1 ha hc he, ?_, ?_, ?_, ?_, fun i hi => ?_, ?_, ?_, ?_⟩
    · rw [rv_22]; simp [upd]; exact h2
    · rw [rv_22]; simp [upd]; exact h3
    · rw [rv_22]; simp [upd]; exact h4
    · rw [rv_22]; simp [upd]; exact h5
    · rw [rv_row (by decide) (by decide) (by decide) (by decide)]; exact h6 i hi
    · rw [rv_22]; simp [upd]; exact h7
    · rw [rv_22]; simp [upd]; exact h8
    · rw [rv_22]; simp [upd]; exact h9
  · unfold rv_put
    exact RFr_tr (RFr_tr (RFr_tr (RFr_tr (RFr_tr (RFr_row (by omega) (by omega)) (RFr_row (by omega) (by omega))) (RFr_row (by omega) (by omega))) (RFr_row (by omega) (by omega))) (RFr_row (by omega) (by omega))) (RFr_22 (by omega))

theorem ro_new {a c e : Int32} (h : RE μ vs s b t B E (f + 1)) (ha : a = gp ps 0) (hc : c = gp ps 1) (he : e = gp ps 2) : RO (gv_mem (rv_put μ vs.length w num a c e) (nI vs.length) f B t) (nI vs.length) (vs ++ [(w, num, ps)]) s b t B E f ∧ RFr f μ (gv_mem (rv_put μ vs.length w num a c e) (nI vs.length) f B t) := by
  obtain ⟨h1, h2⟩ := rv_keep (f := f) h ha hc he (w := w) (num := num)
  obtain ⟨h3, h4, h5⟩ := gv_keep (B := B) (t := t) (E := E) (v := vs.length) h1 h1.2.2.2.2.2.1
  exact ⟨Or.inl ⟨vs.length, by simp, rfl, h3, h4⟩, RFr_tr h2 h5⟩

theorem ro_old {v : Nat} (h : RE μ vs s b t B E (f + 1)) (hv : v < vs.length) : RO (gv_mem μ (nI v) f B t) (nI v) vs s b t B E f ∧ RFr f μ (gv_mem μ (nI v) f B t) := by
  obtain ⟨h3, h4, h5⟩ := gv_keep (B := B) (t := t) (E := E) (v := v) h h.2.2.2.2.2.1
  exact ⟨Or.inl ⟨v, hv, rfl, h3, h4⟩, h5⟩
theorem VW_add (h : VW vs) (hw : wok w) (hn : w ≠ 1000 → num = 0) (hl : ps.length = vpn w) (hp : ∀ j ∈ ps, j < vs.length) : VW (vs ++ [(w, num, ps)]) := by
  intro i w' num' ps' hi
  by_cases e : i = vs.length
  · subst e
    rw [List.getElem?_append_right (Nat.le_refl _), Nat.sub_self] at hi
    simp only [List.getElem?_cons_zero, Option.some.injEq, Prod.mk.injEq] at hi
    obtain ⟨rfl, rfl, rfl⟩ := hi
    exact ⟨hw, hn, hl, hp⟩
  · have hlt : i < vs.length := by
      have := (List.getElem?_eq_some_iff.mp hi).1
      simp at this
      omega
    rw [List.getElem?_append_left hlt] at hi
    exact h i w' num' ps' hi
theorem EPost_new (hw : wok w) (hn : w ≠ 1000 → num = 0) (hl : ps.length = vpn w) (hp : ∀ j ∈ ps, j < vs.length) (hs : 1 ≤ s) (hvs : VW vs) (h6 : s ≤ 600) : EPost vs (s - 1) (nI vs.length) (vs ++ [(w, num, ps)]) s :=
  ⟨⟨_, rfl⟩, VW_add hvs hw hn hl hp, by simp; omega, by omega, h6, Or.inl ⟨vs.length, by simp, rfl⟩⟩
end EK

abbrev sT : Type := List (Nat × Nat)
def su (st : sT) : Nat := (st.map (·.1)).sum
def md (st : sT) : Nat := (st.map (·.2)).foldr max 0
theorem su_td (st : sT) (i : Nat) : su (st.take i) + su (st.drop i) = su st := by
  unfold su
  rw [← List.sum_append, ← List.map_append, List.take_append_drop]
theorem su_tk {st : sT} {i n e : Nat} (h : st[i]? = some (n, e)) : su (st.take (i + 1)) = su (st.take i) + n := by
  unfold su
  rw [List.take_add_one, h]
  simp
theorem dr_cons {st : sT} {i n e : Nat} (h : st[i]? = some (n, e)) : st.drop i = (n, e) :: st.drop (i + 1) := by
  obtain ⟨hl, h⟩ := List.getElem?_eq_some_iff.mp h
  rw [List.drop_eq_getElem_cons hl, h]
theorem su_dr {st : sT} {i n e : Nat} (h : st[i]? = some (n, e)) : su (st.drop i) = n + su (st.drop (i + 1)) := by
  rw [dr_cons h]
  simp [su]
theorem md_dr {st : sT} {i n e : Nat} (h : st[i]? = some (n, e)) : md (st.drop i) = max e (md (st.drop (i + 1))) := by
  rw [dr_cons h]
  simp [md]
theorem su_40 : ∀ (st : sT), (∀ (i n e : Nat), st[i]? = some (n, e) → n ≤ 40) → su st ≤ 40 * st.length := by
  intro st
  induction st with
  | nil => intro _; simp [su]
  | cons q r ih =>
    intro h
    have h1 := h 0 q.1 q.2 (by simp)
    have h2 := ih (fun i n e hi => h (i + 1) n e (by simpa using hi))
    simp only [su, List.map_cons, List.sum_cons, List.length_cons] at *
    omega
theorem st_at {st : sT} {i : Nat} (h : i < st.length) : ∃ n e, st[i]? = some (n, e) := ⟨_, _, List.getElem?_eq_getElem h⟩
def CS (μ : zm_u) (st : sT) : Prop := st.length ≤ 12 ∧ μ 2 4 = nI (su st) ∧ μ 2 5 = nI st.length ∧ ∀ (i n e : Nat), st[i]? = some (n, e) → (1 ≤ n ∧ n ≤ 40 ∧ e ≤ 6) ∧ μ 11 (su (st.take i) + n - 1) = nI n ∧ μ 12 i = nI e
noncomputable def s_make (L : Nat) (st : sT) (o a : Int32) : Int32 × sT := @ite _ (okop L o a ∧ ar o a ≤ st.length) (Classical.propDecidable _)
    (if 12 ≤ st.length - ar o a ∨ 40 < 1 + su (st.drop (st.length - ar o a)) ∨ 6 < 1 + md (st.drop (st.length - ar o a)) then (-2, st)
    else (nI (1 + su (st.drop (st.length - ar o a))), st.take (st.length - ar o a) ++ [(1 + su (st.drop (st.length - ar o a)), 1 + md (st.drop (st.length - ar o a)))]))
  (-1, st)
section ST
variable {X : zm_T} {d L : Nat} {μ : zm_u} {o a x : Int32} {st : sT}
theorem CS_su (h : CS μ st) : su st ≤ 480 := by
  have h1 := su_40 st (fun i n e hi => (h.2.2.2 i n e hi).1.2.1)
  have h2 := h.1
  omega
theorem c_deepest (hd : 1 ≤ d) (h : CS μ st) {k : Nat} (hk : k ≤ st.length) : zI X d 37 [.inr 2, .inl (nI k)] μ (fun r μ' => μ' = μ ∧ r = nI (md (st.drop (st.length - k)))) := by
  obtain ⟨h1, h2, h3, h4⟩ := h
  have mdle : ∀ i, md (st.drop i) ≤ 6 := by
    intro i
    by_cases hi : i ≤ st.length
    · obtain ⟨j, hj⟩ : ∃ j, j + i = st.length := ⟨st.length - i, by omega⟩
      clear hi
      induction j generalizing i with
      | zero =>
        rw [List.drop_eq_nil_of_le (by omega)]
        exact Nat.zero_le _
      | succ j ih =>
        obtain ⟨n, e, he⟩ := st_at (st := st) (i := i) (by omega)
        rw [md_dr he]
        have := ih (i + 1) (by omega)
        have := (h4 i n e he).1.2.2
        omega
    · rw [List.drop_eq_nil_of_le (by omega)]
      exact Nat.zero_le _
  have loop : ∀ (j i w : Nat), j + i = st.length → w ≤ 6 → zV X (d - 1) 37 13 [(0, .inr 2), (2, .inl (nI w)), (3, .inl (nI i))] [] μ (zpi (fun r μ' => μ' = μ ∧ r = nI (max w (md (st.drop i))))) := by
    intro j
    induction j with
    | zero =>
      intro i w hi hw
      have hle : μ 2 5 ≤ nI i := by rw [h3]; exact nI_le (by omega) (by omega)
      refine k37_13 (fun _ => ⟨rfl, ?_⟩) (fun z => absurd hle z) (fun z => absurd hle z)
      rw [List.drop_eq_nil_of_le (by omega)]
      simp [md]
    | succ j ih =>
      intro i w hi hw
      have hle : ¬ μ 2 5 ≤ nI i := by rw [h3]; exact nI_ge (by omega) (by omega)
      obtain ⟨n, e, he⟩ := st_at (st := st) (i := i) (by omega)
      obtain ⟨⟨_, _, h5⟩, _, h6⟩ := h4 i n e he
      refine k37_13 (fun z => absurd z hle) (fun _ => by rw [nI_t (by omega)]; omega) (fun _ => ?_)
      rw [nI_c (by omega), h6, nI_max (by omega) (by omega), nI_1]
      have h7 := ih (i + 1) (max w e) (by omega) (by omega)
      rw [Nat.max_assoc, ← md_dr he] at h7
      exact h7
  refine zI_at [0, 1] hd rfl (k37_0 ?_)
  have e1 : μ 2 5 - nI k = nI (st.length - k) := by
    rw [h3]
    have := nI_add (st.length - k) k
    rw [show st.length - k + k = st.length by omega] at this
    rw [← this, Int32.add_sub_cancel]
  rw [e1]
  have e2 := nI_max (a := 0) (b := st.length - k) (by omega) (by omega)
  rw [Nat.zero_max] at e2
  rw [show (cond (decide ((0 : Int32) < nI (st.length - k))) (nI (st.length - k)) (0 : Int32)) = nI (st.length - k) from e2]
  have h8 := loop k (st.length - k) 0 (by omega) (by omega)
  rw [Nat.zero_max] at h8
  exact h8
end ST

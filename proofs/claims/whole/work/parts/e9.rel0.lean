theorem zi_2_row {c : Nat} (h1 : c ≠ 22) (h2 : c < 23 ∨ 26 < c) (h3 : c ≠ 29) (h4 : c ≠ 30) : zi_2 c = zi_0 c := by
  unfold zi_2 zk_m
  rw [zm_up_row h4, zm_up_row h3, zm_up_row h4, zm_up_row h3, zm_up_row h1, mt_put_row h1 (by omega) (by omega) (by omega) (by omega), mt_put_row h1 (by omega) (by omega) (by omega) (by omega)]
theorem zi_tm (p : Nat) (hp : p = 480 ∨ p = 520) : Tm 2 zi_2 1 p p 1 := by
  have h9 : zi_2 9 p = 0 := by rcases hp with rfl | rfl <;> decide +kernel
  have h10 : zi_2 10 p = 0 := by rcases hp with rfl | rfl <;> decide +kernel
  have h27 : zi_2 27 p = 0 := by rcases hp with rfl | rfl <;> decide +kernel
  have h28 : zi_2 28 p = 0 := by rcases hp with rfl | rfl <;> decide +kernel
  have h11 : zi_2 11 p = nI 1 := by rcases hp with rfl | rfl <;> decide +kernel
  refine ⟨⟨by omega, by omega, by omega⟩, ?_⟩
  rw [show p + 1 - 1 = p by omega, h9, h10, h27, h28, h11]
  refine ⟨rfl, rfl, rfl, ?_, [], ?_, rfl, trivial⟩
  · unfold okop
    decide +kernel
  · decide +kernel
theorem Rel_0 : Rel zi_2 := by
  refine ⟨[(0, 0, 0), (1, 0, 0)], [], 0, 0, Tok_0, ⟨by decide +kernel, ?_⟩, ⟨by decide +kernel, ?_⟩, ⟨⟨by decide, by decide +kernel, by decide +kernel, fun i n e h => by simp at h⟩, ⟨by decide, by decide +kernel, fun i n e h => by simp at h⟩, fun i n e h => by simp at h, ⟨1, 1, by decide, by decide, by decide +kernel, zi_tm 480 (Or.inl rfl)⟩, ⟨1, 1, by decide, by decide, by decide +kernel, zi_tm 520 (Or.inr rfl)⟩⟩, ⟨by decide, by decide, by decide +kernel, by decide +kernel, by decide +kernel, by decide +kernel⟩, ?_, ⟨by decide +kernel, Or.inl ⟨by decide +kernel, by decide +kernel⟩⟩⟩
  · intro i k a b h
    match i, h with
    | 0, h => cases h; exact ⟨by decide +kernel, by decide +kernel, by decide +kernel⟩
    | 1, h => cases h; exact ⟨by decide +kernel, by decide +kernel, by decide +kernel⟩
    | n + 2, h => cases h
  · intro i k a b h
    match i, h with
    | 0, h => cases h; exact ⟨by decide +kernel, by decide +kernel, by decide +kernel, by decide +kernel⟩
    | 1, h => cases h; exact ⟨by decide +kernel, by decide +kernel, by decide +kernel, by decide +kernel⟩
    | n + 2, h => cases h
  · intro i hi
    rw [zi_2_row (by decide) (by decide) (by decide) (by decide)]
    show zn_fl 466 i = -1
    unfold zn_fl
    rw [if_pos hi]

section MM
variable {X : zm_T} {d L : Nat} {μ : zm_u} {o a x t : Int32} {st : sT}
def RS (μ : zm_u) (st : sT) : Prop := st.length ≤ 12 ∧ μ 22 10 = nI st.length ∧ ∀ (i n e : Nat), st[i]? = some (n, e) → (1 ≤ n ∧ n ≤ 40 ∧ e ≤ 6) ∧ μ 29 i = nI n ∧ μ 30 i = nI e
theorem nI_40 (t y : Nat) : (40 : Int32) * nI t + nI y = nI (40 * t + y) := by
  rw [← nI_add]
  congr 1
  exact (Int32.ofNat_mul 40 t).symm

def mcp (μ : zm_u) (t w y n : Nat) : zm_u := fun c z => if c = 31 ∧ w + y ≤ z ∧ z < w + n then μ 27 (40 * t + (z - w)) else if c = 32 ∧ w + y ≤ z ∧ z < w + n then μ 28 (40 * t + (z - w)) else μ c z
theorem mcp_row {t w y n c : Nat} (h1 : c ≠ 31) (h2 : c ≠ 32) : mcp μ t w y n c = μ c := by
  funext z
  unfold mcp
  rw [if_neg (by omega), if_neg (by omega)]
theorem mcp_end {t w n : Nat} : mcp μ t w n n = μ := by
  funext c z
  unfold mcp
  rw [if_neg (by omega), if_neg (by omega)]
theorem zm_up_at {c i c' i' : Nat} {v : Int32} : zm_up μ c i v c' i' = if c' = c ∧ i' = i then v else μ c' i' := by
  unfold zm_up
  by_cases h1 : c' = c
  · subst h1
    rw [Nat.beq_refl]
    by_cases h2 : i' = i
    · subst h2
      rw [Nat.beq_refl]
      simp
    · rw [zb_ne h2]
      simp [h2]
  · rw [zb_ne h1]
    simp [h1]
theorem mcp_step {t w y n : Nat} (hy : y < n) : mcp (zm_up (zm_up μ 31 (w + y) (μ 27 (40 * t + y))) 32 (w + y) (μ 28 (40 * t + y))) t w (y + 1) n = mcp μ t w y n := by
  funext c z
  unfold mcp
  rw [zm_up_row (show 27 ≠ 32 by decide), zm_up_row (show 27 ≠ 31 by decide), zm_up_row (show 28 ≠ 32 by decide), zm_up_row (show 28 ≠ 31 by decide), zm_up_at, zm_up_at]
  by_cases h31 : c = 31
  · subst h31
    by_cases hz : z = w + y
    · subst hz
      rw [if_neg (by omega), if_neg (by omega), if_neg (by omega), if_pos (by omega), if_pos (by omega), show w + y - w = y by omega]
    · by_cases hr : w + (y + 1) ≤ z ∧ z < w + n
      · rw [if_pos (by omega), if_pos (by omega)]
      · rw [if_neg (by omega), if_neg (by omega), if_neg (by omega), if_neg (by omega), if_neg (by omega), if_neg (by omega)]
  · by_cases h32 : c = 32
    · subst h32
      by_cases hz : z = w + y
      · subst hz
        rw [if_neg (by omega), if_neg (by omega), if_pos (by omega), if_neg (by omega), if_pos (by omega), show w + y - w = y by omega]
      · by_cases hr : w + (y + 1) ≤ z ∧ z < w + n
        · rw [if_neg (by omega), if_pos (by omega), if_neg (by omega), if_pos (by omega)]
        · rw [if_neg (by omega), if_neg (by omega), if_neg (by omega), if_neg (by omega), if_neg (by omega), if_neg (by omega)]
    · rw [if_neg (by omega), if_neg (by omega), if_neg (by omega), if_neg (by omega), if_neg (by omega), if_neg (by omega)]
def mcl (μ : zm_u) (t w : Nat) (st : sT) : zm_u := match st with
  | [] => μ
  | (n, _) :: r => mcl (mcp μ t w 0 n) (t + 1) (w + n) r
theorem mcl_row {c : Nat} (h1 : c ≠ 31) (h2 : c ≠ 32) : ∀ (st : sT) (μ : zm_u) (t w : Nat), mcl μ t w st c = μ c := by
  intro st
  induction st with
  | nil => intro μ t w; rfl
  | cons q r ih =>
    obtain ⟨n, e⟩ := q
    intro μ t w
    show mcl (mcp μ t w 0 n) (t + 1) (w + n) r c = μ c
    rw [ih, mcp_row h1 h2]
theorem mcl_low : ∀ (st : sT) (μ : zm_u) (t w c z : Nat), z < w → mcl μ t w st c z = μ c z := by
  intro st
  induction st with
  | nil => intro μ t w c z _; rfl
  | cons q r ih =>
    obtain ⟨n, e⟩ := q
    intro μ t w c z hz
    show mcl (mcp μ t w 0 n) (t + 1) (w + n) r c z = μ c z
    rw [ih _ _ _ _ _ (by omega)]
    unfold mcp
    rw [if_neg (by omega), if_neg (by omega)]
theorem mcl_at : ∀ (st : sT) (μ : zm_u) (t w j n e y : Nat), st[j]? = some (n, e) → y < n → mcl μ t w st 31 (w + su (st.take j) + y) = μ 27 (40 * (t + j) + y) ∧ mcl μ t w st 32 (w + su (st.take j) + y) = μ 28 (40 * (t + j) + y) := by
  intro st
  induction st with
  | nil => intro μ t w j n e y h _; simp at h
  | cons q r ih =>
    obtain ⟨n0, e0⟩ := q
    intro μ t w j n e y h hy
    cases j with
    | zero =>
      simp only [List.getElem?_cons_zero, Option.some.injEq, Prod.mk.injEq] at h
      obtain ⟨rfl, rfl⟩ := h
      show mcl (mcp μ t w 0 n0) (t + 1) (w + n0) r 31 _ = _ ∧ mcl (mcp μ t w 0 n0) (t + 1) (w + n0) r 32 _ = _
      simp only [List.take_zero, su, List.map_nil, List.sum_nil, Nat.add_zero]
      rw [mcl_low _ _ _ _ _ _ (by omega), mcl_low _ _ _ _ _ _ (by omega)]
      unfold mcp
      rw [if_pos (by omega), if_neg (by omega), if_pos (by omega), show w + y - w = y by omega]
      exact ⟨rfl, rfl⟩
    | succ j =>
      simp only [List.getElem?_cons_succ] at h
      have h2 := ih (mcp μ t w 0 n0) (t + 1) (w + n0) j n e y h hy
      rw [mcp_row (by decide) (by decide), mcp_row (by decide) (by decide)] at h2
      show mcl (mcp μ t w 0 n0) (t + 1) (w + n0) r 31 _ = _ ∧ mcl (mcp μ t w 0 n0) (t + 1) (w + n0) r 32 _ = _
      rw [List.take_succ_cons, show su ((n0, e0) :: r.take j) = n0 + su (r.take j) by simp [su], ← Nat.add_assoc w, show t + (j + 1) = t + 1 + j by omega]
      exact h2

def mbk (μ : zm_u) (b y n : Nat) : zm_u := fun c z => if c = 27 ∧ b + y ≤ z ∧ z < b + n then μ 31 (z - b) else if c = 28 ∧ b + y ≤ z ∧ z < b + n then μ 32 (z - b) else μ c z
theorem mbk_row {b y n c : Nat} (h1 : c ≠ 27) (h2 : c ≠ 28) : mbk μ b y n c = μ c := by
  funext z
  unfold mbk
  rw [if_neg (by omega), if_neg (by omega)]
theorem mbk_end {b n : Nat} : mbk μ b n n = μ := by
  funext c z
  unfold mbk
  rw [if_neg (by omega), if_neg (by omega)]
theorem mbk_step {b y n : Nat} (hy : y < n) : mbk (zm_up (zm_up μ 27 (b + y) (μ 31 y)) 28 (b + y) (μ 32 y)) b (y + 1) n = mbk μ b y n := by
  funext c z
  unfold mbk
  rw [zm_up_row (show 31 ≠ 28 by decide), zm_up_row (show 31 ≠ 27 by decide), zm_up_row (show 32 ≠ 28 by decide), zm_up_row (show 32 ≠ 27 by decide), zm_up_at, zm_up_at]
  by_cases h31 : c = 27
  · subst h31
    by_cases hz : z = b + y
    · subst hz
      rw [if_neg (by omega), if_neg (by omega), if_neg (by omega), if_pos (by omega), if_pos (by omega), show b + y - b = y by omega]
    · by_cases hr : b + (y + 1) ≤ z ∧ z < b + n
      · rw [if_pos (by omega), if_pos (by omega)]
      · rw [if_neg (by omega), if_neg (by omega), if_neg (by omega), if_neg (by omega), if_neg (by omega), if_neg (by omega)]
  · by_cases h32 : c = 28
    · subst h32
      by_cases hz : z = b + y
      · subst hz
        rw [if_neg (by omega), if_neg (by omega), if_pos (by omega), if_neg (by omega), if_pos (by omega), show b + y - b = y by omega]
      · by_cases hr : b + (y + 1) ≤ z ∧ z < b + n
        · rw [if_neg (by omega), if_pos (by omega), if_neg (by omega), if_pos (by omega)]
        · rw [if_neg (by omega), if_neg (by omega), if_neg (by omega), if_neg (by omega), if_neg (by omega), if_neg (by omega)]
    · rw [if_neg (by omega), if_neg (by omega), if_neg (by omega), if_neg (by omega), if_neg (by omega), if_neg (by omega)]
end MM

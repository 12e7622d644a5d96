theorem zb_ne {a b : Nat} (h : a ≠ b) : Nat.beq a b = false := by
  cases hb : Nat.beq a b with
  | false => rfl
  | true => exact absurd (Nat.eq_of_beq_eq_true hb) h
theorem zb_of {a b : Nat} (h : Nat.beq a b = false) : a ≠ b := by
  intro e
  subst e
  rw [Nat.beq_refl] at h
  cases h
def zw_v (ad : Nat → Nat) (x : zm_v) : Value := match x with
  | .inl i => .int i
  | .inr j => .ref (ad j)
def zw_f (ad : Nat → Nat) (μ : zm_u) (i f : Nat) (o : Option Nat) : Value := match o with
  | none => .int (μ i f)
  | some j => .ref (ad j)
def zw_e (ad : Nat → Nat) (cA cB : ClassId) (μ : zm_u) (i : Nat) (x : zm_h) : Nat × va_E := (ad i, match x with
  | .inl a => .inl (cond a.2 cB cA, a.1, .inl (μ i))
  | .inr o => .inr (o.1, o.2.mapIdx (zw_f ad μ i)))
def zw_W (sh : List zm_h) (ad : Nat → Nat) (cA cB : ClassId) (μ : zm_u) : va_W := sh.mapIdx (zw_e ad cA cB μ)
def zw_l (ad : Nat → Nat) (l : zm_L) : List (Nat × Value) := l.map (fun q => (q.1, zw_v ad q.2))
def zw_A (sh : List zm_h) (ad : Nat → Nat) : Nat → Prop := fun q => ∃ i : Nat, i < sh.length ∧ q = ad i
theorem zw_at {sh : List zm_h} {ad : Nat → Nat} {cA cB : ClassId} {μ : zm_u} {k : Nat} {x : zm_h} (h : sh[k]? = some x) : (zw_W sh ad cA cB μ)[k]? = some (zw_e ad cA cB μ k x) := by
  unfold zw_W
  rw [List.getElem?_mapIdx, h]
  rfl
theorem zw_of {sh : List zm_h} {ad : Nat → Nat} {cA cB : ClassId} {μ : zm_u} {k : Nat} {q : Nat × va_E} (h : (zw_W sh ad cA cB μ)[k]? = some q) : ∃ x, sh[k]? = some x ∧ q = zw_e ad cA cB μ k x := by
  unfold zw_W at h
  rw [List.getElem?_mapIdx] at h
  cases hx : sh[k]? with
  | none => rw [hx] at h; cases h
  | some x => rw [hx] at h; exact ⟨x, rfl, (Option.some.inj h).symm⟩
theorem zw_e_of {ad : Nat → Nat} {cA cB : ClassId} {μ μ' : zm_u} {k : Nat} {x : zm_h} (h : μ' k = μ k) : zw_e ad cA cB μ' k x = zw_e ad cA cB μ k x := by
  have hf : zw_f ad μ' k = zw_f ad μ k := by
    funext f o
    cases o <;> simp [zw_f, h]
  unfold zw_e
  rw [h, hf]
theorem zw_set {sh : List zm_h} {ad : Nat → Nat} {cA cB : ClassId} {μ μ' : zm_u} {j : Nat} {x : zm_h} (hx : sh[j]? = some x) (h : ∀ k, k ≠ j → μ' k = μ k) : (zw_W sh ad cA cB μ).set j (zw_e ad cA cB μ' j x) = zw_W sh ad cA cB μ' := by
  apply List.ext_getElem?
  intro k
  rw [List.getElem?_set]
  by_cases hk : j = k
  · subst hk
    have hl : j < (zw_W sh ad cA cB μ).length := by
      unfold zw_W
      rw [List.length_mapIdx]
      exact (List.getElem?_eq_some_iff.mp hx).1
    rw [if_pos rfl, if_pos hl, zw_at hx]
  · rw [if_neg hk]
    unfold zw_W
    rw [List.getElem?_mapIdx, List.getElem?_mapIdx]
    cases sh[k]? with
    | none => rfl
    | some y => exact congrArg some (zw_e_of (h k (fun e => hk e.symm))).symm
theorem zm_up_row {μ : zm_u} {j i k : Nat} {v : Int32} (h : k ≠ j) : zm_up μ j i v k = μ k := by
  funext z
  unfold zm_up
  rw [zb_ne h]
  rfl
theorem zm_up_self {μ : zm_u} {j i : Nat} {v : Int32} : zm_up μ j i v j = upd (μ j) i v := by
  funext z
  unfold zm_up upd
  rw [Nat.beq_refl]
  by_cases h : z = i
  · subst h
    simp
  · rw [zb_ne h, if_neg h]
    rfl
theorem zw_seta {sh : List zm_h} {ad : Nat → Nat} {cA cB : ClassId} {μ : zm_u} {j n : Nat} {z : Bool} (hx : sh[j]? = some (.inl (n, z))) (i : Nat) (v : Int32) :
    (zw_W sh ad cA cB μ).set j (ad j, .inl (cond z cB cA, n, .inl (upd (μ j) i v))) = zw_W sh ad cA cB (zm_up μ j i v) := by
  rw [← zw_set (μ := μ) (μ' := zm_up μ j i v) hx (fun k hk => zm_up_row hk)]
  unfold zw_e
  rw [zm_up_self]
theorem zw_setf {sh : List zm_h} {ad : Nat → Nat} {cA cB : ClassId} {μ : zm_u} {j ci a : Nat} {fs : List (Option Nat)} (hx : sh[j]? = some (.inr (ci, fs))) (ha : fs[a]? = some none) (v : Int32) :
    (zw_W sh ad cA cB μ).set j (ad j, .inr (ci, (fs.mapIdx (zw_f ad μ j)).set a (.int v))) = zw_W sh ad cA cB (zm_up μ j a v) := by
  rw [← zw_set (μ := μ) (μ' := zm_up μ j a v) hx (fun k hk => zm_up_row hk)]
  unfold zw_e
  congr 4
  apply List.ext_getElem?
  intro k
  rw [List.getElem?_set]
  by_cases hk : a = k
  · subst hk
    have hl : a < (fs.mapIdx (zw_f ad μ j)).length := by
      rw [List.length_mapIdx]
      exact (List.getElem?_eq_some_iff.mp ha).1
    rw [if_pos rfl, if_pos hl, List.getElem?_mapIdx, ha]
    show _ = some (Value.int (zm_up μ j a v j a))
    rw [zm_up_self]
    simp [upd]
  · rw [if_neg hk, List.getElem?_mapIdx, List.getElem?_mapIdx]
    cases fs[k]? with
    | none => rfl
    | some y =>
      refine congrArg some ?_
      cases y with
      | none =>
        show Value.int (μ j k) = Value.int (zm_up μ j a v j k)
        rw [zm_up_self]
        simp [upd, Ne.symm hk]
      | some t => rfl
theorem zw_D {sh : List zm_h} {ad : Nat → Nat} {cA cB : ClassId} {μ : zm_u} (hi : ∀ i j : Nat, i < sh.length → j < sh.length → ad i = ad j → i = j) : va_D (zw_A sh ad) (zw_W sh ad cA cB μ) := by
  refine ⟨fun i j p q hp hq e => ?_, fun k q hq => ?_⟩
  · obtain ⟨x, hx, rfl⟩ := zw_of hp
    obtain ⟨y, hy, rfl⟩ := zw_of hq
    exact hi i j (List.getElem?_eq_some_iff.mp hx).1 (List.getElem?_eq_some_iff.mp hy).1 e
  · obtain ⟨x, hx, rfl⟩ := zw_of hq
    exact ⟨k, (List.getElem?_eq_some_iff.mp hx).1, rfl⟩
theorem zw_lget {ad : Nat → Nat} : ∀ {l : zm_L} {i : Nat} {v : zm_v}, zm_get l i = some v → (i, zw_v ad v) ∈ zw_l ad l := by
  intro l
  induction l with
  | nil => intro i v h; cases h
  | cons q r ih =>
    obtain ⟨j, w⟩ := q
    intro i v h
    unfold zm_get at h
    cases hb : Nat.beq j i with
    | true =>
      rw [hb] at h
      have e := Nat.eq_of_beq_eq_true hb
      cases h
      subst e
      exact List.mem_cons_self
    | false =>
      rw [hb] at h
      exact List.mem_cons_of_mem _ (ih h)
theorem zw_lset_mem {i : Nat} {v : zm_v} : ∀ {l : zm_L} {q : Nat × zm_v}, q ∈ zm_set l i v → q = (i, v) ∨ q ∈ l := by
  intro l
  induction l with
  | nil => intro q h; exact Or.inl (List.mem_singleton.mp h)
  | cons x r ih =>
    obtain ⟨j, w⟩ := x
    intro q h
    unfold zm_set at h
    cases hb : Nat.beq i j with
    | true =>
      rw [hb] at h
      rcases List.mem_cons.mp h with h | h
      · exact Or.inl h
      · exact Or.inr (List.mem_cons_of_mem _ h)
    | false =>
      rw [hb] at h
      simp only [cond_false] at h
      cases hl : Nat.ble i j with
      | true =>
        rw [hl] at h
        rcases List.mem_cons.mp h with h | h
        · exact Or.inl h
        · exact Or.inr h
      | false =>
        rw [hl] at h
        rcases List.mem_cons.mp h with h | h
        · exact Or.inr (by rw [h]; exact List.mem_cons_self)
        · rcases ih h with h | h
          · exact Or.inl h
          · exact Or.inr (List.mem_cons_of_mem _ h)

def zm_srt (l : zm_L) : Bool := match l with
  | [] => true
  | (i, _) :: r => r.all (fun q => Nat.blt i q.1) && zm_srt r
theorem zm_set_lt {i k : Nat} {v : zm_v} {l : zm_L} (h : l.all (fun q => Nat.blt k q.1) = true) (hk : k < i) : (zm_set l i v).all (fun q => Nat.blt k q.1) = true := by
  rw [List.all_eq_true] at h ⊢
  intro q hq
  rcases zw_lset_mem hq with rfl | hq
  · simpa using hk
  · exact h q hq
theorem zm_set_srt {i : Nat} {v : zm_v} : ∀ {l : zm_L}, zm_srt l = true → zm_srt (zm_set l i v) = true ∧ ∀ q ∈ zm_set l i v, q = (i, v) ∨ (q ∈ l ∧ q.1 ≠ i) := by
  intro l
  induction l with
  | nil => intro _; exact ⟨rfl, fun q h => Or.inl (List.mem_singleton.mp h)⟩
  | cons x r ih =>
    obtain ⟨j, w⟩ := x
    intro h
    unfold zm_srt at h
    rw [Bool.and_eq_true] at h
    obtain ⟨h1, h2⟩ := h
    have h1' : ∀ q ∈ r, j < q.1 := by
      rw [List.all_eq_true] at h1
      intro q hq
      simpa using h1 q hq
    unfold zm_set
    cases hb : Nat.beq i j with
    | true =>
      have e := Nat.eq_of_beq_eq_true hb
      subst e
      simp only [cond_true]
      refine ⟨by unfold zm_srt; rw [Bool.and_eq_true]; exact ⟨h1, h2⟩, fun q hq => ?_⟩
      rcases List.mem_cons.mp hq with hq | hq
      · exact Or.inl hq
      · exact Or.inr ⟨List.mem_cons_of_mem _ hq, by have := h1' q hq; omega⟩
    | false =>
      have hne : i ≠ j := zb_of hb
      simp only [cond_false]
      cases hl : Nat.ble i j with
      | true =>
        have hle : i ≤ j := Nat.le_of_ble_eq_true hl
        simp only [cond_true]
        refine ⟨?_, fun q hq => ?_⟩
        · unfold zm_srt
          rw [Bool.and_eq_true]
          refine ⟨?_, by unfold zm_srt; rw [Bool.and_eq_true]; exact ⟨h1, h2⟩⟩
          rw [List.all_eq_true]
          intro q hq
          rcases List.mem_cons.mp hq with rfl | hq
          · show Nat.blt i j = true
            simp; omega
          · have := h1' q hq
            simp; omega
        · rcases List.mem_cons.mp hq with hq | hq
          · exact Or.inl hq
          · refine Or.inr ⟨hq, ?_⟩
            rcases List.mem_cons.mp hq with rfl | hq
            · exact fun e => hne e.symm
            · have := h1' q hq
              omega
      | false =>
        have hlt : j < i := by
          have h0 : ¬ i ≤ j := fun z => by rw [Nat.ble_eq_true_of_le z] at hl; cases hl
          omega
        simp only [cond_false]
        obtain ⟨g1, g2⟩ := ih h2
        refine ⟨?_, fun q hq => ?_⟩
        · unfold zm_srt
          rw [Bool.and_eq_true]
          exact ⟨zm_set_lt h1 hlt, g1⟩
        · rcases List.mem_cons.mp hq with rfl | hq
          · exact Or.inr ⟨List.mem_cons_self, fun e => hne e.symm⟩
          · rcases g2 q hq with h | ⟨h, h'⟩
            · exact Or.inl h
            · exact Or.inr ⟨List.mem_cons_of_mem _ h, h'⟩

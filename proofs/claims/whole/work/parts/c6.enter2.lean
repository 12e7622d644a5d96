def updD (D : Nat → Option Nat) (l t : Nat) : Nat → Option Nat := fun i => if i = l then some t else D i
def sS (l : Nat) (x : Tr) (S : Nat → Tr) : Nat → Tr := fun i => ts (sb l x) (S i)

def Enr (L : Nat) (T0 Tc : tT) (S : Nat → Tr) (Tc1 : tT) (S1 : Nat → Tr) (V1 : List Nat) (T : tT) (N : Nat → Prop) (ν : Nat → Tr) (Q : List (Nat × Nat)) (W : List Nat) (T1 : tT) (N1 : Nat → Prop) (ν1 : Nat → Tr) (Q1 : List (Nat × Nat)) (W1 : List Nat) : Prop :=
  CPr L T0 Tc1 S1 V1 T1 N1 ν1 Q1 W1 ∧ (∃ q, Q1 = Q ++ q ∧ q.length ≤ 1) ∧ (∃ w, W1 = W ++ w) ∧ ∀ c r, c < Tc.length → Lv T N r → cT Tc S c = tJ T ν r → Lv T1 N1 r ∧ cT Tc1 S1 c = tJ T1 ν1 r
section EN6
variable {L n i j k a b e h hh p u q res m l x c v w : Nat} {T T' T1 T2 T0 Tb Tc Tc1 Tc2 Tr' Tr1 : tT} {D D' : Nat → Option Nat} {S S' S1 S2 : Nat → Tr} {V W V1 V2 W1 W2 : List Nat} {N N' N1 N2 : Nat → Prop} {ν ν' ν1 ν2 σ : Nat → Tr} {Q Q' Q1 Q2 : List (Nat × Nat)} {t t0 A B X : Tr}
theorem CPc_h (h1 : CPc L T0 Tc D S V h) (hle : h ≤ hh) : CPc L T0 Tc D S V hh := ⟨h1.1, h1.2.1, fun k v hv => ⟨(h1.2.2.1 k v hv).1, Nat.le_trans (h1.2.2.1 k v hv).2 hle⟩, fun i => Nat.le_trans (h1.2.2.2 i) hle⟩
theorem app_1 {V : List Nat} {k v v' : Nat} (h : (V ++ [v'])[k]? = some v) : V[k]? = some v ∨ (k = V.length ∧ v = v') := by
  by_cases e : k < V.length
  · rw [List.getElem?_append_left e] at h
    exact Or.inl h
  · rw [List.getElem?_append_right (by omega)] at h
    have hl := (List.getElem?_eq_some_iff.mp h).1
    simp at hl
    have : k = V.length := by omega
    subst this
    simp at h
    exact Or.inr ⟨rfl, h.symm⟩
theorem CPc_env (h1 : CPc L T0 Tc D S V h) (hv : v < Tc.length) (ht : th (cT Tc S v) ≤ h) : CPc L T0 Tc D S (V ++ [v]) h := by
  refine ⟨h1.1, h1.2.1, fun k v' hk => ?_, h1.2.2.2⟩
  rcases app_1 hk with hk | ⟨rfl, rfl⟩
  · exact h1.2.2.1 k v' hk
  · exact ⟨hv, ht⟩
theorem CPr_env (h1 : CPr L T0 Tc S V Tr' N ν Q W) (hw : Lv Tr' N w) (e : cT Tc S v = tJ Tr' ν w) : CPr L T0 Tc S (V ++ [v]) Tr' N ν Q (W ++ [w]) := by
  obtain ⟨a1, a2, a3, a4, a5⟩ := h1
  refine ⟨a1, a2, a3, by simp [a4], fun k v' w' hk hk' => ?_⟩
  rcases app_1 hk with hk1 | ⟨e1, rfl⟩
  · rcases app_1 hk' with hk2 | ⟨e2, rfl⟩
    · exact a5 k v' w' hk1 hk2
    · have := (List.getElem?_eq_some_iff.mp hk1).1
      omega
  · rcases app_1 hk' with hk2 | ⟨e2, rfl⟩
    · have := (List.getElem?_eq_some_iff.mp hk2).1
      omega
    · exact ⟨hw, e⟩
theorem sb_l : sb l X l = X := by unfold sb; rw [if_pos rfl]
theorem sb_o (hi : i ≠ l) : sb l X i = tA i := by unfold sb; rw [if_neg hi]
theorem cT_sS (Tc : tT) (c : Nat) : cT Tc (sS l X S) c = ts (sb l X) (cT Tc S c) := by
  unfold cT sS
  rw [ts_ts]
theorem th_sb (hX : th X ≤ 2) (t : Tr) : th (ts (sb l X) t) ≤ th t + 1 := th_ts (m := 1) (fun n => by
  by_cases e : n = l
  · rw [e, sb_l]; omega
  · rw [sb_o e, th_A]; omega) t
theorem CPc_told (h1 : CPc L T0 Tc D S V h) (hD : D l = none) (hl : ∃ a b, Tc[l]? = some (4, a, b)) (hq : ∃ k a b, Tc[q]? = some (k, a, b) ∧ k ≠ 4) (hX : th X ≤ 2) (eX : cT Tc (sS l X S) q = X) : CPc L T0 Tc (updD D l q) (sS l X S) V (h + 1) := by
  obtain ⟨⟨a1, a2, a3⟩, b1, c1, d1⟩ := h1
  refine ⟨⟨a1, a2, fun i => ⟨fun hi => ?_, fun t ht => ?_⟩⟩, b1, fun k v hv => ⟨(c1 k v hv).1, ?_⟩, fun i => ?_⟩
  · unfold updD at hi
    by_cases e : i = l
    · rw [if_pos e] at hi
      simp at hi
    · rw [if_neg e] at hi
      unfold sS
      rw [(a3 i).1 hi, ts_A, sb_o e]
  · unfold updD at ht
    by_cases e : i = l
    · rw [if_pos e] at ht
      simp only [Option.some.injEq] at ht
      subst ht e
      refine ⟨hl, hq, ?_⟩
      rw [eX]
      unfold sS
      rw [(a3 i).1 hD, ts_A, sb_l]
    · rw [if_neg e] at ht
      obtain ⟨x1, x2, x3⟩ := (a3 i).2 t ht
      refine ⟨x1, x2, ?_⟩
      rw [cT_sS]
      unfold sS
      rw [x3]
  · rw [cT_sS]
    have := th_sb (l := l) hX (cT Tc S v)
    have := (c1 k v hv).2
    omega
  · have := th_sb (l := l) hX (S i)
    have := d1 i
    unfold sS
    omega
theorem CPr_told (h1 : CPr L T0 Tc S V Tr' N ν Q W) (hM : MO Tr' N (fun j => ts (sb l X) (ν j)) Q') (hX : ta (fun l => l < Tc.length) X) : CPr L T0 Tc (sS l X S) V Tr' N (fun j => ts (sb l X) (ν j)) Q' W := by
  obtain ⟨⟨a1, a2⟩, ⟨b1, b2, b3⟩, c1, d1, d2⟩ := h1
  refine ⟨⟨a1, hM⟩, ⟨b1, b2, fun i a b hi => ⟨(b3 i a b hi).1, ?_⟩⟩, fun i hi => ⟨(c1 i hi).1, ta_ts (fun n hn => ?_) _ (c1 i hi).2⟩, d1, fun k v w hv hw => ?_⟩
  · show ts (sb l X) (ν i) = ts (sb l X) (S i)
    rw [(b3 i a b hi).2]
  · by_cases e : n = l
    · rw [e, sb_l]; exact hX
    · rw [sb_o e]; exact hn
  · obtain ⟨x1, x2⟩ := d2 k v w hv hw
    exact ⟨x1, by rw [cT_sS, x2]; exact tJ_ts a1 w x1.1⟩
theorem CPr_new (h1 : CPr L T0 Tc S V Tr' N ν Q W) (hx : Rx Tr' T1) (hN : ∀ i, N i → N1 i) (hν : ∀ i, i < Tr'.length → ν1 i = ν i) (hM : MO T1 N1 ν1 Q1) (ha : ∀ i, N1 i → i < T1.length ∧ ta (fun l => l < Tc.length) (ν1 i)) : CPr L T0 Tc S V T1 N1 ν1 Q1 W ∧ ∀ r, Lv Tr' N r → Lv T1 N1 r ∧ tJ T1 ν1 r = tJ Tr' ν r := by
  obtain ⟨⟨a1, a2⟩, ⟨b1, b2, b3⟩, c1, d1, d2⟩ := h1
  have hl := hx.2.1
  have key : ∀ r, Lv Tr' N r → Lv T1 N1 r ∧ tJ T1 ν1 r = tJ Tr' ν r := fun r hr => ⟨⟨by have := hr.1; omega, by rw [Rx_tJ a1 hx hr.1]; exact ta_imp hN _ hr.2⟩, tJ_ext a1 hx.2.2 hx.1 (fun i a b hi => hν i (tw_lt hi)) r hr.1⟩
  refine ⟨⟨⟨hx.2.2, hM⟩, ⟨by omega, fun i hi => (hx.1 i (by omega)).trans (b2 i hi), fun i a b hi => ⟨hN i (b3 i a b hi).1, ?_⟩⟩, ha, d1, fun k v w hv hw => ?_⟩, key⟩
  · have := (c1 i (b3 i a b hi).1).1
    rw [hν i this, (b3 i a b hi).2]
  · obtain ⟨x1, x2⟩ := d2 k v w hv hw
    obtain ⟨y1, y2⟩ := key w x1
    exact ⟨y1, by rw [x2, y2]⟩

theorem tput_again (T : tT) (q : Nat × Nat × Nat) : tput (tput T q).1 q = tput T q := by
  rcases h : t_find T q with _ | j
  · have e : tput T q = (T ++ [q], T.length) := by unfold tput; rw [h]
    rw [e]
    have h2 : t_find (T ++ [q]) q = some T.length := by
      refine t_find_some app_at (fun j hj z => ?_)
      rw [app_lt hj] at z
      unfold t_find at h
      rw [List.findIdx?_eq_none_iff] at h
      have hm : q ∈ T := List.mem_of_getElem? z
      have := h q hm
      simp at this
    unfold tput
    rw [h2]
  · have e : tput T q = (T, j) := by unfold tput; rw [h]
    rw [e]
    exact e
end EN6

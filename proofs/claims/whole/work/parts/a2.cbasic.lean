def oc (c : Option Nat) : Int32 := match c with
  | none => -1
  | some i => nI i
def cnm (T : tT) : Prop := ∀ (i a b : Nat), T[i]? = some (4, a, b) → (a < 3 ∨ a = 3 + i) ∧ b = 0
def CT (μ : zm_u) (T : tT) : Prop := t_C μ T ∧ T.length ≤ 466 ∧ tw T ∧ cnm T
def tput (T : tT) (q : Nat × Nat × Nat) : tT × Nat := match t_find T q with
  | some j => (T, j)
  | none => (T ++ [q], T.length)
def cT (T : tT) (S : Nat → Tr) (i : Nat) : Tr := ts S (tJ T tA i)
def TD (T : tT) (D : Nat → Option Nat) (S : Nat → Tr) : Prop := ∀ i, (D i = none → S i = tA i) ∧ ∀ t, D i = some t → (∃ a b, T[i]? = some (4, a, b)) ∧ (∃ k a b, T[t]? = some (k, a, b) ∧ k ≠ 4) ∧ S i = cT T S t
def tl (D : Nat → Option Nat) (i : Nat) : Nat := (D i).getD i
def CC (μ : zm_u) (T : tT) (D : Nat → Option Nat) (V : List Nat) (res : Nat) : Prop := CT μ T ∧ (∀ i, i < 466 → μ 13 i = oc (D i)) ∧ μ 3 4 = nI V.length ∧ V.length ≤ 16 ∧ (∀ i v, V[i]? = some v → μ 14 i = nI v) ∧ μ 3 5 = nI res
def CK (μ μ' : zm_u) : Prop := ∀ c, c ≠ 1 → c ≠ 3 → c ≠ 6 → c ≠ 7 → c ≠ 8 → c ≠ 13 → c ≠ 14 → μ' c = μ c
section CB
variable {X : zm_T} {d : Nat} {μ μ' μ1 : zm_u} {T T' : tT} {D : Nat → Option Nat} {S : Nat → Tr} {V : List Nat} {i j k a b res : Nat} {q : Nat × Nat × Nat}
theorem CK_rf : CK μ μ := fun _ _ _ _ _ _ _ _ => rfl
theorem CK_tr (h1 : CK μ μ1) (h2 : CK μ1 μ') : CK μ μ' := fun c a b d e f g i => (h2 c a b d e f g i).trans (h1 c a b d e f g i)
theorem CT_ok (h : CT μ T) : ty_ok μ := by
  have h1 := h.1.1
  have h2 := h.2.1
  unfold ty_ok
  rw [h1, nI_t (by omega)]
  omega
theorem CT_has (h : CT μ T) (hi : i < T.length) : ty_has μ (nI i) := by
  have h1 := h.1.1
  have h2 := h.2.1
  unfold ty_has
  rw [h1, nI_t (by omega), nI_t (by omega)]
  omega
theorem CT_hasn : ¬ ty_has μ (-1) := by
  unfold ty_has
  rw [zn_m1]
  omega
theorem ck_inj {k k' : Nat} (h : k ≤ 4) (h' : k' ≤ 4) (he : nI (t_ck k) = nI (t_ck k')) : k = k' := by
  rcases (show k = 0 ∨ k = 1 ∨ k = 2 ∨ k = 3 ∨ k = 4 by omega) with rfl | rfl | rfl | rfl | rfl <;> rcases (show k' = 0 ∨ k' = 1 ∨ k' = 2 ∨ k' = 3 ∨ k' = 4 by omega) with rfl | rfl | rfl | rfl | rfl <;> first | rfl | exact absurd he (by decide)
theorem CT_at {kk aa bb : Nat} (h : CT μ T) (hi : i < T.length) (hk : kk ≤ 4) (ha : aa < 10000) (hb : bb < 10000) : ty_at μ i (nI (t_ck kk)) (nI aa) (nI bb) ↔ T[i]? = some (kk, aa, bb) := by
  obtain ⟨k, a, b, hq⟩ := tw_at hi
  obtain ⟨e1, e2, e3⟩ := h.1.2 i k a b hq
  have hw := h.2.2.1.2 i k a b hq
  unfold ty_at
  rw [e1, e2, e3, hq]
  constructor
  · rintro ⟨h1, h2, h3⟩
    rw [nI_inj (by omega) (by omega)] at h2 h3
    rw [ck_inj (by omega) hk h1, h2, h3]
  · intro z
    simp only [Option.some.injEq, Prod.mk.injEq] at z
    obtain ⟨rfl, rfl, rfl⟩ := z
    exact ⟨rfl, rfl, rfl⟩
theorem c_hasX (hd : 1 ≤ d) (h : CT μ T) (hi : i < T.length) : zI X d 15 [.inr 1, .inl (nI i)] μ (fun r μ' => μ' = μ ∧ r = 1) :=
  zI_mono (c_has hd) (Nat.le_refl _) (fun r μ' q => ⟨q.1, by
    rcases q.2 with q | q
    · exact q.2
    · exact absurd (CT_has h hi) q.1⟩)
theorem c_hasN (hd : 1 ≤ d) : zI X d 15 [.inr 1, .inl (-1)] μ (fun r μ' => μ' = μ ∧ r = 0) :=
  zI_mono (c_has hd) (Nat.le_refl _) (fun r μ' q => ⟨q.1, by
    rcases q.2 with q | q
    · exact absurd q.1 CT_hasn
    · exact q.2⟩)
theorem c_kX (hd : 2 ≤ d) (h : CT μ T) (hi : T[i]? = some (k, a, b)) : zI X d 16 [.inr 1, .inl (nI i)] μ (fun r μ' => μ' = μ ∧ r = nI (t_ck k)) :=
  zI_mono (c_kindOf hd (CT_ok h)) (Nat.le_refl _) (fun r μ' q => ⟨q.1, by
    have := tw_lt hi
    have := h.2.1
    rcases q.2 with q | q
    · rw [q.2, nI_c (by omega)]; exact (h.1.2 i k a b hi).1
    · exact absurd (CT_has h (by omega)) q.1⟩)
theorem c_kN (hd : 2 ≤ d) (h : CT μ T) : zI X d 16 [.inr 1, .inl (-1)] μ (fun r μ' => μ' = μ ∧ r = -1) :=
  zI_mono (c_kindOf hd (CT_ok h)) (Nat.le_refl _) (fun r μ' q => ⟨q.1, by
    rcases q.2 with q | q
    · exact absurd q.1 CT_hasn
    · exact q.2⟩)
theorem c_fX (hd : 2 ≤ d) (h : CT μ T) (hi : T[i]? = some (k, a, b)) : zI X d 17 [.inr 1, .inl (nI i)] μ (fun r μ' => μ' = μ ∧ r = nI a) :=
  zI_mono (c_firstOf hd (CT_ok h)) (Nat.le_refl _) (fun r μ' q => ⟨q.1, by
    have := tw_lt hi
    have := h.2.1
    rcases q.2 with q | q
    · rw [q.2, nI_c (by omega)]; exact (h.1.2 i k a b hi).2.1
    · exact absurd (CT_has h (by omega)) q.1⟩)
theorem c_sX (hd : 2 ≤ d) (h : CT μ T) (hi : T[i]? = some (k, a, b)) : zI X d 18 [.inr 1, .inl (nI i)] μ (fun r μ' => μ' = μ ∧ r = nI b) :=
  zI_mono (c_secondOf hd (CT_ok h)) (Nat.le_refl _) (fun r μ' q => ⟨q.1, by
    have := tw_lt hi
    have := h.2.1
    rcases q.2 with q | q
    · rw [q.2, nI_c (by omega)]; exact (h.1.2 i k a b hi).2.2
    · exact absurd (CT_has h (by omega)) q.1⟩)

def PutF (T : tT) (q : Nat × Nat × Nat) (T' : tT) (j : Nat) : Prop := (∀ i, i < T.length → T'[i]? = T[i]?) ∧ T.length ≤ T'.length ∧ T'.length ≤ T.length + 1 ∧ T'[j]? = some q
theorem tput_F : PutF T q (tput T q).1 (tput T q).2 := by
  unfold tput
  rcases h : t_find T q with _ | j
  · exact ⟨fun i hi => app_lt hi, by simp, by simp, app_at⟩
  · refine ⟨fun _ _ => rfl, Nat.le_refl _, by simp, ?_⟩
    unfold t_find at h
    obtain ⟨h1, h2, h3⟩ := List.findIdx?_eq_some_iff_getElem.mp h
    show T[j]? = some q
    rw [List.getElem?_eq_getElem h1]
    simp only [beq_iff_eq] at h2
    rw [h2]
theorem tput_w (hw : tw T) (hq : q.1 = 2 ∧ q.2.1 < T.length ∧ q.2.2 < T.length ∨ q.1 = 3 ∧ q.2.1 < T.length ∧ q.2.2 = 0 ∨ q.1 = 4) (ha : q.2.1 < 10000) (hb : q.2.2 < 10000) : tw (tput T q).1 := by
  unfold tput
  rcases h : t_find T q with _ | j
  · exact tw_put hw hq ha hb
  · exact hw
theorem tput_n (hc : cnm T) (hq : q.1 = 4 → (q.2.1 < 3 ∨ q.2.1 = 3 + T.length) ∧ q.2.2 = 0) : cnm (tput T q).1 := by
  unfold tput
  rcases h : t_find T q with _ | j
  · intro i a b hi
    by_cases e : i = T.length
    · subst e
      rw [app_at] at hi
      simp only [Option.some.injEq] at hi
      subst hi
      exact hq rfl
    · have hlt : i < T.length := by
        have := tw_lt hi
        simp at this
        omega
      exact hc i a b (by rw [← app_lt hlt]; exact hi)
  · exact hc
theorem c_putX {kk aa bb : Nat} {kI aI bI : Int32} (hd : 2 ≤ d) (h : CT μ T) (hl : T.length < 466) (hk : 2 ≤ kk ∧ kk ≤ 4) (hq : kk = 2 ∧ aa < T.length ∧ bb < T.length ∨ kk = 3 ∧ aa < T.length ∧ bb = 0 ∨ kk = 4) (hn : kk = 4 → (aa < 3 ∨ aa = 3 + T.length) ∧ bb = 0) (ek : kI = nI (t_ck kk)) (ea : aI = nI aa) (eb : bI = nI bb) :
    zI X d 23 [.inr 1, .inl kI, .inl aI, .inl bI] μ (fun r μ' => r = nI (tput T (kk, aa, bb)).2 ∧ CT μ' (tput T (kk, aa, bb)).1 ∧ ∀ c, c ≠ 1 → c ≠ 6 → c ≠ 7 → c ≠ 8 → μ' c = μ c) := by
  subst ek ea eb
  have h13 := h.1.1
  have ha : aa < 10000 := by
    rcases hq with z | z | z
    · omega
    · omega
    · have := hn z; omega
  have hb : bb < 10000 := by
    rcases hq with z | z | z
    · omega
    · omega
    · have := hn z; omega
  refine zI_mono (c_seekOrPut hd (CT_ok h)) (Nat.le_refl _) (fun r μ' q => ?_)
  rcases q with ⟨rfl, i, hi, rfl, h1, h2⟩ | ⟨h1, ⟨h2, _⟩ | ⟨h2, rfl, rfl⟩⟩
  · rw [h13, nI_t (by omega)] at hi
    have hi' : i < T.length := by omega
    have e : t_find T (kk, aa, bb) = some i := t_find_some ((CT_at h hi' hk.2 ha hb).mp h1) (fun j hj z => h2 j hj ((CT_at h (by omega) hk.2 ha hb).mpr z))
    unfold tput
    rw [e]
    exact ⟨rfl, h, fun _ _ _ _ _ => rfl⟩
  · rw [h13, nI_t (by omega)] at h2
    omega
  · have e : t_find T (kk, aa, bb) = none := t_find_none (fun j hj z => h1 j (by rw [h13, nI_t (by omega)]; omega) ((CT_at h hj hk.2 ha hb).mpr z))
    have hw := tput_w (q := (kk, aa, bb)) h.2.2.1 hq ha hb
    have hnm := tput_n (q := (kk, aa, bb)) h.2.2.2 hn
    unfold tput at hw hnm ⊢
    rw [e] at hw hnm ⊢
    refine ⟨h13, ⟨⟨?_, fun i k a b hi => ?_⟩, ?_, hw, hnm⟩, fun c c1 c6 c7 c8 => ty_put_row c1 c6 c7 c8⟩
    · rw [ty_put_n, h13, ← nI_one, nI_add]
      simp
    · have c13 : (μ 1 3).toNatClampNeg = T.length := by rw [h13, nI_c (by omega)]
      rw [ty_put_6, ty_put_7, ty_put_8, c13]
      by_cases e : i = T.length
      · subst e
        rw [app_at] at hi
        simp only [Option.some.injEq, Prod.mk.injEq] at hi
        obtain ⟨rfl, rfl, rfl⟩ := hi
        simp [upd]
      · have hlt : i < T.length := by
          have := tw_lt hi
          simp at this
          omega
        simp only [upd, if_neg e]
        exact h.1.2 i k a b (by rw [← app_lt hlt]; exact hi)
    · simp
      omega
end CB

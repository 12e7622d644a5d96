abbrev vE : Type := Nat × Int32 × List Nat
def vpn (w : Nat) : Nat := if w = 1003 then 2 else if 1011 ≤ w ∧ w ≤ 1016 then pt (w - 1000) else 0
def gp (ps : List Nat) (k : Nat) : Int32 := match ps[k]? with
  | some j => nI j
  | none => -1
def wok (w : Nat) : Prop := w = 1000 ∨ w = 1001 ∨ w = 1002 ∨ w = 1003 ∨ (1011 ≤ w ∧ w ≤ 1016)
def VW (vs : List vE) : Prop := ∀ (i w : Nat) (num : Int32) (ps : List Nat), vs[i]? = some (w, num, ps) → wok w ∧ (w ≠ 1000 → num = 0) ∧ ps.length = vpn w ∧ ∀ j ∈ ps, j < i
def CV (μ : zm_u) (vs : List vE) : Prop := vs.length ≤ 600 ∧ μ 5 6 = nI vs.length ∧ ∀ (i w : Nat) (num : Int32) (ps : List Nat), vs[i]? = some (w, num, ps) → μ 16 i = nI w ∧ μ 17 i = (if w = 1000 then num else gp ps 0) ∧ μ 18 i = gp ps 1 ∧ μ 19 i = gp ps 2
section VA
variable {X : zm_T} {d : Nat} {μ : zm_u} {vs : List vE} {i w : Nat} {num : Int32} {ps : List Nat}
theorem wok_lt (h : wok w) : w < 2000 := by unfold wok at h; omega
theorem vpn_le (w : Nat) : vpn w ≤ 3 := by
  unfold vpn
  have := pt_le (w - 1000)
  split
  · omega
  · split <;> omega
theorem c_shapeOf (hd : 1 ≤ d) (h : CV μ vs) (hi : vs[i]? = some (w, num, ps)) : zI X d 94 [.inr 5, .inl (nI i)] μ (fun r μ' => μ' = μ ∧ r = nI w) := by
  have hl := (List.getElem?_eq_some_iff.mp hi).1
  have h1 := h.1
  refine zI_at [0, 1] hd rfl (k94_0 (fun z => absurd z (nI_pos (by omega))) (fun _ z => ?_) (fun _ _ => by rw [nI_t (by omega)]; omega) (fun _ _ => ⟨rfl, ?_⟩))
  · rw [h.2.1, nI_leI (by omega) (by omega)] at z
    omega
  · rw [nI_c (by omega)]
    exact (h.2.2 i w num ps hi).1
theorem zb_1000 : (1000 : Int32) = nI 1000 := rfl
theorem zb_1001 : (1001 : Int32) = nI 1001 := rfl
theorem zb_1002 : (1002 : Int32) = nI 1002 := rfl
theorem zb_1003 : (1003 : Int32) = nI 1003 := rfl
theorem c_isNumber (hd : 2 ≤ d) (h : CV μ vs) (hw : wok w) (hi : vs[i]? = some (w, num, ps)) : zI X d 85 [.inr 5, .inl (nI i)] μ (fun r μ' => μ' = μ ∧ (w = 1000 ∧ r = 1 ∨ w ≠ 1000 ∧ r = 0)) := by
  have := wok_lt hw
  refine zI_at [0, 1] (by omega) rfl (k85_0 ⟨_, c_shapeOf (by omega) h hi, fun r μ1 hr => ?_⟩)
  obtain ⟨rfl, rfl⟩ := hr
  refine k85_5 (fun z => ⟨rfl, Or.inr ⟨?_, rfl⟩⟩) (fun z => ⟨rfl, Or.inl ⟨?_, rfl⟩⟩)
  · rw [zb_1000, nI_inj (by omega) (by omega)] at z; exact z
  · rw [zb_1000, nI_inj (by omega) (by omega)] at z; exact z
theorem c_isTrue (hd : 2 ≤ d) (h : CV μ vs) (hw : wok w) (hi : vs[i]? = some (w, num, ps)) : zI X d 87 [.inr 5, .inl (nI i)] μ (fun r μ' => μ' = μ ∧ (w = 1001 ∧ r = 1 ∨ w ≠ 1001 ∧ r = 0)) := by
  have := wok_lt hw
  refine zI_at [0, 1] (by omega) rfl (k87_0 ⟨_, c_shapeOf (by omega) h hi, fun r μ1 hr => ?_⟩)
  obtain ⟨rfl, rfl⟩ := hr
  refine k87_5 (fun z => ⟨rfl, Or.inr ⟨?_, rfl⟩⟩) (fun z => ⟨rfl, Or.inl ⟨?_, rfl⟩⟩)
  · rw [zb_1001, nI_inj (by omega) (by omega)] at z; exact z
  · rw [zb_1001, nI_inj (by omega) (by omega)] at z; exact z
theorem c_isPair (hd : 2 ≤ d) (h : CV μ vs) (hw : wok w) (hi : vs[i]? = some (w, num, ps)) : zI X d 88 [.inr 5, .inl (nI i)] μ (fun r μ' => μ' = μ ∧ (w = 1003 ∧ r = 1 ∨ w ≠ 1003 ∧ r = 0)) := by
  have := wok_lt hw
  refine zI_at [0, 1] (by omega) rfl (k88_0 ⟨_, c_shapeOf (by omega) h hi, fun r μ1 hr => ?_⟩)
  obtain ⟨rfl, rfl⟩ := hr
  refine k88_5 (fun z => ⟨rfl, Or.inr ⟨?_, rfl⟩⟩) (fun z => ⟨rfl, Or.inl ⟨?_, rfl⟩⟩)
  · rw [zb_1003, nI_inj (by omega) (by omega)] at z; exact z
  · rw [zb_1003, nI_inj (by omega) (by omega)] at z; exact z
theorem c_isTruth (hd : 2 ≤ d) (h : CV μ vs) (hw : wok w) (hi : vs[i]? = some (w, num, ps)) : zI X d 86 [.inr 5, .inl (nI i)] μ (fun r μ' => μ' = μ ∧ ((w = 1001 ∨ w = 1002) ∧ r = 1 ∨ ¬ (w = 1001 ∨ w = 1002) ∧ r = 0)) := by
  have := wok_lt hw
  refine zI_at [0, 1] (by omega) rfl (k86_0 ⟨_, c_shapeOf (by omega) h hi, fun r μ1 hr => ?_⟩)
  obtain ⟨rfl, rfl⟩ := hr
  refine k86_5 (fun z => ⟨rfl, Or.inl ⟨Or.inl ?_, rfl⟩⟩) (fun z => ⟨_, c_shapeOf (by omega) h hi, fun r μ2 hr => ?_⟩)
  · rw [zb_1001, nI_inj (by omega) (by omega)] at z; exact z
  · obtain ⟨rfl, rfl⟩ := hr
    rw [zb_1001, nI_inj (by omega) (by omega)] at z
    refine k86_16 (fun z2 => ⟨rfl, Or.inr ⟨?_, rfl⟩⟩) (fun z2 => ⟨rfl, Or.inl ⟨Or.inr ?_, rfl⟩⟩)
    · rw [zb_1002, nI_inj (by omega) (by omega)] at z2; omega
    · rw [zb_1002, nI_inj (by omega) (by omega)] at z2; exact z2
theorem nI_s1000 (h : wok w) : nI w - 1000 = nI (w - 1000) := by
  unfold wok at h
  rw [zb_1000, nI_sub (by omega)]
theorem c_makerOf (hd : 2 ≤ d) (h : CV μ vs) (hw : wok w) (hi : vs[i]? = some (w, num, ps)) : zI X d 90 [.inr 5, .inl (nI i)] μ (fun r μ' => μ' = μ ∧ r = nI (w - 1000)) := by
  refine zI_at [0, 1] (by omega) rfl (k90_0 ⟨_, c_shapeOf (by omega) h hi, fun r μ1 hr => ?_⟩)
  obtain ⟨rfl, rfl⟩ := hr
  exact k90_5 ⟨rfl, nI_s1000 hw⟩
theorem c_isMade (hd : 2 ≤ d) (h : CV μ vs) (hw : wok w) (hi : vs[i]? = some (w, num, ps)) : zI X d 89 [.inr 5, .inl (nI i)] μ (fun r μ' => μ' = μ ∧ (1011 ≤ w ∧ r = 1 ∨ ¬ 1011 ≤ w ∧ r = 0)) := by
  have h2 := wok_lt hw
  refine zI_at [0, 1] (by omega) rfl (k89_0 ⟨_, c_shapeOf (by omega) h hi, fun r μ1 hr => ?_⟩)
  obtain ⟨rfl, rfl⟩ := hr
  refine k89_5 ⟨_, c_isMaker (by omega), fun r μ2 hr => ?_⟩
  rw [nI_s1000 hw, nI_t (by omega)] at hr
  unfold wok at hw
  obtain ⟨rfl, ⟨q1, q2, rfl⟩ | ⟨q, rfl⟩⟩ := hr
  · exact k89_12 (Or.inr rfl) ⟨rfl, Or.inl ⟨by omega, rfl⟩⟩
  · exact k89_12 (Or.inl rfl) ⟨rfl, Or.inr ⟨by omega, rfl⟩⟩
theorem c_numberOf (hd : 3 ≤ d) (h : CV μ vs) (hw : wok w) (hi : vs[i]? = some (w, num, ps)) : zI X d 91 [.inr 5, .inl (nI i)] μ (fun r μ' => μ' = μ ∧ r = if w = 1000 then num else 0) := by
  have hl := (List.getElem?_eq_some_iff.mp hi).1
  have h1 := h.1
  refine zI_at [0, 1] (by omega) rfl (k91_0 ⟨_, c_isNumber (by omega) h hw hi, fun r μ1 hr => ?_⟩)
  obtain ⟨rfl, ⟨q, rfl⟩ | ⟨q, rfl⟩⟩ := hr
  · refine k91_5 (fun z => absurd z zn_10) (fun _ => by rw [nI_t (by omega)]; omega) (fun _ => ⟨rfl, ?_⟩)
    rw [nI_c (by omega), (h.2.2 i w num ps hi).2.1, if_pos q, if_pos q]
  · exact k91_5 (fun _ => ⟨rfl, by rw [if_neg q]⟩) (fun z => absurd rfl z) (fun z => absurd rfl z)
theorem c_partCount (hd : 3 ≤ d) (h : CV μ vs) (hw : wok w) (hi : vs[i]? = some (w, num, ps)) : zI X d 92 [.inr 5, .inl (nI i)] μ (fun r μ' => μ' = μ ∧ r = nI (vpn w)) := by
  refine zI_at [0, 1] (by omega) rfl (k92_0 ⟨_, c_isPair (by omega) h hw hi, fun r μ1 hr => ?_⟩)
  obtain ⟨rfl, ⟨q, rfl⟩ | ⟨q, rfl⟩⟩ := hr
  · exact k92_5 (fun z => absurd z zn_10) (fun _ => ⟨rfl, by unfold vpn; rw [if_pos q]; rfl⟩)
  · refine k92_5 (fun _ => ⟨_, c_isMade (by omega) h hw hi, fun r μ2 hr => ?_⟩) (fun z => absurd rfl z)
    obtain ⟨rfl, ⟨q2, rfl⟩ | ⟨q2, rfl⟩⟩ := hr
    · refine k92_15 (fun z => absurd z zn_10) (fun _ => ⟨_, c_makerOf (by omega) h hw hi, fun r μ3 hr => ?_⟩)
      obtain ⟨rfl, rfl⟩ := hr
      unfold wok at hw
      refine k92_26 (by rw [nI_t (by omega)]; omega) ⟨rfl, ?_⟩
      rw [nI_c (by omega), pt_pt _ (by omega)]
      unfold vpn
      rw [if_neg q, if_pos (by omega)]
    · refine k92_15 (fun _ => ⟨rfl, ?_⟩) (fun z => absurd rfl z)
      unfold vpn
      rw [if_neg q, if_neg (by omega)]
      rfl
theorem c_vpart (hd : 4 ≤ d) (h : CV μ vs) (hw : wok w) (hi : vs[i]? = some (w, num, ps)) (hl : ps.length = vpn w) {k : Nat} (hk : k < ps.length) : zI X d 93 [.inr 5, .inl (nI i), .inl (nI k)] μ (fun r μ' => μ' = μ ∧ r = gp ps k) := by
  have hil := (List.getElem?_eq_some_iff.mp hi).1
  have h1 := h.1
  have h3 := vpn_le w
  obtain ⟨g1, g2, g3, g4⟩ := h.2.2 i w num ps hi
  have hne : w ≠ 1000 := by
    rintro rfl
    rw [hl] at hk
    exact absurd hk (Nat.not_lt_zero k)
  have hlt : nI k < nI (vpn w) := nI_lt (by omega) (by omega)
  have b : 0 ≤ (nI i).toInt ∧ (nI i).toInt < ((600 : Nat) : Int) := by rw [nI_t (by omega)]; omega
  refine zI_at [0, 1, 2] (by omega) rfl (k93_0 ⟨_, c_partCount (by omega) h hw hi, fun r μ1 hr => ?_⟩)
  obtain ⟨rfl, rfl⟩ := hr
  rw [if_neg hne] at g2
  refine k93_6 (fun _ _ _ => b) (fun _ z1 z2 => ⟨rfl, ?_⟩) (fun _ _ _ => b) (fun _ z1 z2 => ⟨rfl, ?_⟩) (fun _ _ => b) (fun _ z => ⟨rfl, ?_⟩) (fun z => absurd hlt z)
  · rw [← nI_0, nI_inj (by omega) (by omega)] at z1
    rw [← nI_one, nI_inj (by omega) (by omega)] at z2
    rw [nI_c (by omega), g4, show k = 2 by omega]
  · rw [← nI_one, nI_inj (by omega) (by omega)] at z2
    rw [nI_c (by omega), g3, z2]
  · rw [← nI_0, nI_inj (by omega) (by omega)] at z
    rw [nI_c (by omega), g2, z]
def cv_put (μ : zm_u) (n w : Nat) (f s t : Int32) : zm_u := zm_up (zm_up (zm_up (zm_up (zm_up μ 16 n (nI w)) 17 n f) 18 n s) 19 n t) 5 6 (nI (n + 1))
theorem c_vput (hd : 1 ≤ d) (h : CV μ vs) (hl : vs.length < 600) {f s t : Int32} {w' : Int32} (hw' : w' = nI w) : zI X d 84 [.inr 5, .inl w', .inl f, .inl s, .inl t] μ (fun r μ' => r = nI vs.length ∧ μ' = cv_put μ vs.length w f s t) := by
  subst hw'
  have e : (600 : Int32) = nI 600 := rfl
  have hlt : μ 5 6 < 600 := by rw [h.2.1, e]; exact nI_lt (by omega) (by omega)
  have b : 0 ≤ (μ 5 6).toInt ∧ (μ 5 6).toInt < ((600 : Nat) : Int) := by rw [h.2.1, nI_t (by omega)]; omega
  refine zI_at [0, 1, 2, 3, 4] hd rfl (k84_0 (fun _ => b) (fun _ => b) (fun _ => b) (fun _ => b) (fun _ => ⟨?_, ?_⟩) (fun z => absurd hlt z))
  · rw [zn_as, h.2.1]
  · unfold cv_put
    rw [h.2.1, nI_c (by omega), nI_1]
theorem CV_put (h : CV μ vs) (hl : vs.length < 600) {f s t : Int32} (hf : f = if w = 1000 then num else gp ps 0) (hs : s = gp ps 1) (ht : t = gp ps 2) : CV (cv_put μ vs.length w f s t) (vs ++ [(w, num, ps)]) := by
  refine ⟨by simp; omega, ?_, fun i w' num' ps' hi => ?_⟩
  · unfold cv_put
    rw [zm_up_self]
    simp [upd]
  · unfold cv_put
    rw [zm_up_row (show 16 ≠ 5 by decide), zm_up_row (show 16 ≠ 19 by decide), zm_up_row (show 16 ≠ 18 by decide), zm_up_row (show 16 ≠ 17 by decide), zm_up_self,
      zm_up_row (show 17 ≠ 5 by decide), zm_up_row (show 17 ≠ 19 by decide), zm_up_row (show 17 ≠ 18 by decide), zm_up_self, zm_up_row (show 17 ≠ 16 by decide),
      zm_up_row (show 18 ≠ 5 by decide), zm_up_row (show 18 ≠ 19 by decide), zm_up_self, zm_up_row (show 18 ≠ 17 by decide), zm_up_row (show 18 ≠ 16 by decide),
      zm_up_row (show 19 ≠ 5 by decide), zm_up_self, zm_up_row (show 19 ≠ 18 by decide), zm_up_row (show 19 ≠ 17 by decide), zm_up_row (show 19 ≠ 16 by decide)]
    simp only [upd]
    by_cases e : i = vs.length
    · subst e
      rw [List.getElem?_append_right (Nat.le_refl _), Nat.sub_self] at hi
      simp only [List.getElem?_cons_zero, Option.some.injEq, Prod.mk.injEq] at hi
      obtain ⟨rfl, rfl, rfl⟩ := hi
      rw [if_pos rfl, if_pos rfl, if_pos rfl, if_pos rfl]
      exact ⟨rfl, hf, hs, ht⟩
    · have hlt : i < vs.length := by
        have := (List.getElem?_eq_some_iff.mp hi).1
        simp at this
        omega
      rw [List.getElem?_append_left hlt] at hi
      rw [if_neg e, if_neg e, if_neg e, if_neg e]
      exact h.2.2 i w' num' ps' hi
end VA

section MV
variable {X : zm_T} {d : Nat} {μ : zm_u} {vs : List vE} {i w : Nat} {num : Int32} {ps : List Nat}
def RV (μ : zm_u) (vs : List vE) : Prop := μ 22 37 = nI vs.length ∧ ∀ (i w : Nat) (num : Int32) (ps : List Nat), vs[i]? = some (w, num, ps) → μ 49 i = nI w ∧ μ 50 i = num ∧ μ 51 (3 * i) = gp ps 0 ∧ μ 51 (3 * i + 1) = gp ps 1 ∧ μ 51 (3 * i + 2) = gp ps 2
def rv_put (μ : zm_u) (n w : Nat) (num a b c : Int32) : zm_u := zm_up (zm_up (zm_up (zm_up (zm_up (zm_up μ 49 n (nI w)) 50 n num) 51 (3 * n) a) 51 (3 * n + 1) b) 51 (3 * n + 2) c) 22 37 (nI (n + 1))
theorem nI_3 (t : Nat) : (3 : Int32) * nI t = nI (3 * t) := (Int32.ofNat_mul 3 t).symm
theorem m_newValue (hd : 1 ≤ d) (h : RV μ vs) (hl : vs.length < 1000) {n a b c w' : Int32} (hw : w' = nI w) : zI X d 143 [.inr 22, .inl w', .inl n, .inl a, .inl b, .inl c] μ (fun r μ' => r = nI vs.length ∧ μ' = rv_put μ vs.length w n a b c) := by
  subst hw
  have e2 : (2 : Int32) = nI 2 := rfl
  have b1 : 0 ≤ (μ 22 37).toInt ∧ (μ 22 37).toInt < ((1300 : Nat) : Int) := by rw [h.1, nI_t (by omega)]; omega
  refine zI_at [0, 1, 2, 3, 4, 5] hd rfl (k143_0 b1 b1 ?_ ?_ ?_ ⟨?_, ?_⟩)
  · rw [h.1, nI_3, nI_t (by omega)]; omega
  · rw [h.1, nI_3, nI_1, nI_t (by omega)]; omega
  · rw [h.1, nI_3, e2, nI_add, nI_t (by omega)]; omega
  · rw [zn_as, h.1]
  · unfold rv_put
    rw [h.1, nI_3, nI_1, nI_1, e2, nI_add, nI_c (by omega), nI_c (by omega), nI_c (by omega), nI_c (by omega)]
theorem m_truth (hd : 2 ≤ d) (h : RV μ vs) (hl : vs.length < 1000) {x : Int32} : zI X d 144 [.inr 22, .inl x] μ (fun r μ' => r = nI vs.length ∧ μ' = rv_put μ vs.length (if x = 0 then 1002 else 1001) 0 (-1) (-1) (-1)) := by
  refine zI_at [0, 1] (by omega) rfl (k144_0 (fun z => ?_) (fun z => ?_))
  · rw [if_pos z]
    refine k144_14 ⟨_, m_newValue (w := 1002) (by omega) h hl rfl, fun r μ1 hr => k144_21 hr⟩
  · rw [if_neg z]
    refine k144_14 ⟨_, m_newValue (w := 1001) (by omega) h hl rfl, fun r μ1 hr => k144_21 hr⟩
theorem rv_row {n : Nat} {a b c num' : Int32} {q : Nat} (h1 : q ≠ 22) (h2 : q ≠ 49) (h3 : q ≠ 50) (h4 : q ≠ 51) : rv_put μ n w num' a b c q = μ q := by
  unfold rv_put
  rw [zm_up_row h1, zm_up_row h4, zm_up_row h4, zm_up_row h4, zm_up_row h3, zm_up_row h2]
theorem rv_22 {n : Nat} {a b c num' : Int32} : rv_put μ n w num' a b c 22 = upd (μ 22) 37 (nI (n + 1)) := by
  unfold rv_put
  rw [zm_up_self, zm_up_row (by decide), zm_up_row (by decide), zm_up_row (by decide), zm_up_row (by decide), zm_up_row (by decide)]
theorem RV_put (h : RV μ vs) {a b c : Int32} (ha : a = gp ps 0) (hb : b = gp ps 1) (hc : c = gp ps 2) : RV (rv_put μ vs.length w num a b c) (vs ++ [(w, num, ps)]) := by
  refine ⟨?_, fun i w' num' ps' hi => ?_⟩
  · rw [rv_22]
    simp [upd]
  · unfold rv_put
    rw [zm_up_at, zm_up_at, zm_up_at, zm_up_at, zm_up_at, zm_up_at, zm_up_at, zm_up_at, zm_up_at, zm_up_at, zm_up_at, zm_up_at, zm_up_at, zm_up_at, zm_up_at, zm_up_at, zm_up_at, zm_up_at, zm_up_at, zm_up_at, zm_up_at, zm_up_at, zm_up_at, zm_up_at, zm_up_at, zm_up_at, zm_up_at, zm_up_at, zm_up_at, zm_up_at]
    by_cases e : i = vs.length
    · subst e
      rw [List.getElem?_append_right (Nat.le_refl _), Nat.sub_self] at hi
      simp only [List.getElem?_cons_zero, Option.some.injEq, Prod.mk.injEq] at hi
      obtain ⟨rfl, rfl, rfl⟩ := hi
      refine ⟨?_, ?_, ?_, ?_, ?_⟩
      · simp
      · simp
      · simp; exact ha
      · simp; exact hb
      · simp; exact hc
    · have hlt : i < vs.length := by
        have := (List.getElem?_eq_some_iff.mp hi).1
        simp at this
        omega
      rw [List.getElem?_append_left hlt] at hi
      obtain ⟨g1, g2, g3, g4, g5⟩ := h.2 i w' num' ps' hi
      refine ⟨?_, ?_, ?_, ?_, ?_⟩
      · simp [e]; exact g1
      · simp [e]; exact g2
      · rw [if_neg (by omega), if_neg (by omega), if_neg (by omega), if_neg (by omega), if_neg (by omega), if_neg (by omega)]; exact g3
      · rw [if_neg (by omega), if_neg (by omega), if_neg (by omega), if_neg (by omega), if_neg (by omega), if_neg (by omega)]; exact g4
      · rw [if_neg (by omega), if_neg (by omega), if_neg (by omega), if_neg (by omega), if_neg (by omega), if_neg (by omega)]; exact g5
def st_mem (μ : zm_u) (p f s B t : Nat) : zm_u := zm_up (zm_up (zm_up (zm_up (zm_up (zm_up μ 22 43 (nI (s + 1))) 53 f (nI p)) 52 f 0) 54 f (nI B)) 55 f (nI t)) 22 27 (nI (f + 1))
def started (μ : zm_u) (p f s B t : Nat) : zm_u := if s = 600 then zm_up μ 22 55 1 else st_mem μ p f s B t
theorem m_start (hd : 1 ≤ d) {p f s B t : Nat} (hs : s ≤ 600) (hf : f < 64) (h43 : μ 22 43 = nI s) (h27 : μ 22 27 = nI f) (h50 : μ 22 50 = nI B) (h51 : μ 22 51 = nI t) {x : Int32} (hx : x = nI p) : zO X d 145 [.inr 22, .inl x] μ (fun μ' => μ' = started μ p f s B t) := by
  subst hx
  have e6 : (600 : Int32) = nI 600 := rfl
  have b1 : 0 ≤ (μ 22 27).toInt ∧ (μ 22 27).toInt < ((64 : Nat) : Int) := by rw [h27, nI_t (by omega)]; omega
  refine zO_at [0, 1] hd rfl (k145_0 (fun _ => b1) (fun _ => b1) (fun _ => b1) (fun _ => b1) (fun z => ?_) (fun _ => Or.inr rfl) (fun z => ?_))
  · rw [h43, e6, nI_inj (by omega) (by omega)] at z
    unfold started
    rw [if_neg z]
    unfold st_mem
    rw [h43, h27, h50, h51, nI_c (by omega), nI_1, nI_1]
  · rw [h43, e6, nI_inj (by omega) (by omega)] at z
    unfold started
    rw [if_pos z]
def gv_mem (μ : zm_u) (v : Int32) (f B t : Nat) : zm_u := zm_up (zm_up (zm_up (zm_up μ 22 27 (nI f)) 22 50 (nI B)) 22 51 (nI t)) 22 53 v
theorem m_give (hd : 1 ≤ d) {f B t : Nat} {v : Int32} (hf : f < 64) (h27 : μ 22 27 = nI (f + 1)) (h54 : μ 54 f = nI B) (h55 : μ 55 f = nI t) : zO X d 146 [.inr 22, .inl v] μ (fun μ' => μ' = gv_mem μ v f B t) := by
  have e1 : μ 22 27 - 1 = nI f := by rw [h27, nI_pr]
  have b1 : 0 ≤ (μ 22 27 - 1).toInt ∧ (μ 22 27 - 1).toInt < ((64 : Nat) : Int) := by rw [e1, nI_t (by omega)]; omega
  refine zO_at [0, 1] hd rfl (k146_0 b1 b1 ?_)
  unfold gv_mem
  rw [e1, nI_c (by omega), h54, h55]
theorem m_isMade (hd : 1 ≤ d) (hw : wok w) : zI X d 147 [.inl (nI w)] μ (fun r μ' => μ' = μ ∧ (1011 ≤ w ∧ r = 1 ∨ ¬ 1011 ≤ w ∧ r = 0)) := by
  have e : (1010 : Int32) = nI 1010 := rfl
  have := wok_lt hw
  refine zI_at [0] hd rfl (k147_0 (fun z => ⟨rfl, Or.inr ⟨?_, rfl⟩⟩) (fun z => ⟨rfl, Or.inl ⟨?_, rfl⟩⟩))
  · rw [e, nI_leI (by omega) (by omega)] at z; omega
  · rw [e, nI_leI (by omega) (by omega)] at z; omega

def su_ok (k st w : Nat) : Prop := match k with
  | 3 => w = 1000
  | 4 => w = 1000
  | 11 => w = 1000
  | 5 => 1 < st ∨ w = 1001 ∨ w = 1002
  | 12 => w = 1001 ∨ w = 1002
  | 7 => w = 1003
  | 8 => w = 1003
  | 6 => True
  | 9 => True
  | 10 => True
  | _ => 1011 ≤ w ∨ (k = 17 ∧ 1 < st)
theorem m_suits (hd : 2 ≤ d) (h : RV μ vs) (hw : wok w) {v k st : Nat} (hv : vs[v]? = some (w, num, ps)) (hl : vs.length < 1000) (hg : μ 22 53 = nI v) (hk : 3 ≤ k ∧ k ≤ 17) (hst : st < 100) : zI X d 148 [.inr 22, .inl (nI k), .inl (nI st)] μ (fun r μ' => μ' = μ ∧ (su_ok k st w ∧ r = 1 ∨ ¬ su_ok k st w ∧ r = 0)) := by
  have hvl := (List.getElem?_eq_some_iff.mp hv).1
  have hwl := wok_lt hw
  have hb : 0 ≤ (μ 22 53).toInt ∧ (μ 22 53).toInt < ((1300 : Nat) : Int) := by rw [hg, nI_t (by omega)]; omega
  have hW : μ 49 (μ 22 53).toNatClampNeg = nI w := by rw [hg, nI_c (by omega)]; exact (h.2 v w num ps hv).1
  have q0 : (μ 49 (μ 22 53).toNatClampNeg = 1000) ↔ w = 1000 := by rw [hW, zb_1000, nI_inj (by omega) (by omega)]
  have q1 : (μ 49 (μ 22 53).toNatClampNeg = 1001) ↔ w = 1001 := by rw [hW, zb_1001, nI_inj (by omega) (by omega)]
  have q2 : (μ 49 (μ 22 53).toNatClampNeg = 1002) ↔ w = 1002 := by rw [hW, zb_1002, nI_inj (by omega) (by omega)]
  have q3 : (μ 49 (μ 22 53).toNatClampNeg = 1003) ↔ w = 1003 := by rw [hW, zb_1003, nI_inj (by omega) (by omega)]
  have s1 : ((1 : Int32) < nI st) ↔ 1 < st := by rw [← nI_one, nI_ltI (by omega) (by omega)]
  have s2 : (nI st ≤ (1 : Int32)) ↔ st ≤ 1 := by rw [← nI_one, nI_leI (by omega) (by omega)]
  have last : (k = 13 ∨ k = 14 ∨ k = 15 ∨ k = 16 ∨ k = 17) → ∃ G : Int32 → zm_u → Prop, zI X (d - 1) 147 [.inl (μ 49 (μ 22 53).toNatClampNeg)] μ G ∧ ∀ (r : Int32) (μ1 : zm_u), G r μ1 → zV X (d - 1) 148 184 [(1, .inl (nI k)), (2, .inl (nI st))] [.inl r] μ1 (zpi (fun r μ' => μ' = μ ∧ (su_ok k st w ∧ r = 1 ∨ ¬ su_ok k st w ∧ r = 0))) := by
    intro hkk
    have e17 : (17 : Int32) = nI 17 := rfl
    have hsu : su_ok k st w ↔ (1011 ≤ w ∨ (k = 17 ∧ 1 < st)) := by rcases hkk with rfl | rfl | rfl | rfl | rfl <;> exact Iff.rfl
    rw [hW, hsu]
    refine ⟨_, m_isMade (by omega) hw, fun r μ1 hr => ?_⟩
    obtain ⟨rfl, ⟨q, rfl⟩ | ⟨q, rfl⟩⟩ := hr
    · exact k148_184 (fun _ => ⟨rfl, Or.inl ⟨Or.inl q, rfl⟩⟩) (fun z => absurd z zn_10) (fun z => absurd z zn_10) (fun z => absurd z zn_10)
    · refine k148_184 (fun z => absurd rfl z) (fun _ z => ⟨rfl, Or.inr ⟨?_, rfl⟩⟩) (fun _ _ z => ⟨rfl, Or.inr ⟨?_, rfl⟩⟩) (fun _ z1 z2 => ⟨rfl, Or.inl ⟨Or.inr ⟨?_, ?_⟩, rfl⟩⟩)
      · rw [e17, nI_inj (by omega) (by omega)] at z; omega
      · rw [s2] at z; omega
      · rw [e17, nI_inj (by omega) (by omega)] at z1; exact z1
      · rw [s2] at z2; omega
  refine zI_at [0, 1, 2] (by omega) rfl ?_
  obtain ⟨hk1, hk2⟩ := hk
  rcases (show k = 3 ∨ k = 4 ∨ k = 5 ∨ k = 6 ∨ k = 7 ∨ k = 8 ∨ k = 9 ∨ k = 10 ∨ k = 11 ∨ k = 12 ∨ k = 13 ∨ k = 14 ∨ k = 15 ∨ k = 16 ∨ k = 17 by omega) with rfl | rfl | rfl | rfl | rfl | rfl | rfl | rfl | rfl | rfl | rfl | rfl | rfl | rfl | rfl
  all_goals (refine k148_0 hb ?_ ?_ ?_ ?_ ?_ ?_ ?_ ?_ ?_ ?_ ?_ ?_ ?_ ?_ ?_ ?_ ?_ ?_ ?_ ?_ ?_ <;> intros <;> first
    | contradiction
    | exact last (by omega)
    | exact ⟨rfl, Or.inl ⟨trivial, rfl⟩⟩
    | exact ⟨rfl, Or.inl ⟨by (first | (show w = 1000) | (show w = 1003) | (show w = 1001 ∨ w = 1002) | (show 1 < st ∨ w = 1001 ∨ w = 1002)); (try simp only [q0, q1, q2, q3, s1] at *) <;> omega, rfl⟩⟩
    | exact ⟨rfl, Or.inr ⟨by (first | (show ¬ w = 1000) | (show ¬ w = 1003) | (show ¬ (w = 1001 ∨ w = 1002)) | (show ¬ (1 < st ∨ w = 1001 ∨ w = 1002))); (try simp only [q0, q1, q2, q3, s1] at *) <;> omega, rfl⟩⟩)
end MV

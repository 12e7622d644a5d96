def SA (μ0 μ : zm_u) : Prop := μ 9 = μ0 9 ∧ μ 10 = μ0 10 ∧ μ 11 = μ0 11 ∧ μ 27 = μ0 27 ∧ μ 28 = μ0 28 ∧ μ 2 = μ0 2
def CE (μ : zm_u) (vs : List vE) (s b t B : Nat) (E : Nat → Nat) : Prop := CV μ vs ∧ μ 4 3 = nI B ∧ μ 4 4 = nI t ∧ μ 4 5 = nI b ∧ μ 4 6 = nI s ∧ ∀ i, i < t → μ 15 i = nI (E i)
def CFr (μ μ' : zm_u) : Prop := (∀ c, c ≠ 4 → c ≠ 5 → c ≠ 15 → c ≠ 16 → c ≠ 17 → c ≠ 18 → c ≠ 19 → μ' c = μ c) ∧ ∀ i, i ≠ 6 → μ' 5 i = μ 5 i
def RE (μ : zm_u) (vs : List vE) (s b t B : Nat) (E : Nat → Nat) (f : Nat) : Prop := RV μ vs ∧ μ 22 43 = nI s ∧ μ 22 52 = nI b ∧ μ 22 50 = nI B ∧ μ 22 51 = nI t ∧ (∀ i, i < t → μ 57 i = nI (E i)) ∧ μ 22 27 = nI f ∧ μ 22 54 = 0 ∧ μ 22 55 = 0
def RFr (f : Nat) (μ μ' : zm_u) : Prop := (∀ i, i < f → μ' 52 i = μ 52 i ∧ μ' 53 i = μ 53 i ∧ μ' 54 i = μ 54 i ∧ μ' 55 i = μ 55 i) ∧ (∀ i, i < 3 * f → μ' 56 i = μ 56 i) ∧
  (∀ c, c < 22 ∨ (22 < c ∧ c < 49) ∨ 57 < c → μ' c = μ c) ∧ ∀ i, i ≠ 27 → i ≠ 37 → i ≠ 43 → i ≠ 50 → i ≠ 51 → i ≠ 52 → i ≠ 53 → i ≠ 54 → i ≠ 55 → μ' 22 i = μ 22 i
def RO (μ : zm_u) (o : Int32) (vs : List vE) (s b t B : Nat) (E : Nat → Nat) (f : Nat) : Prop := (∃ v, v < vs.length ∧ o = nI v ∧ RE μ vs s b t B E f ∧ μ 22 53 = nI v) ∨ (o = -1 ∧ μ 22 43 = nI s ∧ μ 22 55 = 1 ∧ μ 22 54 = 0) ∨ (o = -2 ∧ μ 22 43 = nI s ∧ μ 22 54 = 1 ∧ μ 22 55 = 0)
def EInv (e b : Nat) (vs : List vE) (s t B f : Nat) (E : Nat → Nat) : Prop := vs.length ≤ s ∧ s ≤ 600 ∧ b ≤ 4 ∧ B ≤ t ∧ t + 3 * (e - 1) + 16 * (4 - b) ≤ 79 ∧ f + e + 6 * (4 - b) ≤ 30 ∧ (∀ i, i < t → E i < vs.length) ∧ VW vs
def EPost (vs : List vE) (s : Nat) (o : Int32) (vs' : List vE) (s' : Nat) : Prop := (∃ r, vs' = vs ++ r) ∧ VW vs' ∧ vs'.length + s ≤ vs.length + s' ∧ s ≤ s' ∧ s' ≤ 600 ∧ ((∃ v, v < vs'.length ∧ o = nI v) ∨ o = -1 ∨ o = -2)
def CEv (X : zm_T) (d : Nat) (μ0 : zm_u) (q : Nat) (vs : List vE) (s b t B : Nat) (E : Nat → Nat) (o : Int32) (vs' : List vE) (s' : Nat) : Prop :=
  ∀ μ, SA μ0 μ → CE μ vs s b t B E → zI X d 68 [.inr 4, .inl (nI q)] μ (fun r μ' => r = o ∧ CE μ' vs' s' b t B E ∧ CFr μ μ')
def REv (X : zm_T) (d : Nat) (μ0 : zm_u) (p : Nat) (vs : List vE) (s b t B : Nat) (E : Nat → Nat) (f : Nat) (o : Int32) (vs' : List vE) (s' : Nat) : Prop :=
  ∀ μ, SA μ0 μ → RE μ vs s b t B E f → ∀ P : Int32 → zm_u → Prop, (∀ μ', RFr f μ μ' → RO μ' o vs' s' b t B E f → zV X d 155 47 [(0, .inr 22)] [] μ' (zpi P)) → zV X d 155 47 [(0, .inr 22)] [] (started μ p f s B t) (zpi P)

def Jv (X : zm_T) (L : Nat) (μ0 : zm_u) (dc dr g : Nat) : Prop := ∀ (e p u n b : Nat) (vs : List vE) (s t B f : Nat) (E : Nat → Nat), 7 * (4 - b) + e ≤ g → Tm L μ0 e p u n → EInv e b vs s t B f E →
  ∃ (o : Int32) (vs' : List vE) (s' : Nat), EPost vs s o vs' s' ∧ CEv X dc μ0 (u + n - 1) vs s b t B E o vs' s' ∧ REv X dr μ0 p vs s b t B E f o vs' s'
section ED
variable {X : zm_T} {d L : Nat} {μ μ' μ0 μ1 : zm_u} {vs vs' : List vE} {s b t B f i w : Nat} {E : Nat → Nat} {num o x : Int32} {ps : List Nat}
theorem Tm_SA {e p u n : Nat} (h : SA μ0 μ) (hT : Tm L μ0 e p u n) : Tm L μ e p u n := by
  obtain ⟨h9, h10, h11, h27, h28, _⟩ := h
  have hp := Tm_pos hT
  exact Tm_move (Nat.le_refl L) e p u p u n hp.2.2 hp.2.1 (fun i _ => by rw [h27, h28]; exact ⟨rfl, rfl⟩) (fun i _ => by rw [h9, h10, h11]; exact ⟨rfl, rfl, rfl⟩) hT
theorem Tl_SA {e p u : Nat} {ns : List Nat} (h : SA μ0 μ) (hT : Tl (Tm L μ0 e) p u ns) : Tl (Tm L μ e) p u ns := Tl_imp ns _ _ (fun _ _ _ q => Tm_SA h q) hT
theorem CFr_rf : CFr μ μ := ⟨fun _ _ _ _ _ _ _ _ => rfl, fun _ _ => rfl⟩
theorem CFr_tr (h1 : CFr μ μ1) (h2 : CFr μ1 μ') : CFr μ μ' := ⟨fun c a b d e f g i => (h2.1 c a b d e f g i).trans (h1.1 c a b d e f g i), fun i a => (h2.2 i a).trans (h1.2 i a)⟩
theorem SA_C (h : SA μ0 μ) (hf : CFr μ μ') : SA μ0 μ' := by
  obtain ⟨a1, a2, a3, a4, a5, a6⟩ := h
  have q := hf.1
  exact ⟨(q 9 (by decide) (by decide) (by decide) (by decide) (by decide) (by decide) (by decide)).trans a1, (q 10 (by decide) (by decide) (by decide) (by decide) (by decide) (by decide) (by decide)).trans a2, (q 11 (by decide) (by decide) (by decide) (by decide) (by decide) (by decide) (by decide)).trans a3, (q 27 (by decide) (by decide) (by decide) (by decide) (by decide) (by decide) (by decide)).trans a4, (q 28 (by decide) (by decide) (by decide) (by decide) (by decide) (by decide) (by decide)).trans a5, (q 2 (by decide) (by decide) (by decide) (by decide) (by decide) (by decide) (by decide)).trans a6⟩
theorem SA_R (h : SA μ0 μ) (hf : RFr f μ μ') : SA μ0 μ' := by
  obtain ⟨a1, a2, a3, a4, a5, a6⟩ := h
  have q := hf.2.2.1
  exact ⟨(q 9 (by decide)).trans a1, (q 10 (by decide)).trans a2, (q 11 (by decide)).trans a3, (q 27 (by decide)).trans a4, (q 28 (by decide)).trans a5, (q 2 (by decide)).trans a6⟩
theorem RFr_rf : RFr f μ μ := ⟨fun _ _ => ⟨rfl, rfl, rfl, rfl⟩, fun _ _ => rfl, fun _ _ => rfl, fun _ _ _ _ _ _ _ _ _ _ => rfl⟩
theorem RFr_tr (h1 : RFr f μ μ1) (h2 : RFr f μ1 μ') : RFr f μ μ' := by
  refine ⟨fun i hi => ?_, fun i hi => (h2.2.1 i hi).trans (h1.2.1 i hi), fun c hc => (h2.2.2.1 c hc).trans (h1.2.2.1 c hc), fun i q1 q2 q3 q4 q5 q6 q7 q8 q9 => (h2.2.2.2 i q1 q2 q3 q4 q5 q6 q7 q8 q9).trans (h1.2.2.2 i q1 q2 q3 q4 q5 q6 q7 q8 q9)⟩
  obtain ⟨a1, a2, a3, a4⟩ := h1.1 i hi
  obtain ⟨b1, b2, b3, b4⟩ := h2.1 i hi
  exact ⟨b1.trans a1, b2.trans a2, b3.trans a3, b4.trans a4⟩
theorem RFr_le {f' : Nat} (h : RFr f' μ μ') (hf : f ≤ f') : RFr f μ μ' := ⟨fun i hi => h.1 i (by omega), fun i hi => h.2.1 i (by omega), h.2.2.1, h.2.2.2⟩
theorem CE_put (h : CE μ vs s b t B E) (hl : vs.length < 600) {x y z : Int32} (hx : x = if w = 1000 then num else gp ps 0) (hy : y = gp ps 1) (hz : z = gp ps 2) : CE (cv_put μ vs.length w x y z) (vs ++ [(w, num, ps)]) s b t B E ∧ CFr μ (cv_put μ vs.length w x y z) := by
  obtain ⟨h1, h2, h3, h4, h5, h6⟩ := h
  have hr : ∀ c, c ≠ 5 → c ≠ 16 → c ≠ 17 → c ≠ 18 → c ≠ 19 → cv_put μ vs.length w x y z c = μ c := by
    intro c a1 a2 a3 a4 a5
    unfold cv_put
    rw [zm_up_row a1, zm_up_row a5, zm_up_row a4, zm_up_row a3, zm_up_row a2]
  refine ⟨⟨CV_put h1 hl hx hy hz, ?_, ?_, ?_, ?_, fun i hi => ?_⟩, fun c _ a2 _ a4 a5 a6 a7 => hr c a2 a4 a5 a6 a7, fun i hi => ?_⟩
  · rw [hr 4 (by decide) (by decide) (by decide) (by decide) (by decide)]; exact h2
  · rw [hr 4 (by decide) (by decide) (by decide) (by decide) (by decide)]; exact h3
  · rw [hr 4 (by decide) (by decide) (by decide) (by decide) (by decide)]; exact h4
  · rw [hr 4 (by decide) (by decide) (by decide) (by decide) (by decide)]; exact h5
  · rw [hr 15 (by decide) (by decide) (by decide) (by decide) (by decide)]; exact h6 i hi
  · unfold cv_put
    rw [zm_up_self, zm_up_row (by decide), zm_up_row (by decide), zm_up_row (by decide), zm_up_row (by decide)]
    simp only [upd, if_neg hi]
theorem c_ofNumber (hd : 2 ≤ d) (h : CE μ vs s b t B E) (hl : vs.length < 600) : zI X d 81 [.inr 5, .inl x] μ (fun r μ' => r = nI vs.length ∧ CE μ' (vs ++ [(1000, x, [])]) s b t B E ∧ CFr μ μ') := by
  refine zI_at [0, 1] (by omega) rfl (k81_0 ⟨_, c_vput (w := 1000) (by omega) h.1 hl rfl, fun r μ1 hr => ?_⟩)
  obtain ⟨rfl, rfl⟩ := hr
  exact k81_10 ⟨rfl, CE_put h hl rfl rfl rfl⟩
theorem c_ofTruth (hd : 2 ≤ d) (h : CE μ vs s b t B E) (hl : vs.length < 600) : zI X d 82 [.inr 5, .inl x] μ (fun r μ' => r = nI vs.length ∧ CE μ' (vs ++ [(if x = 0 then 1002 else 1001, 0, [])]) s b t B E ∧ CFr μ μ') := by
  refine zI_at [0, 1] (by omega) rfl (k82_0 (fun z => ?_) (fun z => ?_))
  · rw [if_pos z]
    refine k82_14 ⟨_, c_vput (w := 1002) (by omega) h.1 hl rfl, fun r μ1 hr => ?_⟩
    obtain ⟨rfl, rfl⟩ := hr
    exact k82_20 ⟨rfl, CE_put h hl rfl rfl rfl⟩
  · rw [if_neg z]
    refine k82_14 ⟨_, c_vput (w := 1001) (by omega) h.1 hl rfl, fun r μ1 hr => ?_⟩
    obtain ⟨rfl, rfl⟩ := hr
    exact k82_20 ⟨rfl, CE_put h hl rfl rfl rfl⟩
theorem c_ofParts (hd : 2 ≤ d) (h : CE μ vs s b t B E) (hl : vs.length < 600) {k : Nat} (hk : k = 6 ∨ (11 ≤ k ∧ k ≤ 16)) {x y z : Int32} (hx : x = gp ps 0) (hy : y = gp ps 1) (hz : z = gp ps 2) : zI X d 83 [.inr 5, .inl (nI k), .inl x, .inl y, .inl z] μ (fun r μ' => r = nI vs.length ∧ CE μ' (vs ++ [(if k = 6 then 1003 else 1000 + k, 0, ps)]) s b t B E ∧ CFr μ μ') := by
  have e6 : (6 : Int32) = nI 6 := rfl
  refine zI_at [0, 1, 2, 3, 4] (by omega) rfl (k83_0 (fun q => ?_) (fun q => ?_))
  · rw [e6, nI_inj (by omega) (by omega)] at q
    rw [if_neg q, zb_1000, nI_add]
    refine k83_18 ⟨_, c_vput (w := 1000 + k) (by omega) h.1 hl rfl, fun r μ1 hr => ?_⟩
    obtain ⟨rfl, rfl⟩ := hr
    exact k83_25 ⟨rfl, CE_put h hl (by rw [if_neg (by omega)]; exact hx) hy hz⟩
  · rw [e6, nI_inj (by omega) (by omega)] at q
    rw [if_pos q]
    refine k83_18 ⟨_, c_vput (w := 1003) (by omega) h.1 hl rfl, fun r μ1 hr => ?_⟩
    obtain ⟨rfl, rfl⟩ := hr
    exact k83_25 ⟨rfl, CE_put h hl (by rw [if_neg (by omega)]; exact hx) hy hz⟩

def wn_ok (q w : Nat) : Prop := match q with
  | 1 => w = 1000
  | 2 => w = 1001 ∨ w = 1002
  | 3 => w = 1003
  | 4 => 1011 ≤ w
  | _ => True
theorem c_isWanted (hd : 3 ≤ d) (h : CV μ vs) (hw : wok w) (hi : vs[i]? = some (w, num, ps)) {q : Nat} (hq : q ≤ 4) : zI X d 70 [.inr 4, .inl (nI i), .inl (nI q)] μ (fun r μ' => μ' = μ ∧ (wn_ok q w ∧ r = 1 ∨ ¬ wn_ok q w ∧ r = 0)) := by
  refine zI_at [0, 1, 2] (by omega) rfl ?_
  rcases (show q = 0 ∨ q = 1 ∨ q = 2 ∨ q = 3 ∨ q = 4 by omega) with rfl | rfl | rfl | rfl | rfl
  · refine k70_0 ?_ ?_ ?_ ?_ ?_ <;> intros <;> first | contradiction | exact ⟨rfl, Or.inl ⟨trivial, rfl⟩⟩
  · refine k70_0 ?_ ?_ ?_ ?_ ?_ <;> intros <;> first
      | contradiction
      | exact ⟨_, c_isNumber (by omega) h hw hi, fun r μ1 hr => by
          obtain ⟨rfl, ⟨q, rfl⟩ | ⟨q, rfl⟩⟩ := hr
          · exact k70_40 (Or.inr rfl) ⟨rfl, Or.inl ⟨q, rfl⟩⟩
          · exact k70_40 (Or.inl rfl) ⟨rfl, Or.inr ⟨q, rfl⟩⟩⟩
  · refine k70_0 ?_ ?_ ?_ ?_ ?_ <;> intros <;> first
      | contradiction
      | exact ⟨_, c_isTruth (by omega) h hw hi, fun r μ1 hr => by
          obtain ⟨rfl, ⟨q, rfl⟩ | ⟨q, rfl⟩⟩ := hr
          · exact k70_49 (Or.inr rfl) ⟨rfl, Or.inl ⟨q, rfl⟩⟩
          · exact k70_49 (Or.inl rfl) ⟨rfl, Or.inr ⟨q, rfl⟩⟩⟩
  · refine k70_0 ?_ ?_ ?_ ?_ ?_ <;> intros <;> first
      | contradiction
      | exact ⟨_, c_isPair (by omega) h hw hi, fun r μ1 hr => by
          obtain ⟨rfl, ⟨q, rfl⟩ | ⟨q, rfl⟩⟩ := hr
          · exact k70_58 (Or.inr rfl) ⟨rfl, Or.inl ⟨q, rfl⟩⟩
          · exact k70_58 (Or.inl rfl) ⟨rfl, Or.inr ⟨q, rfl⟩⟩⟩
  · refine k70_0 ?_ ?_ ?_ ?_ ?_ <;> intros <;> first
      | contradiction
      | exact ⟨_, c_isMade (by omega) h hw hi, fun r μ1 hr => by
          obtain ⟨rfl, ⟨q, rfl⟩ | ⟨q, rfl⟩⟩ := hr
          · exact k70_67 (Or.inr rfl) ⟨rfl, Or.inl ⟨q, rfl⟩⟩
          · exact k70_67 (Or.inl rfl) ⟨rfl, Or.inr ⟨q, rfl⟩⟩⟩
end ED

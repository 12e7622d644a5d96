def EQ (μ : zm_u) (Q : List (Nat × Nat)) : Prop := μ 22 17 = nI Q.length ∧ Q.length ≤ 60 ∧ ∀ (j a b : Nat), Q[j]? = some (a, b) → μ 33 j = nI a ∧ μ 34 j = nI b
def Der (T : tT) (Q : List (Nat × Nat)) (a b : Nat) : Prop := ∀ R, Good T Q R → R a b
def Er (n : Nat) (rt : Nat → Nat) (i j : Nat) : Prop := i = j ∨ (i < n ∧ j < n ∧ rt i = rt j)
section SLV
variable {X : zm_T} {d n i j p q x y a b u v w : Nat} {μ μ' μ1 : zm_u} {T T' : tT} {rt rt' dep : Nat → Nat} {W W' Q Q' : List (Nat × Nat)} {R : Nat → Nat → Prop}
theorem Er_eqv : Eqv (Er n rt) := by
  refine ⟨fun a => Or.inl rfl, fun a b h => ?_, fun a b c h1 h2 => ?_⟩
  · rcases h with h | ⟨h1, h2, h3⟩
    · exact Or.inl h.symm
    · exact Or.inr ⟨h2, h1, h3.symm⟩
  · rcases h1 with rfl | ⟨a1, a2, a3⟩
    · exact h2
    · rcases h2 with rfl | ⟨b1, b2, b3⟩
      · exact Or.inr ⟨a1, a2, a3⟩
      · exact Or.inr ⟨a1, b2, a3.trans b3⟩
theorem Cg_Er (h : Cg n rt [] u v) : Er n rt u v := h _ Er_eqv (fun i j hi hj e => Or.inr ⟨hi, hj, e⟩) (fun a b hm => absurd hm (List.not_mem_nil))
theorem Er_good (h : Ic T Q rt []) : Good T Q (Er T.length rt) := by
  refine ⟨Er_eqv, fun a b hm => Cg_Er (h.2 a b hm), fun p q hp hq hr => ?_⟩
  rcases hr with rfl | ⟨_, _, e⟩
  · exact ⟨fun _ _ => ⟨Or.inl rfl, Or.inl rfl⟩, fun _ _ => Or.inl rfl⟩
  · refine ⟨fun k1' k2' => ?_, fun k1' k2' => ?_⟩
    · have := (h.1 p q hp hq e (by omega) (by omega)).2.1 k1'
      exact ⟨Cg_Er this.1, Cg_Er this.2⟩
    · exact Cg_Er ((h.1 p q hp hq e (by omega) (by omega)).2.2 k1')
theorem Er_free (h : Ic T Q rt []) : ¬ Clash T Q := by
  intro hc
  obtain ⟨p, q, hp, hq, hr, h1, h2, h3⟩ := hc _ (Er_good h)
  rcases hr with rfl | ⟨_, _, e⟩
  · exact h3 rfl
  · exact h3 (h.1 p q hp hq e h1 h2).1
theorem JI_0 (hQ : Wb T.length Q) (hl6 : T.length ≤ 600) (h43 : ∀ i, i < T.length → μ 43 i = nI i) (h44 : ∀ i, i < T.length → μ 44 i = if kd T i = 4 then -1 else nI i) (hT : Tp μ Q.reverse) : JI μ T Q (fun i => i) (fun _ => 0) Q.reverse := by
  refine ⟨fun i hi => ⟨hi, rfl, i, hi, h43 i hi, rfl, fun _ => rfl, fun _ => rfl, fun z => absurd rfl z⟩, fun i hi _ => ?_, hT, fun a b hm => hQ a b (List.mem_reverse.mp hm), ⟨fun p q hp hq e _ _ => ?_, fun a b hm => Cg_m (List.mem_reverse.mpr hm)⟩, fun R hR => ⟨fun i j _ _ e => ?_, fun a b hm => hR.2.1 a b (List.mem_reverse.mp hm)⟩, ?_⟩
  · by_cases k : kd T i = 4
    · refine Or.inl ⟨by rw [h44 i hi, if_pos k], fun j _ e => ?_⟩
      have e' : j = i := e
      rw [e']; exact k
    · exact Or.inr ⟨i, hi, by rw [h44 i hi, if_neg k], rfl, k⟩
  · have e' : p = q := e
    subst e'
    exact ⟨rfl, fun _ => ⟨fun E hE _ _ => hE.1 _, fun E hE _ _ => hE.1 _⟩, fun _ E hE _ _ => hE.1 _⟩
  · have e' : i = j := e
    rw [e']
    exact hR.1.1 j
  · have := cr_le (rt := fun i => i) T.length
    rw [List.length_reverse]
    omega
theorem m_solve0 (hd : 7 ≤ d) (hR : RP μ T) (hE : EQ μ Q) (hQ : Wb T.length Q) (hfin : ∀ rt, Ic T Q rt [] → Is T Q rt [] → ∃ ht, Hts T rt ht) :
    zI X d 121 [.inr 22] μ (fun r μ' => SF μ μ' ∧ ((r = 1 ∧ ∃ rt dep, UF μ' T.length rt dep ∧ Us μ' T rt ∧ Ic T Q rt [] ∧ Is T Q rt []) ∨ (r = 0 ∧ Clash T Q))) := by
  have hl6 := hR.2.1
  have hq6 := hE.2.1

  have joins : ∀ (m : Nat) (μ1 : zm_u) (rt dep : Nat → Nat) (W : List (Nat × Nat)), 2 * cr rt T.length + W.length < m → SF μ μ1 → JI μ1 T Q rt dep W → zV X (d - 1) 121 81 [(0, .inr 22)] [] μ1 (zpi (fun r μ' => SF μ μ' ∧ ((r = 1 ∧ ∃ rt dep, UF μ' T.length rt dep ∧ Us μ' T rt ∧ Ic T Q rt [] ∧ Is T Q rt []) ∨ (r = 0 ∧ Clash T Q)))) := by
    intro m
    induction m with
    | zero => intro μ1 rt dep W hm; omega
    | succ m ih =>
      intro μ1 rt dep W hm hf hJ
      obtain ⟨j1, j2, j3, j4, j5, j6, j7⟩ := hJ
      have hR1 := RP_SF hR hf
      have h34 := j3.1
      have hcr := cr_le (rt := rt) T.length
      match W, j3, j4, j5, j6, j7, h34, hm with
      | [], j3, j4, j5, j6, j7, h34, hm =>
        have z0 : μ1 22 34 ≤ 0 := by rw [h34]; decide
        refine k121_81 (fun _ => ?_) (fun z => absurd z0 z) (fun z => absurd z0 z) (fun z => absurd z0 z)
        obtain ⟨ht, hH⟩ := hfin rt j5 j6
        refine ⟨_, m_isFinite (by omega) hR1 j1 j2 hH, fun r μ2 hr => ?_⟩
        obtain ⟨rfl, hf2⟩ := hr
        exact k121_129 (Or.inr rfl) ⟨SF_tr hf (F47_SF hf2), Or.inl ⟨rfl, rt, dep, UF_43 j1 (hf2 43 (by decide)), Us_44 j2 (hf2 44 (by decide)), j5, j6⟩⟩
      | (a, b) :: W, j3, j4, j5, j6, j7, h34, hm =>
        simp only [List.length_cons] at h34 hm j7
        obtain ⟨t1, t2, t3⟩ := Tp_pop j3
        have z0 : ¬ μ1 22 34 ≤ 0 := by rw [h34, show (0 : Int32) = nI 0 from rfl, nI_leI (by omega) (by omega)]; omega
        have hm1 : μ1 22 34 - 1 = nI W.length := by rw [h34, ← nI_one, nI_sub (by omega)]; rfl
        have bb : 0 ≤ (μ1 22 34 - 1).toInt ∧ (μ1 22 34 - 1).toInt < ((800 : Nat) : Int) := by rw [hm1, nI_t (by omega)]; omega
        refine k121_81 (fun z => absurd z z0) (fun _ => bb) (fun _ => bb) (fun _ => ?_)
        rw [hm1, nI_c (by omega), t1, t2]
        have hf2 : SF μ1 (zm_up μ1 22 34 (nI W.length)) := SF_34
        refine ⟨_, m_join (by omega) (RP_SF hR1 hf2) (UF_43 j1 (zm_up_row (by decide))) (Us_44 j2 (zm_up_row (by decide))) t3 j4 j5 j6 (by omega) (by omega), fun r μ2 hr => ?_⟩
        obtain ⟨g1, g2, ⟨rfl, rt', dep', W', g3, g4⟩ | ⟨rfl, g3⟩⟩ := hr
        · exact k121_120 (fun _ => ih μ2 rt' dep' W' (by omega) (SF_tr hf (SF_tr hf2 g1)) g3) (fun z => absurd z zn_10)
        · exact k121_120 (fun z => absurd rfl z) (fun _ => ⟨SF_tr hf (SF_tr hf2 g1), Or.inr ⟨rfl, g3⟩⟩)

  have eqs : ∀ (r k : Nat), k + r = Q.length → ∀ μ1 : zm_u, SF μ μ1 → Tp μ1 (Q.take k).reverse → (∀ i, i < T.length → μ1 43 i = nI i) → (∀ i, i < T.length → μ1 44 i = if kd T i = 4 then -1 else nI i) → zV X (d - 1) 121 51 [(0, .inr 22), (1, .inl (nI k))] [] μ1 (zpi (fun r μ' => SF μ μ' ∧ ((r = 1 ∧ ∃ rt dep, UF μ' T.length rt dep ∧ Us μ' T rt ∧ Ic T Q rt [] ∧ Is T Q rt []) ∨ (r = 0 ∧ Clash T Q)))) := by
    intro r
    induction r with
    | zero =>
      intro k hk μ1 hf hT h43 h44
      obtain rfl : k = Q.length := by omega
      rw [List.take_length] at hT
      have hle : μ1 22 17 ≤ nI Q.length := by rw [hf.2 17 (by decide), hE.1, nI_leI (by omega) (by omega)]; omega
      exact k121_51 (fun _ => joins _ μ1 _ _ _ (Nat.lt_succ_self _) hf (JI_0 hQ hl6 h43 h44 hT)) (fun z => absurd hle z) (fun z => absurd hle z) (fun z => absurd hle z)
    | succ r ih =>
      intro k hk μ1 hf hT h43 h44
      have hle : ¬ μ1 22 17 ≤ nI k := by rw [hf.2 17 (by decide), hE.1, nI_leI (by omega) (by omega)]; omega
      have bb : 0 ≤ (nI k).toInt ∧ (nI k).toInt < ((64 : Nat) : Int) := by rw [nI_t (by omega)]; omega
      have hkl : k < Q.length := by omega
      obtain ⟨e1, e2⟩ := hE.2.2 k Q[k].1 Q[k].2 (by rw [List.getElem?_eq_getElem hkl])
      refine k121_51 (fun z => absurd z hle) (fun _ => bb) (fun _ => bb) (fun _ => ?_)
      rw [nI_c (by omega), hf.1 33 (by decide) (by decide), hf.1 34 (by decide) (by decide), e1, e2]
      refine ⟨_, m_equate (by omega) hT (by rw [List.length_reverse, List.length_take]; omega), fun μ2 hr => k121_75 ?_⟩
      obtain ⟨a1, a2, a3, a4, a5⟩ := hr
      rw [← nI_one, nI_add]
      refine ih (k + 1) (by omega) μ2 (SF_tr hf a2) ?_ (by rw [a3]; exact h43) (by rw [a4]; exact h44)
      rw [List.take_succ_eq_append_getElem hkl, List.reverse_append]
      exact a1

  have init : ∀ (r t : Nat), t + r = T.length → ∀ μ1 : zm_u, SF μ μ1 → (∀ i, i < t → μ1 43 i = nI i) → (∀ i, i < t → μ1 44 i = if kd T i = 4 then -1 else nI i) → zV X (d - 1) 121 2 [(0, .inr 22), (1, .inl (nI t))] [] μ1 (zpi (fun r μ' => SF μ μ' ∧ ((r = 1 ∧ ∃ rt dep, UF μ' T.length rt dep ∧ Us μ' T rt ∧ Ic T Q rt [] ∧ Is T Q rt []) ∨ (r = 0 ∧ Clash T Q)))) := by
    intro r
    induction r with
    | zero =>
      intro t ht μ1 hf h43 h44
      obtain rfl : t = T.length := by omega
      have hle : μ1 22 1 ≤ nI T.length := by rw [hf.2 1 (by decide), hR.1, nI_leI (by omega) (by omega)]; omega
      refine k121_2 (fun _ => ?_) (fun z => absurd hle z) (fun z => absurd hle z) (fun z => absurd hle z) (fun z => absurd hle z)
      refine eqs Q.length 0 (by omega) _ (SF_tr hf SF_34) ⟨by rw [zm_up_at, if_pos ⟨rfl, rfl⟩]; rfl, fun j a b hj => ?_⟩ (by rw [zm_up_row (by decide)]; exact h43) (by rw [zm_up_row (by decide)]; exact h44)
      simp at hj
    | succ r ih =>
      intro t ht μ1 hf h43 h44
      have hle : ¬ μ1 22 1 ≤ nI t := by rw [hf.2 1 (by decide), hR.1, nI_leI (by omega) (by omega)]; omega
      have bb : 0 ≤ (nI t).toInt ∧ (nI t).toInt < ((600 : Nat) : Int) := by rw [nI_t (by omega)]; omega
      have ct : (nI t).toNatClampNeg = t := nI_c (by omega)
      have e23 := ((RP_SF hR hf).2.2.2 t (by omega)).1
      have wt := kd_w hR.2.2.1 (show t < T.length by omega)
      have nx : nI t + 1 = nI (t + 1) := by rw [← nI_one, nI_add]
      have e4 : (4 : Int32) = nI 4 := rfl
      have go : ∀ v : Int32, v = (if kd T t = 4 then -1 else nI t) → zV X (d - 1) 121 37 [(0, .inr 22), (1, .inl (nI t))] [.inl v, .inl (nI t), .inr 44] (zm_up μ1 43 t (nI t)) (zpi (fun r μ' => SF μ μ' ∧ ((r = 1 ∧ ∃ rt dep, UF μ' T.length rt dep ∧ Us μ' T rt ∧ Ic T Q rt [] ∧ Is T Q rt []) ∨ (r = 0 ∧ Clash T Q)))) := by
        intro v hv
        refine k121_37 bb ?_
        rw [ct, nx]
        refine ih (t + 1) (by omega) _ (SF_tr hf (SF_tr (SF_c (by omega)) (SF_c (by omega)))) (fun i hi => ?_) (fun i hi => ?_)
        · rw [zm_up_row (by decide), zm_up_at]
          by_cases ei : i = t
          · rw [if_pos ⟨rfl, ei⟩, ei]
          · rw [if_neg (by omega)]
            exact h43 i (by omega)
        · rw [zm_up_at]
          by_cases ei : i = t
          · rw [if_pos ⟨rfl, ei⟩, ei]
            exact hv
          · rw [if_neg (by omega), zm_up_row (by decide)]
            exact h44 i (by omega)
      refine k121_2 (fun z => absurd z hle) (fun _ => bb) (fun _ => bb) (fun _ z => ?_) (fun _ z => ?_)
      · rw [ct, e23, e4, nI_inj (by omega) (by omega)] at z
        rw [ct]
        exact go _ (by rw [if_neg z])
      · rw [ct, e23, e4, nI_inj (by omega) (by omega)] at z
        rw [ct]
        exact go _ (by rw [if_pos z])
  exact zI_at [0] (by omega) rfl (k121_0 (init T.length 0 (by omega) μ SF_rf (fun i hi => by omega) (fun i hi => by omega)))

def SV (μ : zm_u) (T : tT) (Q : List (Nat × Nat)) (rt : Nat → Nat) : Prop := (∃ dep, UF μ T.length rt dep) ∧ Us μ T rt ∧ ∀ i j, i < T.length → j < T.length → (rt i = rt j ↔ Der T Q i j)
theorem m_solve_ok {R0 : Nat → Nat → Prop} {ht : Nat → Nat} (hd : 7 ≤ d) (hR : RP μ T) (hE : EQ μ Q) (hQ : Wb T.length Q) (hG : Good T Q R0) (hfree : ∀ p q, p < T.length → q < T.length → R0 p q → kd T p ≠ 4 → kd T q ≠ 4 → kd T p = kd T q)
    (hh : ∀ i j, i < T.length → j < T.length → R0 i j → ht i = ht j) (hp : ∀ i, i < T.length → (kd T i = 2 → ht (k1 T i) < ht i ∧ ht (k2 T i) < ht i) ∧ (kd T i = 3 → ht (k1 T i) < ht i)) :
    zI X d 121 [.inr 22] μ (fun r μ' => SF μ μ' ∧ r = 1 ∧ ∃ rt, SV μ' T Q rt) := by
  refine zI_mono (m_solve0 hd hR hE hQ (fun rt _ h2 => ⟨ht, fun i j hi hj e => hh i j hi hj ((h2 R0 hG).1 i j hi hj e), hp⟩)) (Nat.le_refl _) (fun r μ' hr => ?_)
  obtain ⟨h1, ⟨h2, rt, dep, h3, h4, h5, h6⟩ | ⟨h2, h3⟩⟩ := hr
  · refine ⟨h1, h2, rt, ⟨dep, h3⟩, h4, fun i j hi hj => ⟨fun e R hR' => (h6 R hR').1 i j hi hj e, fun e => ?_⟩⟩
    rcases e _ (Er_good h5) with rfl | ⟨_, _, e⟩
    · rfl
    · exact e
  · obtain ⟨p, q, q1, q2, q3, q4, q5, q6⟩ := h3 R0 hG
    exact absurd (hfree p q q1 q2 q3 q4 q5) q6
theorem m_solve_no (hd : 7 ≤ d) (hR : RP μ T) (hE : EQ μ Q) (hQ : Wb T.length Q) (hC : Clash T Q) :
    zI X d 121 [.inr 22] μ (fun r μ' => SF μ μ' ∧ r = 0) := by
  refine zI_mono (m_solve0 hd hR hE hQ (fun rt h1 _ => absurd hC (Er_free h1))) (Nat.le_refl _) (fun r μ' hr => ?_)
  obtain ⟨h1, ⟨h2, rt, dep, h3, h4, h5, h6⟩ | ⟨h2, h3⟩⟩ := hr
  · exact absurd hC (Er_free h5)
  · exact ⟨h1, h2⟩
end SLV

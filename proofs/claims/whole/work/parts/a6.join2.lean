section JM
variable {X : zm_T} {d n i j p q x y a b u v w : Nat} {μ μ' μ1 : zm_u} {T T' : tT} {rt rt' dep : Nat → Nat} {W W' Q : List (Nat × Nat)}
theorem Tp_eq (h : Tp μ W) (e1 : μ' 22 34 = μ 22 34) (e2 : μ' 45 = μ 45) (e3 : μ' 46 = μ 46) : Tp μ' W := ⟨e1.trans h.1, fun j a b hj => by rw [e2, e3]; exact h.2 j a b hj⟩
theorem m_join (hd : 3 ≤ d) (hR : RP μ T) (hU : UF μ T.length rt dep) (hs : Us μ T rt) (hT : Tp μ W) (hW : Wb T.length ((a, b) :: W)) (hc : Ic T Q rt ((a, b) :: W)) (hi : Is T Q rt ((a, b) :: W)) (hn : W.length + 1 + cr rt T.length ≤ Q.length + T.length) (hQ : Q.length ≤ 64) :
    zI X d 118 [.inr 22, .inl (nI a), .inl (nI b)] μ (fun r μ' => SF μ μ' ∧ μ' 47 = μ 47 ∧ ((r = 1 ∧ ∃ rt' dep' W', JI μ' T Q rt' dep' W' ∧ 2 * cr rt' T.length + W'.length ≤ 2 * cr rt T.length + W.length) ∨ (r = 0 ∧ Clash T Q))) := by
  obtain ⟨ha, hb⟩ := hW a b (List.mem_cons_self ..)
  have hW0 : Wb T.length W := fun a' b' hm => hW a' b' (List.mem_cons_of_mem _ hm)
  have hl6 := hR.2.1
  obtain ⟨x1, x2, _⟩ := hU a ha
  obtain ⟨y1, y2, _⟩ := hU b hb
  refine zI_at [0, 1, 2] (by omega) rfl (k118_0 ⟨_, m_top (by omega) hU hl6 ha, fun r μ1 hr => ?_⟩)
  obtain ⟨rfl, rfl⟩ := hr
  refine k118_5 ⟨_, m_top (by omega) hU hl6 hb, fun r μ2 hr => ?_⟩
  obtain ⟨rfl, rfl⟩ := hr
  have bx : 0 ≤ (nI (rt a)).toInt ∧ (nI (rt a)).toInt < ((600 : Nat) : Int) := by rw [nI_t (by omega)]; omega
  have bY : 0 ≤ (nI (rt b)).toInt ∧ (nI (rt b)).toInt < ((600 : Nat) : Int) := by rw [nI_t (by omega)]; omega
  have cx : (nI (rt a)).toNatClampNeg = rt a := nI_c (by omega)
  have cy : (nI (rt b)).toNatClampNeg = rt b := nI_c (by omega)
  by_cases hxy : rt a = rt b
  · refine k118_11 (fun z => absurd (by rw [hxy]) z) (fun z => absurd (by rw [hxy]) z) (fun z => absurd (by rw [hxy]) z) (fun z => absurd (by rw [hxy]) z) (fun z => absurd (by rw [hxy]) z) (fun _ => ⟨SF_rf, rfl, Or.inl ⟨rfl, rt, dep, W, ⟨hU, hs, hT, hW0, Ic_same hc ha hb hxy, Is_same hi, by omega⟩, Nat.le_refl _⟩⟩)
  have nxy : ¬ nI (rt a) = nI (rt b) := by rw [nI_inj (by omega) (by omega)]; exact hxy
  have hcr := cr_merge x1 x2 y2 hxy
  have hUm := UF_merge hU x1 y1 x2 y2 hxy

  have SFm : ∀ s2 : Int32, SF μ2 (zm_up (zm_up μ2 43 (rt a) (nI (rt b))) 44 (rt b) s2) := fun s2 => SF_tr (SF_c (by omega)) (SF_c (by omega))
  have Um : ∀ s2 : Int32, UF (zm_up (zm_up μ2 43 (rt a) (nI (rt b))) 44 (rt b) s2) T.length (mrt rt (rt a) (rt b)) (mdp rt dep (rt a) (rt b)) := fun s2 => UF_43 hUm (zm_up_row (by decide))
  have E44 : ∀ s2 : Int32, (zm_up (zm_up μ2 43 (rt a) (nI (rt b))) 44 (rt b) s2) 44 = upd (μ2 44) (rt b) s2 := fun s2 => by rw [zm_up_self, zm_up_row (by decide)]
  have Tm' : ∀ s2 : Int32, Tp (zm_up (zm_up μ2 43 (rt a) (nI (rt b))) 44 (rt b) s2) W := fun s2 => Tp_eq hT (by rw [zm_up_row (by decide), zm_up_row (by decide)]) (by rw [zm_up_row (by decide), zm_up_row (by decide)]) (by rw [zm_up_row (by decide), zm_up_row (by decide)])
  have E47 : ∀ s2 : Int32, (zm_up (zm_up μ2 43 (rt a) (nI (rt b))) 44 (rt b) s2) 47 = μ2 47 := fun s2 => by rw [zm_up_row (by decide), zm_up_row (by decide)]
  have E23 : ∀ s2 : Int32, RP (zm_up (zm_up μ2 43 (rt a) (nI (rt b))) 44 (rt b) s2) T := fun s2 => RP_SF hR (SFm s2)

  have plain : ∀ s2 : Int32, ((s2 = -1 ∧ ∀ j, j < T.length → rt j = rt a ∨ rt j = rt b → kd T j = 4) ∨ ∃ p, p < T.length ∧ s2 = nI p ∧ (rt p = rt a ∨ rt p = rt b) ∧ kd T p ≠ 4) → ((∀ j, j < T.length → rt j = rt a → kd T j = 4) ∨ ∀ j, j < T.length → rt j = rt b → kd T j = 4) →
      SF μ2 (zm_up (zm_up μ2 43 (rt a) (nI (rt b))) 44 (rt b) s2) ∧ (zm_up (zm_up μ2 43 (rt a) (nI (rt b))) 44 (rt b) s2) 47 = μ2 47 ∧ (((1 : Int32) = 1 ∧ ∃ rt' dep' W', JI (zm_up (zm_up μ2 43 (rt a) (nI (rt b))) 44 (rt b) s2) T Q rt' dep' W' ∧ 2 * cr rt' T.length + W'.length ≤ 2 * cr rt T.length + W.length) ∨ ((1 : Int32) = 0 ∧ Clash T Q)) := by
    intro s2 hv hno
    refine ⟨SFm s2, E47 s2, Or.inl ⟨rfl, _, _, W, ⟨Um s2, Us_merge hs (E44 s2) x1 y1 x2 y2 hxy hv, Tm' s2, hW0, Ic_merge hc ha hb rfl rfl y2 hxy (fun _ z => z) (fun p q hp hq ep eq h4 h5 => ?_), Is_merge hi ha hb rfl rfl (fun R hR' => (Is_same hi R hR').2), by omega⟩, by omega⟩⟩
    rcases hno with hno | hno
    · exact absurd (hno p hp ep) h4
    · exact absurd (hno q hq eq) h5
  rcases hs (rt a) x1 x2 with ⟨sx, nx⟩ | ⟨p, hp, sx, rp, kp⟩
  · rcases hs (rt b) y1 y2 with ⟨sy, ny⟩ | ⟨q, hq, sy, rq, kq⟩
    · refine k118_11 (fun _ => bx) (fun _ => bY) (fun _ => bx) (fun _ _ => ?_) (fun _ z => absurd (by rw [cy, sy]; decide) z) (fun z => absurd z nxy)
      rw [cx, cy, sx, sy]
      refine k118_64 bY (fun _ => ?_) (fun z => absurd (by decide) z) (fun z => absurd (by decide) z) (fun z => absurd (by decide) z) (fun z => absurd (by decide) z) (fun z => absurd (by decide) z) (fun z => absurd (by decide) z) (fun z => absurd (by decide) z) (fun z => absurd (by decide) z) (fun z => absurd (by decide) z)
      rw [cy]
      exact plain (-1) (Or.inl ⟨rfl, fun j hj hr => hr.elim (nx j hj) (ny j hj)⟩) (Or.inl nx)
    · refine k118_11 (fun _ => bx) (fun _ => bY) (fun _ => bx) (fun _ z => absurd z (by rw [cy, sy]; exact nI_pos (by omega))) (fun _ _ => ?_) (fun z => absurd z nxy)
      rw [cx, cy, sx, sy]
      refine k118_64 bY (fun _ => ?_) (fun z => absurd (by decide) z) (fun z => absurd (by decide) z) (fun z => absurd (by decide) z) (fun z => absurd (by decide) z) (fun z => absurd (by decide) z) (fun z => absurd (by decide) z) (fun z => absurd (by decide) z) (fun z => absurd (by decide) z) (fun z => absurd (by decide) z)
      rw [cy]
      exact plain (nI q) (Or.inr ⟨q, hq, rfl, Or.inr rq, kq⟩) (Or.inl nx)
  · have np := nI_pos (n := p) (by omega)
    rcases hs (rt b) y1 y2 with ⟨sy, ny⟩ | ⟨q, hq, sy, rq, kq⟩
    · refine k118_11 (fun _ => bx) (fun _ => bY) (fun _ => bx) (fun _ _ => ?_) (fun _ z => absurd (by rw [cy, sy]; decide) z) (fun z => absurd z nxy)
      rw [cx, cy, sx, sy]
      refine k118_64 bY (fun z => absurd z np) (fun _ z => absurd z (by decide)) (fun _ z => absurd z (by decide)) (fun _ z => absurd z (by decide)) (fun _ z => absurd z (by decide)) (fun _ z => absurd z (by decide)) (fun _ z => absurd z (by decide)) (fun _ z => absurd z (by decide)) (fun _ z => absurd z (by decide)) (fun _ _ => ?_)
      rw [cy]
      exact plain (nI p) (Or.inr ⟨p, hp, rfl, Or.inl rp, kp⟩) (Or.inr ny)
    · refine k118_11 (fun _ => bx) (fun _ => bY) (fun _ => bx) (fun _ z => absurd z (by rw [cy, sy]; exact nI_pos (by omega))) (fun _ _ => ?_) (fun z => absurd z nxy)
      rw [cx, cy, sx, sy]
      have bp : 0 ≤ (nI p).toInt ∧ (nI p).toInt < ((600 : Nat) : Int) := by rw [nI_t (by omega)]; omega
      have bq : 0 ≤ (nI q).toInt ∧ (nI q).toInt < ((600 : Nat) : Int) := by rw [nI_t (by omega)]; omega
      have cp : (nI p).toNatClampNeg = p := nI_c (by omega)
      have cq : (nI q).toNatClampNeg = q := nI_c (by omega)
      have gq := nI_ge0 (v := q) (by omega)
      obtain ⟨p23, p24, p25⟩ := hR.2.2.2 p hp
      obtain ⟨q23, q24, q25⟩ := hR.2.2.2 q hq
      have wp := kd_w hR.2.2.1 hp
      have wq := kd_w hR.2.2.1 hq
      have z23 : (zm_up μ2 43 (rt a) (nI (rt b))) 23 = μ2 23 := zm_up_row (by decide)
      have e2 : (2 : Int32) = nI 2 := rfl
      have e3 : (3 : Int32) = nI 3 := rfl
      have hUs : Us (zm_up (zm_up μ2 43 (rt a) (nI (rt b))) 44 (rt b) (nI q)) T (mrt rt (rt a) (rt b)) := Us_merge hs (E44 _) x1 y1 x2 y2 hxy (Or.inr ⟨q, hq, rfl, Or.inr rq, kq⟩)
      have hRpq : ∀ R, Good T Q R → R p q := by
        intro R hR'
        obtain ⟨h1, h2⟩ := hi R hR'
        exact hR'.1.2.2 _ _ _ (h1 p a hp ha rp) (hR'.1.2.2 _ _ _ (h2 a b (List.mem_cons_self ..)) (h1 b q hb hq rq.symm))
      have hub := Um (nI q)
      have htp := Tm' (nI q)
      have hsf := SFm (nI q)
      have h47 := E47 (nI q)
      have hrp := E23 (nI q)
      have en : ∀ W', (∀ z ∈ W, z ∈ W') → (∀ R, Good T Q R → ∀ a' b', (a', b') ∈ W' → R a' b') → Ich T (mrt rt (rt a) (rt b)) W' p q → Ic T Q (mrt rt (rt a) (rt b)) W' ∧ Is T Q (mrt rt (rt a) (rt b)) W' := by
        intro W' hsub hg hich
        have hab : Cg T.length (mrt rt (rt a) (rt b)) W' a b := Cg_rt ha hb (by unfold mrt; rw [if_pos rfl, if_neg (Ne.symm hxy)])
        have hrt : ∀ i j, i < T.length → j < T.length → rt i = rt j → Cg T.length (mrt rt (rt a) (rt b)) W' i j := fun i j hi hj e => Cg_rt hi hj (mrt_eq e)
        refine ⟨Ic_merge hc ha hb rfl rfl y2 hxy hsub (fun p' q' hp' hq' ep eq h4 h5 => ?_), Is_merge hi ha hb rfl rfl hg⟩
        exact Ich_tr (Ich_mono (hc.1 p' p hp' hp (ep.trans rp.symm) h4 kp) hrt hab hsub) (Ich_tr hich (Ich_mono (hc.1 q q' hq hq' (rq.trans eq.symm) kq h5) hrt hab hsub))
      refine k118_64 bY (fun z => absurd z np) (fun _ _ => bp) (fun _ _ => bq) (fun _ _ _ => bp) (fun _ _ z zz => ?_) (fun _ _ _ _ => bp) (fun _ _ z z2 z3 => ?_) (fun _ _ z _ zz => ?_) (fun _ _ z => ?_) (fun _ z => absurd gq z)
      · rw [z23, cp, cq, p23, q23, nI_inj (by omega) (by omega)] at z
        rw [z23, cp, p23, e2, nI_inj (by omega) (by omega)] at zz
        rw [cy]
        generalize (zm_up (zm_up μ2 43 (rt a) (nI (rt b))) 44 (rt b) (nI q)) = μ3 at hUs hub htp hsf h47 hrp ⊢
        obtain ⟨r23, r24, r25⟩ := hrp.2.2.2 p hp
        obtain ⟨t23, t24, t25⟩ := hrp.2.2.2 q hq
        refine k118_118 bp bq ?_
        rw [cp, cq, r24, t24]
        refine ⟨_, m_equate (by omega) htp (by omega), fun μ4 hr => ?_⟩
        obtain ⟨a1, a2, a3, a4, a5⟩ := hr
        have hrp4 := RP_SF hrp a2
        obtain ⟨r23', r24', r25'⟩ := hrp4.2.2.2 p hp
        obtain ⟨t23', t24', t25'⟩ := hrp4.2.2.2 q hq
        refine k118_136 bp (fun z => absurd (by rw [cp, r23', zz]; rfl) z) (fun _ => bp) (fun _ => bq) (fun _ => ?_)
        rw [cp, cq, r25', t25']
        refine ⟨_, m_equate (by omega) a1 (by simp; omega), fun μ5 hr => k118_165 ?_⟩
        obtain ⟨b1, b2, b3, b4, b5⟩ := hr
        have wp2 := wp.2.1 zz
        have wq2 := wq.2.1 (z ▸ zz)
        obtain ⟨i1, i2⟩ := en ((k2 T p, k2 T q) :: (k1 T p, k1 T q) :: W) (fun _ hz => List.mem_cons_of_mem _ (List.mem_cons_of_mem _ hz)) (fun R hR' a' b' hm => by
          have hpq := ((hR'.2.2 p q hp hq (hRpq R hR')).1 zz (z ▸ zz))
          rcases List.mem_cons.mp hm with e | hm
          · simp only [Prod.mk.injEq] at e
            rw [e.1, e.2]; exact hpq.2
          rcases List.mem_cons.mp hm with e | hm
          · simp only [Prod.mk.injEq] at e
            rw [e.1, e.2]; exact hpq.1
          · exact (Is_same hi R hR').2 a' b' hm) ⟨z, fun _ => ⟨Cg_m (List.mem_cons_of_mem _ (List.mem_cons_self ..)), Cg_m (List.mem_cons_self ..)⟩, fun z3 => by omega⟩
        refine ⟨SF_tr hsf (SF_tr a2 b2), b5.trans (a5.trans h47), Or.inl ⟨rfl, _, _, _, ⟨UF_43 hub (b3.trans a3), Us_44 hUs (b4.trans a4), b1, Wb_of (Wb_of hW0 (by omega) (by omega)) (by omega) (by omega), i1, i2, ?_⟩, ?_⟩⟩
        · simp only [List.length_cons]; omega
        · simp only [List.length_cons]; omega
      · rw [z23, cp, cq, p23, q23, nI_inj (by omega) (by omega)] at z
        rw [z23, cp, p23, e2, nI_inj (by omega) (by omega)] at z2
        rw [z23, cp, p23, e3, nI_inj (by omega) (by omega)] at z3
        rw [cy]
        generalize (zm_up (zm_up μ2 43 (rt a) (nI (rt b))) 44 (rt b) (nI q)) = μ3 at hUs hub htp hsf h47 hrp ⊢
        obtain ⟨r23, r24, r25⟩ := hrp.2.2.2 p hp
        refine k118_136 bp (fun _ => k118_165 ?_) (fun _ => bp) (fun _ => bq) (fun z => ?_)
        · obtain ⟨i1, i2⟩ := en W (fun _ z => z) (fun R hR' => (Is_same hi R hR').2) ⟨z, fun z => absurd z z2, fun z => absurd z z3⟩
          exact ⟨hsf, h47, Or.inl ⟨rfl, _, _, _, ⟨hub, hUs, htp, hW0, i1, i2, by omega⟩, by omega⟩⟩
        · rw [cp, r23, e2, nI_inj (by omega) (by omega)] at z
          exact absurd z z2
      · rw [z23, cp, cq, p23, q23, nI_inj (by omega) (by omega)] at z
        rw [z23, cp, p23, e3, nI_inj (by omega) (by omega)] at zz
        rw [cy]
        generalize (zm_up (zm_up μ2 43 (rt a) (nI (rt b))) 44 (rt b) (nI q)) = μ3 at hUs hub htp hsf h47 hrp ⊢
        obtain ⟨r23, r24, r25⟩ := hrp.2.2.2 p hp
        obtain ⟨t23, t24, t25⟩ := hrp.2.2.2 q hq
        refine k118_118 bp bq ?_
        rw [cp, cq, r24, t24]
        refine ⟨_, m_equate (by omega) htp (by omega), fun μ4 hr => ?_⟩
        obtain ⟨a1, a2, a3, a4, a5⟩ := hr
        have hrp4 := RP_SF hrp a2
        obtain ⟨r23', r24', r25'⟩ := hrp4.2.2.2 p hp
        have wp2 := wp.2.2.1 zz
        have wq2 := wq.2.2.1 (z ▸ zz)
        refine k118_136 bp (fun _ => k118_165 ?_) (fun _ => bp) (fun _ => bq) (fun z => ?_)
        · obtain ⟨i1, i2⟩ := en ((k1 T p, k1 T q) :: W) (fun _ hz => List.mem_cons_of_mem _ hz) (fun R hR' a' b' hm => by
            have hpq := ((hR'.2.2 p q hp hq (hRpq R hR')).2 zz (z ▸ zz))
            rcases List.mem_cons.mp hm with e | hm
            · simp only [Prod.mk.injEq] at e
              rw [e.1, e.2]; exact hpq
            · exact (Is_same hi R hR').2 a' b' hm) ⟨z, fun z3 => by omega, fun _ => Cg_m (List.mem_cons_self ..)⟩
          refine ⟨SF_tr hsf a2, a5.trans h47, Or.inl ⟨rfl, _, _, _, ⟨UF_43 hub a3, Us_44 hUs a4, a1, Wb_of hW0 (by omega) (by omega), i1, i2, ?_⟩, ?_⟩⟩
          · simp only [List.length_cons]; omega
          · simp only [List.length_cons]; omega
        · rw [cp, r23', e2, nI_inj (by omega) (by omega)] at z
          omega
      · rw [z23, cp, cq, p23, q23, nI_inj (by omega) (by omega)] at z
        rw [cy]
        exact ⟨hsf, h47, Or.inr ⟨rfl, fun R hR' => ⟨p, q, hp, hq, hRpq R hR', kp, kq, z⟩⟩⟩
end JM

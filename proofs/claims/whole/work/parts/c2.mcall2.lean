section CL2
variable {X : zm_T} {d L n i j k a b e h hh p u q res m c r l : Nat} {μ μ' μ0 μ1 μs : zm_u} {T T' T1 T0 Tb : tT} {S S' : Nat → Tr} {N : Nat → Prop} {ν ν' : Nat → Tr} {R : List Nat} {v x : Int32} {tt : Tr} {mk : Nat → Prop}
def R129 (L : Nat) (T0 : tT) (N : Nat → Prop) (ν : Nat → Tr) (tt : Tr) (res : Nat) (T : tT) (μ : zm_u) (r' : Int32) (μ' : zm_u) : Prop := ∃ T1 r, r' = nI r ∧ RP μ' T1 ∧ Rn 7 T T1 ∧ Tf L μ μ' ∧ Lv T1 N r ∧ tJ T1 ν r = tJ T0 (sg T0 tt ν) res
theorem m_resultAt (hd : 6 ≤ d) (hLT : LT L res T0) (hR : RP μ T) (hT6 : T.length + 8 ≤ 600) (hL : L ≤ T.length) (hpre : ∀ i, i < L → T[i]? = T0[i]?) (hN : ∀ i a b, T0[i]? = some (4, a, b) → N i) (h11 : μ 22 11 = nI res) (le : Lv T N e) (ee : tJ T ν e = tt) :
    zI X d 129 [.inr 22, .inl (nI e)] μ (R129 L T0 N ν tt res T μ) := by
  obtain ⟨t1, t2, t3, t4, t5⟩ := hLT
  have hw := hR.2.2.1
  have g11 : ∀ {μ1 : zm_u}, Tf L μ μ1 → μ1 22 11 = nI res := fun hf => (hf.2.2 11 (by decide) (by decide)).trans h11
  have hrl := rl_len (T0 := T0) 3 res
  have nr3 : nr 3 = 7 := rfl

  have third : ∀ (mk : Nat → Prop), MK T0 res mk → ∀ (r t : Nat), t + r = res + 1 → ∀ (μ1 : zm_u) (T1 : tT), RP μ1 T1 → Rx T T1 → T1.length + cnt (rl T0 3 res) t ≤ T.length + 7 → Tf L μ μ1 → (∀ i, i < t → mk i → ∃ r, μ1 48 i = nI r ∧ Lv T1 N r ∧ tJ T1 ν r = tJ T0 (sg T0 tt ν) i) → (∀ i, t ≤ i → i ≤ res → (mk i ↔ μ1 48 i = 1)) → zV X (d - 1) 129 116 [(0, .inr 22), (1, .inl (nI e)), (2, .inl (nI t))] [] μ1 (zpi (R129 L T0 N ν tt res T μ)) := by
    intro mk hmk r
    induction r with
    | zero =>
      intro t ht μ1 T1 hR1 hx hlen hf hset _
      have hlt : μ1 22 11 < nI t := by rw [g11 hf, nI_ltI (by omega) (by omega)]; omega
      obtain ⟨r, s1, s2, s3⟩ := hset res (by omega) hmk.1
      refine k129_116 (fun _ => by rw [g11 hf, nI_t (by omega)]; omega) (fun _ => ⟨T1, r, ?_, hR1, ⟨hx, by omega⟩, hf, s2, s3⟩) (fun z => absurd hlt z) (fun z => absurd hlt z) (fun z => absurd hlt z)
      rw [g11 hf, nI_c (by omega), s1]
    | succ r ih =>
      intro t ht μ1 T1 hR1 hx hlen hf hset hopn
      have hlt : ¬ μ1 22 11 < nI t := by rw [g11 hf, nI_ltI (by omega) (by omega)]; omega
      have ct : (nI t).toNatClampNeg = t := nI_c (by omega)
      have bt : 0 ≤ (nI t).toInt ∧ (nI t).toInt < ((600 : Nat) : Int) := by rw [nI_t (by omega)]; omega
      have nx : nI t + 1 = nI (t + 1) := by rw [← nI_one, nI_add]
      have hcl := cnt_le (R := rl T0 3 res) (i := t)
      have hx1 := hx.2.1
      refine k129_116 (fun z => absurd z hlt) (fun z => absurd z hlt) (fun _ => bt) (fun _ z => k129_140 ?_) (fun _ z => ?_)
      · rw [ct] at z
        rw [nx]
        refine ih (t + 1) (by omega) μ1 T1 hR1 hx (by omega) hf (fun i hi hm => ?_) (fun i h1 h2 => hopn i (by omega) h2)
        by_cases ei : i = t
        · subst ei
          exact absurd ((hopn i (by omega) (by omega)).mp hm) z
        · exact hset i (by omega) hm
      · rw [ct] at z
        have hmt := (hopn t (by omega) (by omega)).mpr z
        obtain ⟨c2, c3, c4⟩ := hmk.2 t (by omega) hmt
        have wt := kd_w t4 (show t < T0.length by omega)
        have hlen6 : (kd T0 t = 2 ∨ kd T0 t = 3) → T1.length + 1 + cnt (rl T0 3 res) (t + 1) ≤ T.length + 7 := fun hk => by
          have := cnt_lt (c4 hk)
          omega
        have hT1 : T1.length < 600 := by omega
        refine ⟨_, m_settle (tt := tt) (ν := ν) (by omega) hR1 hT1 (by omega) t2 t4 t1 (fun i hi => (hx.1 i (by omega)).trans (hpre i hi)) hN (by omega) (Rx_Lv hw hx le) (by rw [Rx_tJ hw hx le.1]; exact ee) (fun k => ⟨hset _ (by omega) (c2 k).1, hset _ (by omega) (c2 k).2⟩) (fun k => hset _ (by omega) (c3 k)), fun μ2 hr => k129_140 ?_⟩
        obtain ⟨T2, r2, s1, s2, s3, s4, s5, s6, s7⟩ := hr
        rw [nx]
        refine ih (t + 1) (by omega) μ2 T2 s1 (Rx_tr hx s2.1) ?_ (Tf_tr hf s3) (fun i hi hm => ?_) (fun i h1 h2 => by rw [s4 i (by omega)]; exact hopn i (by omega) h2)
        · have s2l := s2.2
          by_cases hk : kd T0 t = 2 ∨ kd T0 t = 3
          · rw [if_pos hk] at s2l
            have := hlen6 hk
            omega
          · rw [if_neg hk] at s2l
            omega
        · by_cases ei : i = t
          · subst ei
            exact ⟨r2, s5, s6, s7⟩
          · obtain ⟨r3, y1, y2, y3⟩ := hset i (by omega) hm
            exact ⟨r3, (s4 i ei).trans y1, Rx_Lv hR1.2.2.1 s2.1 y2, by rw [Rx_tJ hR1.2.2.1 s2.1 y2.1]; exact y3⟩

  have second : ∀ (m : Nat), m ≤ res + 1 → ∀ (μ1 : zm_u), RP μ1 T → Tf L μ μ1 → (∀ i, i ≤ res → μ1 48 i = 0 ∨ μ1 48 i = 1) → μ1 48 res = 1 → (∀ i, m ≤ i → i ≤ res → μ1 48 i = 1 → (kd T0 i = 2 → μ1 48 (k1 T0 i) = 1 ∧ μ1 48 (k2 T0 i) = 1) ∧ (kd T0 i = 3 → μ1 48 (k1 T0 i) = 1)) → (∀ i, i ≤ res → μ1 48 i = 1 → (kd T0 i = 2 ∨ kd T0 i = 3) → i ∈ rl T0 3 res) → zV X (d - 1) 129 40 [(0, .inr 22), (1, .inl (nI e)), (2, .inl (nI m - 1))] [] μ1 (zpi (R129 L T0 N ν tt res T μ)) := by
    intro m
    induction m with
    | zero =>
      intro _ μ1 hR1 hf h01 hres hcl hin
      have hneg : nI 0 - 1 < 0 := by decide
      refine k129_40 (fun _ => ?_) (fun z => absurd hneg z) (fun z => absurd hneg z) (fun z => absurd hneg z) (fun z => absurd hneg z) (fun z => absurd hneg z) (fun z => absurd hneg z) (fun z => absurd hneg z)
      refine third (fun i => μ1 48 i = 1) ⟨hres, fun i hi hm => ⟨(hcl i (by omega) hi hm).1, (hcl i (by omega) hi hm).2, hin i hi hm⟩⟩ (res + 1) 0 (by omega) μ1 T hR1 (Rx_rf hw) ?_ hf (fun i hi => by omega) (fun i _ _ => Iff.rfl)
      have := cnt_0 (R := rl T0 3 res) (i := 0)
      omega
    | succ m ih =>
      intro hm1 μ1 hR1 hf h01 hres hcl hin
      have em : nI (m + 1) - 1 = nI m := by rw [← nI_one, nI_sub (by omega)]; rfl
      rw [em]
      have cm : (nI m).toNatClampNeg = m := nI_c (by omega)
      have bm : 0 ≤ (nI m).toInt ∧ (nI m).toInt < ((600 : Nat) : Int) := by rw [nI_t (by omega)]; omega
      have nn : ¬ nI m < 0 := nI_pos (by omega)
      have hmT : m < T.length := by omega
      have hat := (hpre m (by omega)).trans (at_kd (show m < T0.length by omega))
      obtain ⟨q1, q2, q3⟩ := kd_at hat
      obtain ⟨p23, p24, p25⟩ := hR1.2.2.2 m hmT
      rw [q1] at p23
      rw [q2] at p24
      rw [q3] at p25
      have wi := kd_w t4 (show m < T0.length by omega)
      have c23 : ∀ z : Nat, z ≤ 4 → (μ1 23 (nI m).toNatClampNeg = nI z ↔ kd T0 m = z) := fun z hz => by rw [cm, p23, nI_inj (by omega) (by omega)]
      have e2 : (2 : Int32) = nI 2 := rfl
      have e3 : (3 : Int32) = nI 3 := rfl
      have step : (μ1 48 m = 1 → kd T0 m ≠ 2 ∧ kd T0 m ≠ 3) → zV X (d - 1) 129 108 [(0, .inr 22), (1, .inl (nI e)), (2, .inl (nI m))] [] μ1 (zpi (R129 L T0 N ν tt res T μ)) := by
        intro hno
        refine k129_108 ?_
        rw [ad_m1]
        refine ih (by omega) μ1 hR1 hf h01 hres (fun i h1 h2 h3 => ?_) hin
        by_cases ei : i = m
        · subst ei
          exact ⟨fun k => absurd k (hno h3).1, fun k => absurd k (hno h3).2⟩
        · exact hcl i (by omega) h2 h3
      have rlp := rl_part t4 3 res (by omega) (t5 res t3)
      refine k129_40 (fun z => absurd z nn) (fun _ => bm) (fun _ z => step (fun z1 => absurd z1 (by rw [cm] at z; exact z))) (fun _ _ => bm) (fun _ z1 z2 => ?_) (fun _ _ _ => bm) (fun _ z1 z2 z3 => step (fun _ => ⟨fun k => z2 ((c23 2 (by omega)).mpr k), fun k => z3 ((c23 3 (by omega)).mpr k)⟩)) (fun _ z1 z2 z3 => ?_)
      ·
        rw [cm] at z1
        have k2' := (c23 2 (by omega)).mp z2
        have wk := wi.2.1 k2'
        have mem := hin m (by omega) z1 (Or.inl k2')
        obtain ⟨-, r2, r3⟩ := rlp m mem
        refine k129_74 bm (by rw [cm, p24, nI_t (by omega)]; omega) bm (fun z => absurd z2 z) (fun _ => bm) (fun _ => by rw [cm, p25, nI_t (by omega)]; omega) (fun _ => k129_108 ?_)
        rw [cm, p24, p25, nI_c (show k1 T0 m < 100000 by omega), nI_c (show k2 T0 m < 100000 by omega), ad_m1]
        have val : ∀ i, (zm_up (zm_up μ1 48 (k1 T0 m) 1) 48 (k2 T0 m) 1) 48 i = if i = k1 T0 m ∨ i = k2 T0 m then 1 else μ1 48 i := by
          intro i
          by_cases c2 : i = k2 T0 m
          · rw [c2, up48', if_pos (Or.inr rfl)]
          · rw [up48 c2]
            by_cases c1 : i = k1 T0 m
            · rw [c1, up48', if_pos (Or.inl rfl)]
            · rw [up48 c1, if_neg (by omega)]
        refine ih (by omega) _ (RP_48 (RP_48 hR1)) (Tf_tr hf (Tf_tr Tf_48 Tf_48)) (fun i hi => ?_) ?_ (fun i h1 h2 h3 => ?_) (fun i h2 h3 hk => ?_)
        · rw [val]; split
          · exact Or.inr rfl
          · exact h01 i hi
        · rw [val]; split
          · rfl
          · exact hres
        · rw [val, if_neg (by omega)] at h3
          rw [val, val]
          by_cases ei : i = m
          · subst ei
            exact ⟨fun _ => ⟨by rw [if_pos (Or.inl rfl)], by rw [if_pos (Or.inr rfl)]⟩, fun k => by omega⟩
          · obtain ⟨y1, y2⟩ := hcl i (by omega) h2 h3
            refine ⟨fun k => ⟨?_, ?_⟩, fun k => ?_⟩
            · split
              · rfl
              · exact (y1 k).1
            · split
              · rfl
              · exact (y1 k).2
            · split
              · rfl
              · exact y2 k
        · rw [val] at h3
          by_cases c1 : i = k1 T0 m ∨ i = k2 T0 m
          · exact r2 k2' i c1 hk
          · rw [if_neg c1] at h3
            exact hin i h2 h3 hk
      ·
        rw [cm] at z1
        have k3' := (c23 3 (by omega)).mp z3
        have wk := wi.2.2.1 k3'
        have mem := hin m (by omega) z1 (Or.inr k3')
        obtain ⟨-, r2, r3⟩ := rlp m mem
        refine k129_74 bm (by rw [cm, p24, nI_t (by omega)]; omega) bm (fun _ => k129_108 ?_) (fun z => absurd z z2) (fun z => absurd z z2) (fun z => absurd z z2)
        rw [cm, p24, nI_c (show k1 T0 m < 100000 by omega), ad_m1]
        have val : ∀ i, (zm_up μ1 48 (k1 T0 m) 1) 48 i = if i = k1 T0 m then 1 else μ1 48 i := by
          intro i
          by_cases c1 : i = k1 T0 m
          · rw [c1, up48', if_pos rfl]
          · rw [up48 c1, if_neg c1]
        refine ih (by omega) _ (RP_48 hR1) (Tf_tr hf Tf_48) (fun i hi => ?_) ?_ (fun i h1 h2 h3 => ?_) (fun i h2 h3 hk => ?_)
        · rw [val]; split
          · exact Or.inr rfl
          · exact h01 i hi
        · rw [val]; split
          · rfl
          · exact hres
        · rw [val, if_neg (by omega)] at h3
          rw [val, val]
          by_cases ei : i = m
          · subst ei
            exact ⟨fun k => by omega, fun _ => by rw [if_pos rfl]⟩
          · obtain ⟨y1, y2⟩ := hcl i (by omega) h2 h3
            refine ⟨fun k => ⟨?_, ?_⟩, fun k => ?_⟩
            · split
              · rfl
              · exact (y1 k).1
            · split
              · rfl
              · exact (y1 k).2
            · split
              · rfl
              · exact y2 k
        · rw [val] at h3
          by_cases c1 : i = k1 T0 m
          · exact r3 k3' i c1 hk
          · rw [if_neg c1] at h3
            exact hin i h2 h3 hk

  have first : ∀ (r t : Nat), t + r = res + 1 → ∀ μ1 : zm_u, RP μ1 T → Tf L μ μ1 → (∀ i, i < t → μ1 48 i = if i = res then 1 else 0) → zV X (d - 1) 129 2 [(0, .inr 22), (1, .inl (nI e)), (2, .inl (nI t))] [] μ1 (zpi (R129 L T0 N ν tt res T μ)) := by
    intro r
    induction r with
    | zero =>
      intro t ht μ1 hR1 hf hv
      have hlt : μ1 22 11 < nI t := by rw [g11 hf, nI_ltI (by omega) (by omega)]; omega
      refine k129_2 (fun _ => ?_) (fun z => absurd hlt z) (fun z => absurd hlt z)
      rw [g11 hf]
      have er : nI res = nI (res + 1) - 1 := by rw [← nI_one, nI_sub (by omega)]; rfl
      rw [er]
      refine second (res + 1) (by omega) μ1 hR1 hf (fun i hi => ?_) (by rw [hv res (by omega), if_pos rfl]) (fun i h1 h2 => by omega) (fun i hi h1 hk => ?_)
      · rw [hv i (by omega)]
        split
        · exact Or.inr rfl
        · exact Or.inl rfl
      · rw [hv i (by omega)] at h1
        by_cases c1 : i = res
        · subst c1
          exact rl_self t4 (by omega) (t5 i t3) hk
        · rw [if_neg c1] at h1
          exact absurd h1 (by decide)
    | succ r ih =>
      intro t ht μ1 hR1 hf hv
      have hlt : ¬ μ1 22 11 < nI t := by rw [g11 hf, nI_ltI (by omega) (by omega)]; omega
      have ct : (nI t).toNatClampNeg = t := nI_c (by omega)
      have bt : 0 ≤ (nI t).toInt ∧ (nI t).toInt < ((600 : Nat) : Int) := by rw [nI_t (by omega)]; omega
      have nx : nI t + 1 = nI (t + 1) := by rw [← nI_one, nI_add]
      have go : ∀ v : Int32, v = (if t = res then 1 else 0) → zV X (d - 1) 129 28 [(0, .inr 22), (1, .inl (nI e)), (2, .inl (nI t))] [.inl v, .inl (nI t), .inr 48] μ1 (zpi (R129 L T0 N ν tt res T μ)) := by
        intro v hv'
        refine k129_28 bt ?_
        rw [ct, nx]
        refine ih (t + 1) (by omega) _ (RP_48 hR1) (Tf_tr hf Tf_48) (fun i hi => ?_)
        by_cases ei : i = t
        · subst ei
          rw [up48', hv']
        · rw [up48 ei]
          exact hv i (by omega)
      refine k129_2 (fun z => absurd z hlt) (fun _ z => go 0 ?_) (fun _ z => go 1 ?_)
      · rw [g11 hf, nI_inj (by omega) (by omega)] at z
        rw [if_neg z]
      · rw [g11 hf, nI_inj (by omega) (by omega)] at z
        rw [if_pos z]
  exact zI_at [0, 1] (by omega) rfl (k129_0 (first (res + 1) 0 (by omega) μ hR Tf_rf (fun i hi => by omega)))
end CL2

def Rel (μ : zm_u) : Prop := ∃ (T : tT) (st : sT) (res mt : Nat), Tok T ∧ t_C μ T ∧ t_R μ T ∧ RT T.length μ st ∧ (res < T.length ∧ mt < T.length ∧ μ 0 4 = nI res ∧ μ 22 11 = nI res ∧ μ 0 5 = nI mt ∧ μ 22 12 = nI mt) ∧ (∀ i, i < 466 → μ 13 i = -1) ∧ EvS μ
def LSt (X : zm_T) (d n1 : Nat) (as1 : List zm_v) (n2 : Nat) (as2 : List zm_v) (μ : zm_u) : Prop :=
  ∃ G1 : Int32 → zm_u → Prop, zI X d n1 as1 μ G1 ∧ ∀ (r : Int32) (μ1 : zm_u), G1 r μ1 → ∃ G2 : Int32 → zm_u → Prop, zI X d n2 as2 μ1 G2 ∧ ∀ (r2 : Int32) (μ2 : zm_u), G2 r2 μ2 → r = r2 ∧ Rel μ2
section LW
variable {X : zm_T} {d L n i j k a b e res mt : Nat} {μ μ' μ0 μ1 μ2 : zm_u} {T T' : tT} {st : sT} {x y z v : Int32}
theorem EvS_fr (h : EvS μ) (hc : ∀ c, c = 4 ∨ c = 5 ∨ (16 ≤ c ∧ c ≤ 20) ∨ (49 ≤ c ∧ c ≤ 51) → μ' c = μ c) (hs : ∀ i, i = 37 ∨ i = 41 ∨ i = 42 ∨ i = 43 → μ' 22 i = μ 22 i) : EvS μ' := by
  obtain ⟨h1, h2⟩ := h
  refine ⟨by rw [hc 4 (by omega), hs 43 (by omega)]; exact h1, ?_⟩
  rcases h2 with ⟨a1, a2⟩ | ⟨vs, v, v1, ⟨c1, c2, c3⟩, ⟨r1, r2⟩, v2, v3, v4, ⟨w1, w2⟩⟩
  · exact Or.inl ⟨by rw [hs 41 (by omega)]; exact a1, by rw [hc 5 (by omega)]; exact a2⟩
  · refine Or.inr ⟨vs, v, v1, ⟨c1, by rw [hc 5 (by omega)]; exact c2, ?_⟩, ⟨by rw [hs 37 (by omega)]; exact r1, ?_⟩, v2, by rw [hs 41 (by omega)]; exact v3, by rw [hs 42 (by omega)]; exact v4, ⟨by rw [hc 5 (by omega)]; exact w1, ?_⟩⟩
    · rw [hc 16 (by omega), hc 17 (by omega), hc 18 (by omega), hc 19 (by omega)]; exact c3
    · rw [hc 49 (by omega), hc 50 (by omega), hc 51 (by omega)]; exact r2
    · rw [hc 20 (by omega)]; exact w2
theorem tC_fr (h : t_C μ T) (hc : ∀ c, c = 1 ∨ c = 6 ∨ c = 7 ∨ c = 8 → μ' c = μ c) : t_C μ' T := ⟨by rw [hc 1 (by omega)]; exact h.1, by rw [hc 6 (by omega), hc 7 (by omega), hc 8 (by omega)]; exact h.2⟩
theorem tR_fr (h : t_R μ T) (hc : ∀ c, 23 ≤ c → c ≤ 26 → ∀ i, i < T.length → μ' c i = μ c i) (hs : μ' 22 0 = μ 22 0) : t_R μ' T := ⟨by rw [hs]; exact h.1, fun i k a b hi => by
  have hl := tw_lt hi
  rw [hc 23 (by omega) (by omega) i hl, hc 24 (by omega) (by omega) i hl, hc 25 (by omega) (by omega) i hl, hc 26 (by omega) (by omega) i hl]
  exact h.2 i k a b hi⟩
theorem RS_fr (h : RS μ st) (h10 : μ' 22 10 = μ 22 10) (h29 : μ' 29 = μ 29) (h30 : μ' 30 = μ 30) : RS μ' st := ⟨h.1, by rw [h10]; exact h.2.1, by rw [h29, h30]; exact h.2.2⟩
theorem cs_put_r {o a : Int32} {w n e i c : Nat} (h : c ≠ 2 ∧ c ≠ 9 ∧ c ≠ 10 ∧ c ≠ 11 ∧ c ≠ 12) : cs_put μ o a w n e i c = μ c := by
  unfold cs_put
  rw [zm_up_row (by omega), zm_up_row (by omega), zm_up_row (by omega), zm_up_row (by omega), zm_up_row (by omega), zm_up_row (by omega)]
theorem ms_put_r {o a : Int32} {r : sT} {i n e c : Nat} (h : c ≠ 22 ∧ ¬ (27 ≤ c ∧ c ≤ 32)) : ms_put μ o a r i n e c = μ c := by
  unfold ms_put
  rw [zm_up_row (by omega), zm_up_row (by omega), zm_up_row (by omega), mbk_row (by omega) (by omega), zm_up_row (by omega), mcl_row (by omega) (by omega), zm_up_row (by omega), zm_up_row (by omega)]
theorem ms_put_22 {o a : Int32} {r : sT} {i n e k : Nat} (h : k ≠ 10) : ms_put μ o a r i n e 22 k = μ 22 k := by
  unfold ms_put
  rw [zm_up_at, if_neg (by omega), zm_up_row (by decide), zm_up_row (by decide), mbk_row (by decide) (by decide), zm_up_at, if_neg (by omega), mcl_row (by decide) (by decide), zm_up_row (by decide), zm_up_row (by decide)]
theorem cs_take_r {u w n l c : Nat} (h : c ≠ 2 ∧ c ≠ 9 ∧ c ≠ 10 ∧ c ≠ 11) : cs_take μ u w n l c = μ c := by
  unfold cs_take cs_drop
  rw [zm_up_row (by omega), zm_up_row (by omega)]
  funext i
  unfold cs_cp
  rw [if_neg (by omega)]
theorem ms_take_r {b w n c : Nat} (h : c ≠ 22 ∧ ¬ (27 ≤ c ∧ c ≤ 29)) : ms_take μ b w n c = μ c := by
  unfold ms_take
  rw [mtk_row (by omega) (by omega), zm_up_row (by omega), zm_up_row (by omega)]
theorem ms_take_22 {b w n k : Nat} (h : k ≠ 10) : ms_take μ b w n 22 k = μ 22 k := by
  unfold ms_take
  rw [mtk_row (by omega) (by omega), zm_up_row (by omega), zm_up_at, if_neg (by omega)]
theorem ls_type (hd : 12 ≤ d) (h : Rel μ) : LSt X d 0 [.inr 0, .inl x, .inl y, .inl z] 104 [.inr 22, .inl x, .inl y, .inl z] μ := by
  obtain ⟨T, st, res, mt, h1, h2, h3, h4, ⟨r1, r2, r3, r4, r5, r6⟩, h6, h7⟩ := h
  refine ⟨_, c_type (by omega) h2 (Tok_wf h1) h1.1, fun r μ1 hr => ?_⟩
  obtain ⟨T', e1, e2, e3⟩ := hr
  have c1 : ∀ c, c ≠ 1 ∧ c ≠ 6 ∧ c ≠ 7 ∧ c ≠ 8 → μ1 c = μ c := fun c hc => e3 c hc.1 hc.2.1 hc.2.2.1 hc.2.2.2
  have h3' : t_R μ1 T := tR_fr h3 (fun c a b i _ => by rw [c1 c (by omega)]) (by rw [c1 22 (by omega)])
  refine ⟨_, m_type (by omega) h3' (Tok_wf h1) h1.1, fun r2 μ2 hr => ?_⟩
  obtain ⟨T2, f1, f2, f3⟩ := hr
  rw [e1] at f1
  simp only [Prod.mk.injEq] at f1
  obtain ⟨rfl, rfl⟩ := f1
  obtain ⟨g1, g2, g3⟩ := Tok_make h1 e1
  have c2 : ∀ c, ¬ (22 ≤ c ∧ c ≤ 26) → μ2 c = μ1 c := fun c hc => f3.1 c (by omega) (by omega) (by omega) (by omega) (by omega)
  have c3 : ∀ c, c ≠ 1 ∧ c ≠ 6 ∧ c ≠ 7 ∧ c ≠ 8 ∧ ¬ (22 ≤ c ∧ c ≤ 26) → μ2 c = μ c := fun c hc => (c2 c (by omega)).trans (c1 c (by omega))
  have s3 : ∀ i, i ≠ 0 → i ≠ 1 → μ2 22 i = μ 22 i := fun i a b => by rw [f3.2 i a b, c1 22 (by omega)]
  refine ⟨rfl, T', st, res, mt, g1, tC_fr e2 (fun c hc => c2 c (by omega)), f2, RT_frame g2 h4 (fun i _ _ => by rw [c3 2 (by omega)]) (c3 9 (by omega)) (c3 10 (by omega)) (c3 11 (by omega)) (c3 12 (by omega)) (c3 27 (by omega)) (c3 28 (by omega)) (c3 29 (by omega)) (c3 30 (by omega)) (s3 10 (by omega) (by omega)), ⟨by omega, by omega, by rw [c3 0 (by omega)]; exact r3, by rw [s3 11 (by omega) (by omega)]; exact r4, by rw [c3 0 (by omega)]; exact r5, by rw [s3 12 (by omega) (by omega)]; exact r6⟩, fun i hi => by rw [c3 13 (by omega)]; exact h6 i hi, EvS_fr h7 (fun c hc => c3 c (by omega)) (fun i hi => s3 i (by omega) (by omega))⟩
theorem ls_make (hd : 6 ≤ d) (h : Rel μ) : LSt X d 1 [.inr 0, .inl x, .inl y] 108 [.inr 22, .inl x, .inl y] μ := by
  have h' := h
  obtain ⟨T, st, res, mt, h1, h2, h3, h4, ⟨r1, r2, r3, r4, r5, r6⟩, h6, h7⟩ := h
  have h24 := h1.1
  refine ⟨_, c_make (L := T.length) (by omega) h4.1 (by rw [h2.1, nI_t (by omega)]), fun r μ1 hr => ?_⟩
  rcases hr with ⟨n1, rfl, rfl⟩ | ⟨n1, n2, n3, rfl, rfl⟩ | ⟨n1, n2, n3, rfl, rfl⟩
  · refine ⟨_, m_make (L := T.length) (by omega) h4.2.1 (by rw [h3.1, nI_t (by omega)]), fun r2 μ2 hr => ?_⟩
    rcases hr with ⟨_, rfl, rfl⟩ | ⟨q1, q2, _⟩ | ⟨q1, q2, _⟩
    · exact ⟨rfl, h'⟩
    · exact absurd ⟨q1, q2⟩ n1
    · exact absurd ⟨q1, q2⟩ n1
  · refine ⟨_, m_make (L := T.length) (by omega) h4.2.1 (by rw [h3.1, nI_t (by omega)]), fun r2 μ2 hr => ?_⟩
    rcases hr with ⟨q, _⟩ | ⟨_, _, _, rfl, rfl⟩ | ⟨_, _, q, _⟩
    · exact absurd ⟨n1, n2⟩ q
    · exact ⟨rfl, h'⟩
    · exact absurd n3 q
  · refine ⟨_, m_make (L := T.length) (by omega) (RS_fr h4.2.1 (by rw [cs_put_r (by omega)]) (cs_put_r (by omega)) (cs_put_r (by omega))) (by rw [cs_put_r (by omega), h3.1, nI_t (by omega)]), fun r2 μ2 hr => ?_⟩
    rcases hr with ⟨q, _⟩ | ⟨_, _, q, _⟩ | ⟨_, _, _, rfl, rfl⟩
    · exact absurd ⟨n1, n2⟩ q
    · exact absurd q n3
    · have hRT := RT_make h4 n1 n2 n3
      refine ⟨rfl, T, _, res, mt, h1, tC_fr h2 (fun c hc => by rw [ms_put_r (by omega), cs_put_r (by omega)]), tR_fr h3 (fun c a b i _ => by rw [ms_put_r (by omega), cs_put_r (by omega)]) (by rw [ms_put_22 (by omega), cs_put_r (by omega)]), hRT, ⟨r1, r2, by rw [ms_put_r (by omega), cs_put_r (by omega)]; exact r3, by rw [ms_put_22 (by omega), cs_put_r (by omega)]; exact r4, by rw [ms_put_r (by omega), cs_put_r (by omega)]; exact r5, by rw [ms_put_22 (by omega), cs_put_r (by omega)]; exact r6⟩, fun i hi => by rw [ms_put_r (by omega), cs_put_r (by omega)]; exact h6 i hi, EvS_fr h7 (fun c hc => by rw [ms_put_r (by omega), cs_put_r (by omega)]) (fun i hi => by rw [ms_put_22 (by omega), cs_put_r (by omega)])⟩
theorem ls_height (hd : 3 ≤ d) (h : Rel μ) : LSt X d 2 [.inr 0] 109 [.inr 22] μ := by
  have h' := h
  obtain ⟨T, st, res, mt, h1, h2, h3, h4, _⟩ := h
  refine ⟨_, c_height (by omega), fun r μ1 hr => ?_⟩
  obtain ⟨rfl, rfl⟩ := hr
  refine ⟨_, m_height (by omega), fun r2 μ2 hr => ?_⟩
  obtain ⟨rfl, rfl⟩ := hr
  exact ⟨by rw [h4.1.2.2.1, h4.2.1.2.1], h'⟩
theorem ls_drop (hd : 6 ≤ d) (h : Rel μ) : LSt X d 3 [.inr 0] 110 [.inr 22] μ := by
  have h' := h
  obtain ⟨T, st, res, mt, h1, h2, h3, h4, ⟨r1, r2, r3, r4, r5, r6⟩, h6, h7⟩ := h
  have cd : ∀ {w i c : Nat}, c ≠ 2 → cs_drop μ w i c = μ c := fun hc => by unfold cs_drop; rw [zm_up_row hc, zm_up_row hc]
  refine ⟨_, c_drop (by omega) h4.1, fun r μ1 hr => ?_⟩
  rcases hr with ⟨rfl, rfl, rfl⟩ | ⟨n, e, s, rfl, rfl, rfl⟩
  · refine ⟨_, m_drop (by omega) h4.2.1, fun r2 μ2 hr => ?_⟩
    rcases hr with ⟨_, rfl, rfl⟩ | ⟨n, e, s, q, _⟩
    · exact ⟨rfl, h'⟩
    · simp at q
  · refine ⟨_, m_drop (by omega) (RS_fr h4.2.1 (by rw [cd (by decide)]) (cd (by decide)) (cd (by decide))), fun r2 μ2 hr => ?_⟩
    rcases hr with ⟨q, _⟩ | ⟨n2, e2, s2, q, rfl, rfl⟩
    · simp at q
    · obtain ⟨rfl, _⟩ := List.append_inj' q rfl
      have hRT := RT_drop h4
      have c3 : ∀ c, c ≠ 2 → c ≠ 22 → (zm_up (cs_drop μ (su s) s.length) 22 10 (nI s.length)) c = μ c := fun c a b => by rw [zm_up_row b, cd a]
      have s3 : ∀ i, i ≠ 10 → (zm_up (cs_drop μ (su s) s.length) 22 10 (nI s.length)) 22 i = μ 22 i := fun i a => by rw [zm_up_at, if_neg (by omega), cd (by decide)]
      exact ⟨rfl, T, s, res, mt, h1, tC_fr h2 (fun c hc => c3 c (by omega) (by omega)), tR_fr h3 (fun c a b i _ => by rw [c3 c (by omega) (by omega)]) (s3 0 (by omega)), hRT, ⟨r1, r2, by rw [c3 0 (by omega) (by omega)]; exact r3, by rw [s3 11 (by omega)]; exact r4, by rw [c3 0 (by omega) (by omega)]; exact r5, by rw [s3 12 (by omega)]; exact r6⟩, fun i hi => by rw [c3 13 (by omega) (by omega)]; exact h6 i hi, EvS_fr h7 (fun c hc => c3 c (by omega) (by omega)) (fun i hi => s3 i (by omega))⟩

theorem rel_take {s : sT} {n e w f g g' : Nat} {t : Int32} (hw : w = 12 ∧ f = 6 ∧ g = 4 ∧ g' = 11 ∨ w = 13 ∧ f = 7 ∧ g = 5 ∧ g' = 12) (ht : 0 ≤ t.toInt ∧ t.toInt < T.length) (h1 : Tok T) (h2 : t_C μ T) (h3 : t_R μ T) (h4 : RT T.length μ (s ++ [(n, e)])) (hr : res < T.length ∧ mt < T.length ∧ μ 0 4 = nI res ∧ μ 22 11 = nI res ∧ μ 0 5 = nI mt ∧ μ 22 12 = nI mt) (h6 : ∀ i, i < 466 → μ 13 i = -1) (h7 : EvS μ) :
    Rel (zm_up (ms_take (zm_up (zm_up (cs_take μ (su s) (40 * w) n s.length) 2 f (nI (40 * w + n - 1))) 0 g t) s.length w n) 22 g' t) := by
  obtain ⟨r1, r2, r3, r4, r5, r6⟩ := hr
  have hRT := RT_take (t := t) (g := g) (g' := g') (f := f) (w := w) (by omega) (by omega) (by omega) h4
  have c3 : ∀ c, c ≠ 0 → c ≠ 2 → ¬ (9 ≤ c ∧ c ≤ 11) → c ≠ 22 → ¬ (27 ≤ c ∧ c ≤ 29) → (zm_up (ms_take (zm_up (zm_up (cs_take μ (su s) (40 * w) n s.length) 2 f (nI (40 * w + n - 1))) 0 g t) s.length w n) 22 g' t) c = μ c := fun c a b c' d e => by rw [zm_up_row d, ms_take_r (by omega), zm_up_row a, zm_up_row b, cs_take_r (by omega)]
  have s3 : ∀ i, i ≠ 10 → i ≠ g' → (zm_up (ms_take (zm_up (zm_up (cs_take μ (su s) (40 * w) n s.length) 2 f (nI (40 * w + n - 1))) 0 g t) s.length w n) 22 g' t) 22 i = μ 22 i := fun i a b => by rw [zm_up_at, if_neg (by omega), ms_take_22 a, zm_up_row (by decide), zm_up_row (by decide), cs_take_r (by omega)]
  have z0 : ∀ i, i ≠ g → (zm_up (ms_take (zm_up (zm_up (cs_take μ (su s) (40 * w) n s.length) 2 f (nI (40 * w + n - 1))) 0 g t) s.length w n) 22 g' t) 0 i = μ 0 i := fun i a => by rw [zm_up_row (by decide), ms_take_r (by omega), zm_up_at, if_neg (by omega), zm_up_row (by decide), cs_take_r (by omega)]
  have z1 : (zm_up (ms_take (zm_up (zm_up (cs_take μ (su s) (40 * w) n s.length) 2 f (nI (40 * w + n - 1))) 0 g t) s.length w n) 22 g' t) 0 g = t := by rw [zm_up_row (by decide), ms_take_r (by omega), zm_up_at, if_pos ⟨rfl, rfl⟩]
  have z2 : (zm_up (ms_take (zm_up (zm_up (cs_take μ (su s) (40 * w) n s.length) 2 f (nI (40 * w + n - 1))) 0 g t) s.length w n) 22 g' t) 22 g' = t := by rw [zm_up_at, if_pos ⟨rfl, rfl⟩]
  generalize (zm_up (ms_take (zm_up (zm_up (cs_take μ (su s) (40 * w) n s.length) 2 f (nI (40 * w + n - 1))) 0 g t) s.length w n) 22 g' t) = μ2 at hRT c3 s3 z0 z1 z2 ⊢
  obtain ⟨tn, htn, rfl⟩ := nat_of (l := T.length) ht
  have hC := tC_fr h2 (fun c hc => c3 c (by omega) (by omega) (by omega) (by omega) (by omega))
  have hR := tR_fr h3 (fun c a b i _ => by rw [c3 c (by omega) (by omega) (by omega) (by omega) (by omega)]) (s3 0 (by omega) (by omega))
  have hE := EvS_fr h7 (fun c hc => c3 c (by omega) (by omega) (by omega) (by omega) (by omega)) (fun i hi => s3 i (by omega) (by omega))
  have hD : ∀ i, i < 466 → μ2 13 i = -1 := fun i hi => by rw [c3 13 (by omega) (by omega) (by omega) (by omega) (by omega)]; exact h6 i hi
  rcases hw with ⟨rfl, rfl, rfl, rfl⟩ | ⟨rfl, rfl, rfl, rfl⟩
  · exact ⟨T, s, tn, mt, h1, hC, hR, hRT, ⟨htn, r2, z1, z2, by rw [z0 5 (by omega)]; exact r5, by rw [s3 12 (by omega) (by omega)]; exact r6⟩, hD, hE⟩
  · exact ⟨T, s, res, tn, h1, hC, hR, hRT, ⟨r1, htn, by rw [z0 4 (by omega)]; exact r3, by rw [s3 11 (by omega) (by omega)]; exact r4, z1, z2⟩, hD, hE⟩
theorem ls_function (hd : 9 ≤ d) (h : Rel μ) : LSt X d 4 [.inr 0, .inl x] 112 [.inr 22, .inl x] μ := by
  have h' := h
  obtain ⟨T, st, res, mt, h1, h2, h3, h4, hr0, h6, h7⟩ := h
  have h24 := h1.1
  refine ⟨_, c_function (L := T.length) (by omega) h4.1 (by rw [h2.1, nI_t (by omega)]), fun r μ1 hr => ?_⟩
  rcases hr with ⟨n1, rfl, rfl⟩ | ⟨n1, n, e, s, rfl, rfl, rfl⟩
  · refine ⟨_, m_function (L := T.length) (by omega) h4.2.1 (by rw [h3.1, nI_t (by omega)]), fun r2 μ2 hr => ?_⟩
    rcases hr with ⟨_, rfl, rfl⟩ | ⟨q1, n, e, s, q2, _⟩
    · exact ⟨rfl, h'⟩
    · exact absurd ⟨by rw [q2]; simp, q1.1, q1.2⟩ n1
  · refine ⟨_, m_function (L := T.length) (by omega) (RS_fr h4.2.1 (by rw [zm_up_row (by decide), zm_up_row (by decide), cs_take_r (by omega)]) (by rw [zm_up_row (by decide), zm_up_row (by decide), cs_take_r (by omega)]) (by rw [zm_up_row (by decide), zm_up_row (by decide), cs_take_r (by omega)])) (by rw [zm_up_row (by decide), zm_up_row (by decide), cs_take_r (by omega), h3.1, nI_t (by omega)]), fun r2 μ2 hr => ?_⟩
    rcases hr with ⟨q, _⟩ | ⟨q1, n', e', s', q, rfl, rfl⟩
    · exact absurd ⟨by simp, n1.1, n1.2⟩ q
    · obtain ⟨rfl, q2⟩ := List.append_inj' q rfl
      simp only [List.cons.injEq, Prod.mk.injEq, and_true] at q2
      obtain ⟨rfl, rfl⟩ := q2
      exact ⟨rfl, rel_take (w := 12) (f := 6) (g := 4) (g' := 11) (Or.inl ⟨rfl, rfl, rfl, rfl⟩) n1 h1 h2 h3 h4 hr0 h6 h7⟩
theorem ls_main (hd : 9 ≤ d) (h : Rel μ) : LSt X d 5 [.inr 0, .inl x] 113 [.inr 22, .inl x] μ := by
  have h' := h
  obtain ⟨T, st, res, mt, h1, h2, h3, h4, hr0, h6, h7⟩ := h
  have h24 := h1.1
  refine ⟨_, c_main (L := T.length) (by omega) h4.1 (by rw [h2.1, nI_t (by omega)]), fun r μ1 hr => ?_⟩
  rcases hr with ⟨n1, rfl, rfl⟩ | ⟨n1, n, e, s, rfl, rfl, rfl⟩
  · refine ⟨_, m_main (L := T.length) (by omega) h4.2.1 (by rw [h3.1, nI_t (by omega)]), fun r2 μ2 hr => ?_⟩
    rcases hr with ⟨_, rfl, rfl⟩ | ⟨q1, n, e, s, q2, _⟩
    · exact ⟨rfl, h'⟩
    · exact absurd ⟨by rw [q2]; simp, q1.1, q1.2⟩ n1
  · refine ⟨_, m_main (L := T.length) (by omega) (RS_fr h4.2.1 (by rw [zm_up_row (by decide), zm_up_row (by decide), cs_take_r (by omega)]) (by rw [zm_up_row (by decide), zm_up_row (by decide), cs_take_r (by omega)]) (by rw [zm_up_row (by decide), zm_up_row (by decide), cs_take_r (by omega)])) (by rw [zm_up_row (by decide), zm_up_row (by decide), cs_take_r (by omega), h3.1, nI_t (by omega)]), fun r2 μ2 hr => ?_⟩
    rcases hr with ⟨q, _⟩ | ⟨q1, n', e', s', q, rfl, rfl⟩
    · exact absurd ⟨by simp, n1.1, n1.2⟩ q
    · obtain ⟨rfl, q2⟩ := List.append_inj' q rfl
      simp only [List.cons.injEq, Prod.mk.injEq, and_true] at q2
      obtain ⟨rfl, rfl⟩ := q2
      exact ⟨rfl, rel_take (w := 13) (f := 7) (g := 5) (g' := 12) (Or.inr ⟨rfl, rfl, rfl, rfl⟩) n1 h1 h2 h3 h4 hr0 h6 h7⟩
theorem ls_check (hd : 110 ≤ d) (h : Rel μ) : LSt X d 6 [.inr 0] 142 [.inr 22] μ := by
  obtain ⟨T, st, res, mt, h1, h2, h3, h4, ⟨r1, r2, r3, r4, r5, r6⟩, h6, h7⟩ := h
  have hLT := Tok_LT h1 r1
  have hcn := Tok_cnm h1
  obtain ⟨o, a1, a2⟩ := ck_at (X := X) (d := d) (dr := d) (by omega) (by omega) hLT r2 hcn h3 r4 r6 h4.2.2.2.1 h4.2.2.2.2
  refine ⟨_, a1 μ SA_rf ⟨h2, h6⟩ r3 r5, fun r μ1 hr => ?_⟩
  obtain ⟨rfl, ⟨e1, e2⟩, hk⟩ := hr
  have c1 : ∀ c, c ≠ 1 ∧ c ≠ 3 ∧ c ≠ 6 ∧ c ≠ 7 ∧ c ≠ 8 ∧ c ≠ 13 ∧ c ≠ 14 → μ1 c = μ c := fun c hc => hk c hc.1 hc.2.1 hc.2.2.1 hc.2.2.2.1 hc.2.2.2.2.1 hc.2.2.2.2.2.1 hc.2.2.2.2.2.2
  have h3' : t_R μ1 T := tR_fr h3 (fun c a b i _ => by rw [c1 c (by omega)]) (by rw [c1 22 (by omega)])
  have h4' : RT T.length μ1 st := RT_frame (Nat.le_refl _) h4 (fun i _ _ => by rw [c1 2 (by omega)]) (c1 9 (by omega)) (c1 10 (by omega)) (c1 11 (by omega)) (c1 12 (by omega)) (c1 27 (by omega)) (c1 28 (by omega)) (c1 29 (by omega)) (c1 30 (by omega)) (by rw [c1 22 (by omega)])
  have r4' : μ1 22 11 = nI res := by rw [c1 22 (by omega)]; exact r4
  have r6' : μ1 22 12 = nI mt := by rw [c1 22 (by omega)]; exact r6
  obtain ⟨o2, b1, b2⟩ := ck_at (X := X) (d := d) (dr := d) (by omega) (by omega) hLT r2 hcn h3' r4' r6' h4'.2.2.2.1 h4'.2.2.2.2
  have hs : SA μ1 μ := ⟨(c1 9 (by omega)).symm, (c1 10 (by omega)).symm, (c1 11 (by omega)).symm, (c1 27 (by omega)).symm, (c1 28 (by omega)).symm, (c1 2 (by omega)).symm⟩
  obtain ⟨rr, μr, ⟨d1, _⟩, ⟨d2, _⟩⟩ := zI_det (a1 μ SA_rf ⟨h2, h6⟩ r3 r5) (b1 μ hs ⟨h2, h6⟩ r3 r5)
  refine ⟨_, b2, fun r2' μ2 hr => ?_⟩
  obtain ⟨rfl, hz⟩ := hr
  have c2 : ∀ c, c < 22 ∨ (27 ≤ c ∧ c ≤ 32) ∨ 48 < c → μ2 c = μ1 c := hz.1
  have s2 : ∀ i, i ≠ 1 → i ≠ 17 → i ≠ 19 → i ≠ 27 → i ≠ 28 → i ≠ 29 → i ≠ 34 → μ2 22 i = μ 22 i := fun i q1 q2 q3 q4 q5 q6 q7 => by rw [hz.2.2 i q1 q2 q3 q4 q5 q6 q7, c1 22 (by omega)]
  refine ⟨d1.symm.trans d2, T, st, res, mt, h1, tC_fr e1 (fun c hc => c2 c (by omega)), tR_fr h3' (fun c a b i hi => hz.2.1 i hi c a b) (hz.2.2 0 (by decide) (by decide) (by decide) (by decide) (by decide) (by decide) (by decide)), RT_frame (Nat.le_refl _) h4' (fun i _ _ => by rw [c2 2 (by omega)]) (c2 9 (by omega)) (c2 10 (by omega)) (c2 11 (by omega)) (c2 12 (by omega)) (c2 27 (by omega)) (c2 28 (by omega)) (c2 29 (by omega)) (c2 30 (by omega)) (hz.2.2 10 (by decide) (by decide) (by decide) (by decide) (by decide) (by decide) (by decide)), ⟨r1, r2, by rw [c2 0 (by omega), c1 0 (by omega)]; exact r3, by rw [s2 11 (by decide) (by decide) (by decide) (by decide) (by decide) (by decide) (by decide)]; exact r4, by rw [c2 0 (by omega), c1 0 (by omega)]; exact r5, by rw [s2 12 (by decide) (by decide) (by decide) (by decide) (by decide) (by decide) (by decide)]; exact r6⟩, fun i hi => by rw [c2 13 (by omega)]; exact e2 i hi, EvS_fr h7 (fun c hc => by rw [c2 c (by omega), c1 c (by omega)]) (fun i hi => s2 i (by omega) (by omega) (by omega) (by omega) (by omega) (by omega) (by omega))⟩
theorem ls_evaluate (hd : 160 ≤ d) (h : Rel μ) : LSt X d 7 [.inr 0] 155 [.inr 22] μ := by
  obtain ⟨T, st, res, mt, h1, h2, h3, h4, ⟨r1, r2, r3, r4, r5, r6⟩, h6, h7⟩ := h
  obtain ⟨o, vs, s, p1, a1, a2⟩ := ev_main (X := X) (d := d) (dr := d) h4.2.2.2.1 h4.2.2.2.2 (by omega) (by omega)
  refine ⟨_, a1 μ SA_rf, fun r μ1 hr => ?_⟩
  obtain ⟨rfl, hca, e46, hev⟩ := hr
  have c1 : ∀ c, c ≠ 4 → c ≠ 5 → ¬ (15 ≤ c ∧ c ≤ 21) → μ1 c = μ c := hca
  have hs : SA μ μ1 := ⟨c1 9 (by omega) (by omega) (by omega), c1 10 (by omega) (by omega) (by omega), c1 11 (by omega) (by omega) (by omega), c1 27 (by omega) (by omega) (by omega), c1 28 (by omega) (by omega) (by omega), c1 2 (by omega) (by omega) (by omega)⟩
  refine ⟨_, a2 μ1 hs, fun r2' μ2 hr => ?_⟩
  obtain ⟨rfl, hra, f43, f41, fv⟩ := hr
  have c2 : ∀ c, c ≠ 22 → ¬ (49 ≤ c ∧ c ≤ 58) → μ2 c = μ1 c := hra.1
  have c3 : ∀ c, c ≠ 4 → c ≠ 5 → ¬ (15 ≤ c ∧ c ≤ 22) → ¬ (49 ≤ c ∧ c ≤ 58) → μ2 c = μ c := fun c q1 q2 q3 q4 => by rw [c2 c (by omega) q4, c1 c q1 q2 (by omega)]
  have s3 : ∀ i, i < 13 → μ2 22 i = μ 22 i := fun i hi => by rw [hra.2 i (by omega) (by omega) (by omega) (by omega) (by omega) (by omega) (by omega) (by omega) (by omega) (by omega) (by omega), c1 22 (by omega) (by omega) (by omega)]
  refine ⟨rfl, T, st, res, mt, h1, tC_fr h2 (fun c hc => c3 c (by omega) (by omega) (by omega) (by omega)), tR_fr h3 (fun c a b i _ => by rw [c3 c (by omega) (by omega) (by omega) (by omega)]) (s3 0 (by omega)), RT_frame (Nat.le_refl _) h4 (fun i _ _ => by rw [c3 2 (by omega) (by omega) (by omega) (by omega)]) (c3 9 (by omega) (by omega) (by omega) (by omega)) (c3 10 (by omega) (by omega) (by omega) (by omega)) (c3 11 (by omega) (by omega) (by omega) (by omega)) (c3 12 (by omega) (by omega) (by omega) (by omega)) (c3 27 (by omega) (by omega) (by omega) (by omega)) (c3 28 (by omega) (by omega) (by omega) (by omega)) (c3 29 (by omega) (by omega) (by omega) (by omega)) (c3 30 (by omega) (by omega) (by omega) (by omega)) (s3 10 (by omega)), ⟨r1, r2, by rw [c3 0 (by omega) (by omega) (by omega) (by omega)]; exact r3, by rw [s3 11 (by omega)]; exact r4, by rw [c3 0 (by omega) (by omega) (by omega) (by omega)]; exact r5, by rw [s3 12 (by omega)]; exact r6⟩, fun i hi => by rw [c3 13 (by omega) (by omega) (by omega) (by omega)]; exact h6 i hi, ev_EvS p1 f43 f41 fv (by rw [c2 4 (by omega) (by omega)]; exact e46) ?_⟩
  rcases hev with ⟨q1, q2⟩ | ⟨v, q1, q2, ⟨v1, v2, v3⟩, w1, w2⟩
  · exact Or.inl ⟨q1, by rw [c2 5 (by omega) (by omega)]; exact q2⟩
  · refine Or.inr ⟨v, q1, q2, ⟨v1, by rw [c2 5 (by omega) (by omega)]; exact v2, ?_⟩, by rw [c2 5 (by omega) (by omega)]; exact w1, ?_⟩
    · rw [c2 16 (by omega) (by omega), c2 17 (by omega) (by omega), c2 18 (by omega) (by omega), c2 19 (by omega) (by omega)]; exact v3
    · rw [c2 20 (by omega) (by omega)]; exact w2
theorem ls_steps (hd : 4 ≤ d) (h : Rel μ) : LSt X d 8 [.inr 0] 156 [.inr 22] μ := by
  have h' := h
  obtain ⟨T, st, res, mt, h1, h2, h3, h4, hr0, h6, h7⟩ := h
  refine ⟨fun r μ' => μ' = μ ∧ r = μ 4 6, zI_at [0] (by omega) rfl (k8_0 ⟨fun r μ' => μ' = μ ∧ r = μ 4 6, zI_at [0] (by omega) rfl (k65_0 ⟨rfl, rfl⟩), fun r μ1 hr => k8_7 hr⟩), fun r μ1 hr => ?_⟩
  obtain ⟨rfl, rfl⟩ := hr
  refine ⟨fun r μ' => μ' = μ1 ∧ r = μ1 22 43, zI_at [0] (by omega) rfl (k156_0 ⟨rfl, rfl⟩), fun r2 μ2 hr => ?_⟩
  obtain ⟨rfl, rfl⟩ := hr
  exact ⟨h7.1, h'⟩
theorem rel_58 (h : Rel μ) (hc : ∀ c, c ≠ 58 → μ' c = μ c) : Rel μ' := by
  obtain ⟨T, st, res, mt, h1, h2, h3, h4, ⟨r1, r2, r3, r4, r5, r6⟩, h6, h7⟩ := h
  exact ⟨T, st, res, mt, h1, tC_fr h2 (fun c _ => hc c (by omega)), tR_fr h3 (fun c a b i _ => by rw [hc c (by omega)]) (by rw [hc 22 (by omega)]), RT_frame (Nat.le_refl _) h4 (fun i _ _ => by rw [hc 2 (by omega)]) (hc 9 (by omega)) (hc 10 (by omega)) (hc 11 (by omega)) (hc 12 (by omega)) (hc 27 (by omega)) (hc 28 (by omega)) (hc 29 (by omega)) (hc 30 (by omega)) (by rw [hc 22 (by omega)]), ⟨r1, r2, by rw [hc 0 (by omega)]; exact r3, by rw [hc 22 (by omega)]; exact r4, by rw [hc 0 (by omega)]; exact r5, by rw [hc 22 (by omega)]; exact r6⟩, fun i hi => by rw [hc 13 (by omega)]; exact h6 i hi, EvS_fr h7 (fun c hc' => hc c (by omega)) (fun i _ => by rw [hc 22 (by omega)])⟩
theorem ls_value (hd : 10 ≤ d) (h : Rel μ) : LSt X d 9 [.inr 0, .inl x] 158 [.inr 22, .inl x] μ := by
  have h' := h
  obtain ⟨T, st, res, mt, h1, h2, h3, h4, hr0, h6, h7⟩ := h
  obtain ⟨r0, a1, a2⟩ := ev_value (X := X) (d := d) (x := x) (by omega) h7
  refine ⟨_, a1, fun r μ1 hr => ?_⟩
  obtain ⟨rfl, rfl⟩ := hr
  exact ⟨_, a2, fun r2 μ2 hr => ⟨hr.1.symm, rel_58 h' hr.2⟩⟩
theorem ls_number (hd : 10 ≤ d) (h : Rel μ) : LSt X d 10 [.inr 0, .inl x] 159 [.inr 22, .inl x] μ := by
  have h' := h
  obtain ⟨T, st, res, mt, h1, h2, h3, h4, hr0, h6, h7⟩ := h
  obtain ⟨r0, a1, a2⟩ := ev_number (X := X) (d := d) (x := x) (by omega) h7
  refine ⟨_, a1, fun r μ1 hr => ?_⟩
  obtain ⟨rfl, rfl⟩ := hr
  exact ⟨_, a2, fun r2 μ2 hr => ⟨hr.1.symm, rel_58 h' hr.2⟩⟩
theorem ofN4 (hn : n ≤ 2048) : (Int32.ofNat n - (4 : Int32)).toInt = (n : Int) - 4 := by
  have e : Int32.ofNat n = nI n := rfl
  rw [e]
  by_cases h : 4 ≤ n
  · rw [show (4 : Int32) = nI 4 from rfl, nI_sub h, nI_t (by omega)]
    omega
  · rcases (show n = 0 ∨ n = 1 ∨ n = 2 ∨ n = 3 by omega) with rfl | rfl | rfl | rfl <;> decide
theorem law_loop (hd : 170 ≤ d) (hX : X.1 ≤ 2048) : ∀ (r j : Nat) (μ : zm_u), X.1 ≤ j + r → j ≤ 3000 → Rel μ → zV X d 160 18 [(0, .inr 101), (1, .inr 0), (2, .inr 22), (3, .inl (nI j))] [] μ (zpi (fun r _ => r = 1)) := by
  intro r
  induction r using Nat.strongRecOn with
  | ind r ih =>
    intro j μ hj hj3 hR
    have hcond : (Int32.ofNat X.1 - (4 : Int32) < nI j) ↔ X.1 < j + 4 := by
      rw [Int32.lt_iff_toInt_lt, ofN4 hX, nI_t (by omega)]
      omega
    by_cases hend : X.1 < j + 4
    · have hlt := hcond.mpr hend
      refine k160_18 (fun _ => rfl) ?_ ?_ ?_ ?_ ?_ ?_ ?_ ?_ ?_ ?_ ?_ ?_ ?_ ?_ ?_ ?_ ?_ ?_ ?_ ?_ ?_ ?_ <;> (intro z; exact absurd hlt z)
    · have hlt : ¬ (Int32.ofNat X.1 - (4 : Int32) < nI j) := fun z => hend (hcond.mp z)
      have e1 : nI j + 1 = nI (j + 1) := by rw [← nI_one, nI_add]
      have e2 : nI j + 2 = nI (j + 2) := by rw [show (2 : Int32) = nI 2 from rfl, nI_add]
      have e3 : nI j + 3 = nI (j + 3) := by rw [show (3 : Int32) = nI 3 from rfl, nI_add]
      have e4 : nI j + 4 = nI (j + 4) := by rw [show (4 : Int32) = nI 4 from rfl, nI_add]
      have b0 : 0 ≤ (nI j).toInt ∧ (nI j).toInt < (X.1 : Int) := by rw [nI_t (by omega)]; omega
      have b1 : 0 ≤ (nI j + 1).toInt ∧ (nI j + 1).toInt < (X.1 : Int) := by rw [e1, nI_t (by omega)]; omega
      have b2 : 0 ≤ (nI j + 2).toInt ∧ (nI j + 2).toInt < (X.1 : Int) := by rw [e2, nI_t (by omega)]; omega
      have b3 : 0 ≤ (nI j + 3).toInt ∧ (nI j + 3).toInt < (X.1 : Int) := by rw [e3, nI_t (by omega)]; omega
      have next : ∀ μ2, Rel μ2 → zV X d 160 325 [(0, .inr 101), (1, .inr 0), (2, .inr 22), (3, .inl (nI j))] [] μ2 (zpi (fun r _ => r = 1)) := fun μ2 h2 => by
        refine k160_325 ?_
        rw [e4]
        exact ih (r - 1) (by omega) (j + 4) μ2 (by omega) (by omega) h2
      refine k160_18 (fun z => absurd z hlt) (fun _ => b0) (fun _ _ => b1) (fun _ _ => b2) (fun _ _ => b3) (fun _ _ => ?_) (by intros; exact b1) (by intros; exact b2) ?_ ?_ ?_ (by intros; exact b1) ?_ (by intros; exact b1) ?_ ?_ ?_ ?_ (by intros; exact b1) ?_ (by intros; exact b1) ?_ (by intros; exact next μ hR)
      · intros
        obtain ⟨G1, g1, g2⟩ := ls_type (X := X) (d := d) (by omega) hR
        refine ⟨G1, g1, fun r μ1 hr => ?_⟩
        obtain ⟨G2, q1, q2⟩ := g2 r μ1 hr
        exact k160_111 b1 b2 b3 ⟨G2, q1, fun r2 μ2 hr2 => k160_130 (fun _ => next μ2 (q2 r2 μ2 hr2).2) (fun z => absurd (q2 r2 μ2 hr2).1 z)⟩
      · intros
        obtain ⟨G1, g1, g2⟩ := ls_make (X := X) (d := d) (by omega) hR
        refine ⟨G1, g1, fun r μ1 hr => ?_⟩
        obtain ⟨G2, q1, q2⟩ := g2 r μ1 hr
        exact k160_149 b1 b2 ⟨G2, q1, fun r2 μ2 hr2 => k160_163 (fun _ => next μ2 (q2 r2 μ2 hr2).2) (fun z => absurd (q2 r2 μ2 hr2).1 z)⟩
      · intros
        obtain ⟨G1, g1, g2⟩ := ls_height (X := X) (d := d) (by omega) hR
        refine ⟨G1, g1, fun r μ1 hr => ?_⟩
        obtain ⟨G2, q1, q2⟩ := g2 r μ1 hr
        exact k160_172 ⟨G2, q1, fun r2 μ2 hr2 => k160_176 (fun _ => next μ2 (q2 r2 μ2 hr2).2) (fun z => absurd (q2 r2 μ2 hr2).1 z)⟩
      · intros
        obtain ⟨G1, g1, g2⟩ := ls_drop (X := X) (d := d) (by omega) hR
        refine ⟨G1, g1, fun r μ1 hr => ?_⟩
        obtain ⟨G2, q1, q2⟩ := g2 r μ1 hr
        exact k160_185 ⟨G2, q1, fun r2 μ2 hr2 => k160_189 (fun _ => next μ2 (q2 r2 μ2 hr2).2) (fun z => absurd (q2 r2 μ2 hr2).1 z)⟩
      · intros
        obtain ⟨G1, g1, g2⟩ := ls_function (X := X) (d := d) (by omega) hR
        refine ⟨G1, g1, fun r μ1 hr => ?_⟩
        obtain ⟨G2, q1, q2⟩ := g2 r μ1 hr
        exact k160_203 b1 ⟨G2, q1, fun r2 μ2 hr2 => k160_212 (fun _ => next μ2 (q2 r2 μ2 hr2).2) (fun z => absurd (q2 r2 μ2 hr2).1 z)⟩
      · intros
        obtain ⟨G1, g1, g2⟩ := ls_main (X := X) (d := d) (by omega) hR
        refine ⟨G1, g1, fun r μ1 hr => ?_⟩
        obtain ⟨G2, q1, q2⟩ := g2 r μ1 hr
        exact k160_226 b1 ⟨G2, q1, fun r2 μ2 hr2 => k160_235 (fun _ => next μ2 (q2 r2 μ2 hr2).2) (fun z => absurd (q2 r2 μ2 hr2).1 z)⟩
      · intros
        obtain ⟨G1, g1, g2⟩ := ls_check (X := X) (d := d) (by omega) hR
        refine ⟨G1, g1, fun r μ1 hr => ?_⟩
        obtain ⟨G2, q1, q2⟩ := g2 r μ1 hr
        exact k160_244 ⟨G2, q1, fun r2 μ2 hr2 => k160_248 (fun _ => next μ2 (q2 r2 μ2 hr2).2) (fun z => absurd (q2 r2 μ2 hr2).1 z)⟩
      · intros
        obtain ⟨G1, g1, g2⟩ := ls_evaluate (X := X) (d := d) (by omega) hR
        refine ⟨G1, g1, fun r μ1 hr => ?_⟩
        obtain ⟨G2, q1, q2⟩ := g2 r μ1 hr
        exact k160_257 ⟨G2, q1, fun r2 μ2 hr2 => k160_261 (fun _ => next μ2 (q2 r2 μ2 hr2).2) (fun z => absurd (q2 r2 μ2 hr2).1 z)⟩
      · intros
        obtain ⟨G1, g1, g2⟩ := ls_steps (X := X) (d := d) (by omega) hR
        refine ⟨G1, g1, fun r μ1 hr => ?_⟩
        obtain ⟨G2, q1, q2⟩ := g2 r μ1 hr
        exact k160_270 ⟨G2, q1, fun r2 μ2 hr2 => k160_274 (fun _ => next μ2 (q2 r2 μ2 hr2).2) (fun z => absurd (q2 r2 μ2 hr2).1 z)⟩
      · intros
        obtain ⟨G1, g1, g2⟩ := ls_value (X := X) (d := d) (by omega) hR
        refine ⟨G1, g1, fun r μ1 hr => ?_⟩
        obtain ⟨G2, q1, q2⟩ := g2 r μ1 hr
        exact k160_288 b1 ⟨G2, q1, fun r2 μ2 hr2 => k160_297 (fun _ => next μ2 (q2 r2 μ2 hr2).2) (fun z => absurd (q2 r2 μ2 hr2).1 z)⟩
      · intros
        obtain ⟨G1, g1, g2⟩ := ls_number (X := X) (d := d) (by omega) hR
        refine ⟨G1, g1, fun r μ1 hr => ?_⟩
        obtain ⟨G2, q1, q2⟩ := g2 r μ1 hr
        exact k160_311 b1 ⟨G2, q1, fun r2 μ2 hr2 => k160_320 (fun _ => next μ2 (q2 r2 μ2 hr2).2) (fun z => absurd (q2 r2 μ2 hr2).1 z)⟩
end LW

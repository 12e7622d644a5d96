def sb (l : Nat) (x : Tr) : Nat → Tr := fun i => if i = l then x else tA i
def updν (ν : Nat → Tr) (x : Nat) (t : Tr) : Nat → Tr := fun i => if i = x then t else ν i
def addN (N : Nat → Prop) (x : Nat) : Nat → Prop := fun i => N i ∨ i = x
section EN5
variable {L n i j k a b e h hh p u q res m l x c v w : Nat} {T T' T1 T0 Tb Tc Tc1 Tr' Tr1 : tT} {D D' : Nat → Option Nat} {S S' : Nat → Tr} {V W : List Nat} {N N' : Nat → Prop} {ν ν' σ : Nat → Tr} {Q Q' : List (Nat × Nat)} {t t0 A B X : Tr}
theorem ta_ts {M M' : Nat → Prop} (hσ : ∀ n, M n → ta M' (σ n)) : ∀ t, ta M t → ta M' (ts σ t) := by
  intro t
  induction t with
  | nil => exact fun z => z
  | line => exact fun z => z
  | align b => exact fun z => z
  | text s => exact fun z => z
  | nest i t ih => exact ih
  | append a b iha ihb => exact fun z => ⟨iha z.1, ihb z.2⟩
  | group f b => exact fun z => z
  | tag n f => exact hσ n
theorem ta_tJ (hw : tw T) {M : Nat → Prop} (hN : ∀ i, N i → ta M (ν i)) : ∀ i, i < T.length → ta N (tJ T tA i) → ta M (tJ T ν i) := by
  intro i
  induction i using Nat.strongRecOn with
  | ind i ih =>
    intro hi
    rcases kd_cases hw hi with ⟨k, e⟩ | ⟨k, e⟩ | ⟨k, a1, a2, e⟩ | ⟨k, a1, e⟩ | ⟨k, e⟩
    · rw [e, e]; exact fun z => z
    · rw [e, e]; exact fun z => z
    · rw [e, e]; exact fun z => ⟨ih _ a1 (by omega) z.1, ih _ a2 (by omega) z.2⟩
    · rw [e, e]; exact fun z => ih _ a1 (by omega) z
    · rw [e, e]; exact fun z => hN i z

theorem MO_eq (h : MO T N ν Q) (la : Lv T N a) (lb : Lv T N b) (e : tJ T ν a = tJ T ν b) : MO T N ν (Q ++ [(a, b)]) := by
  obtain ⟨h1, h2, h3⟩ := h
  have hm : ∀ z ∈ Q, z ∈ Q ++ [(a, b)] := fun z hz => List.mem_append.mpr (Or.inl hz)
  have hx : Rx T T ∨ True := Or.inr trivial
  have mono : ∀ {i j}, Der T Q i j → Der T (Q ++ [(a, b)]) i j := fun hD R hG => hD R ⟨hG.1, fun a' b' hz => hG.2.1 a' b' (hm _ hz), hG.2.2⟩
  refine ⟨fun a' b' hz => ?_, fun i j l ni nj hi hj ki kj ei ej => mono (h2 i j l ni nj hi hj ki kj ei ej), fun i ni hi ki hl => ?_⟩
  · rcases List.mem_append.mp hz with hz | hz
    · exact h1 a' b' hz
    · simp only [List.mem_singleton, Prod.mk.injEq] at hz
      rw [hz.1, hz.2]
      exact ⟨la, lb, e⟩
  · obtain ⟨p, hp, kp, hD⟩ := h3 i ni hi ki hl
    exact ⟨p, hp, kp, mono hD⟩

theorem MO_new (hw : tw T) (hx : Rx T T') (h : MO T N ν Q) (hN : ∀ i, N i → i < T.length) (hT : T' = T ++ [(4, k, 0)]) (hf : ∀ i, N i → ν i ≠ tA l) : MO T' (addN N T.length) (updν ν T.length (tA l)) Q := by
  subst hT
  have hlen : (T ++ [(4, k, 0)]).length = T.length + 1 := by simp
  have eν : ∀ i, i < T.length → tJ (T ++ [(4, k, 0)]) (updν ν T.length (tA l)) i = tJ T ν i := tJ_ext hw hx.2.2 hx.1 (fun i a b hi => by have := tw_lt hi; unfold updν; rw [if_neg (by omega)])
  have eL : ∀ i, Lv T N i → Lv (T ++ [(4, k, 0)]) (addN N T.length) i := fun i hi => ⟨by have := hi.1; omega, by rw [Rx_tJ hw hx hi.1]; exact ta_imp (fun n hn => Or.inl hn) _ hi.2⟩
  have eo : ∀ i, N i → updν ν T.length (tA l) i = ν i := fun i hi => by have := hN i hi; unfold updν; rw [if_neg (by omega)]
  have en : updν ν T.length (tA l) T.length = tA l := by unfold updν; rw [if_pos rfl]
  obtain ⟨h1, h2, h3⟩ := h
  refine ⟨fun a b hm => ?_, fun i j l' ni nj hi hj ki kj ei ej => ?_, fun i ni hi ki hl => ?_⟩
  · obtain ⟨x1, x2, x3⟩ := h1 a b hm
    exact ⟨eL a x1, eL b x2, by rw [eν a x1.1, eν b x2.1]; exact x3⟩
  · rcases ni with ni | rfl
    · rcases nj with nj | rfl
      · have hi' := hN i ni
        have hj' := hN j nj
        rw [(Rx_kd hx hi').1] at ki
        rw [(Rx_kd hx hj').1] at kj
        rw [eo i ni] at ei
        rw [eo j nj] at ej
        exact Der_Rx hx (fun _ z => z) (h2 i j l' ni nj hi' hj' ki kj ei ej)
      · rw [eo i ni] at ei
        rw [en] at ej
        exact absurd (ei.trans ej.symm) (hf i ni)
    · rcases nj with nj | rfl
      · rw [eo j nj] at ej
        rw [en] at ei
        exact absurd (ej.trans ei.symm) (hf j nj)
      · exact Der_rf
  · rcases ni with ni | rfl
    · have hi' := hN i ni
      rw [(Rx_kd hx hi').1] at ki
      rw [eo i ni] at hl
      obtain ⟨p, hp, kp, hD⟩ := h3 i ni hi' ki hl
      exact ⟨p, by omega, by rw [(Rx_kd hx hp).1]; exact kp, Der_Rx hx (fun _ z => z) hD⟩
    · exact absurd en (hl l)

theorem MO_sub (hw : tw T) (h : MO T N ν Q) (le : Lv T N e) (ee : tJ T ν e = tA l) (lk : Lv T N k) (kk : kd T k ≠ 4) (hX : thd X ≠ 4) (ek : tJ T (fun j => ts (sb l X) (ν j)) k = X) : MO T N (fun j => ts (sb l X) (ν j)) (Q ++ [(e, k)]) := by
  have hM := h
  obtain ⟨h1, h2, h3⟩ := h
  have mono : ∀ {i j}, Der T Q i j → Der T (Q ++ [(e, k)]) i j := fun hD R hG => hD R ⟨hG.1, fun a' b' hz => hG.2.1 a' b' (List.mem_append.mpr (Or.inl hz)), hG.2.2⟩
  have new : Der T (Q ++ [(e, k)]) e k := fun R hG => hG.2.1 e k (by simp)
  have eJ : ∀ i, i < T.length → tJ T (fun j => ts (sb l X) (ν j)) i = ts (sb l X) (tJ T ν i) := fun i hi => (tJ_ts hw i hi).symm
  have sl : sb l X l = X := by unfold sb; rw [if_pos rfl]
  have so : ∀ i, i ≠ l → sb l X i = tA i := fun i hi => by unfold sb; rw [if_neg hi]
  have ke : kd T e = 4 := by
    by_cases z : kd T e = 4
    · exact z
    · exact absurd ee (tA_thd hw le.1 z)
  have νe : ν e = tA l := by
    have hq := at_kd le.1
    rw [ke] at hq
    rw [tJ_4 hq] at ee
    exact ee
  have back : ∀ i l', N i → i < T.length → kd T i = 4 → ts (sb l X) (ν i) = tA l' → ν i = tA l' := by
    intro i l' ni hi ki e1
    by_cases z : ∃ l2, ν i = tA l2
    · obtain ⟨l2, e2⟩ := z
      rw [e2, ts_A] at e1
      by_cases zl : l2 = l
      · rw [zl, sl] at e1
        rw [e1] at hX
        exact absurd rfl hX
      · rw [so l2 zl] at e1
        rw [e2, e1]
    · obtain ⟨p, hp, kp, hD⟩ := h3 i ni hi ki (fun l2 e2 => z ⟨l2, e2⟩)
      have e2 := Der_M hw hM hD
      have hq := at_kd hi
      rw [ki] at hq
      rw [tJ_4 hq] at e2
      have h4 : thd (ν i) ≠ 4 := by rw [e2, kd_thd hw hp kp]; exact kp
      have := hd_ts (S := sb l X) h4
      rw [e1] at this
      exact absurd this.symm h4
  refine ⟨fun a b hm => ?_, fun i j l' ni nj hi hj ki kj ei ej => mono (h2 i j l' ni nj hi hj ki kj (back i l' ni hi ki ei) (back j l' nj hj kj ej)), fun i ni hi ki hl => ?_⟩
  · rcases List.mem_append.mp hm with hm | hm
    · obtain ⟨x1, x2, x3⟩ := h1 a b hm
      exact ⟨x1, x2, by rw [eJ a x1.1, eJ b x2.1, x3]⟩
    · simp only [List.mem_singleton, Prod.mk.injEq] at hm
      rw [hm.1, hm.2]
      refine ⟨le, lk, ?_⟩
      rw [ek, eJ e le.1, ee, ts_A, sl]
  · by_cases z : ∃ l2, ν i = tA l2
    · obtain ⟨l2, e2⟩ := z
      by_cases zl : l2 = l
      · subst zl
        exact ⟨k, lk.1, kk, Der_tr (mono (h2 i e l2 ni (Lv_4 hw le ke) hi le.1 ki ke e2 νe)) new⟩
      · exfalso
        refine hl l2 ?_
        show ts (sb l X) (ν i) = tA l2
        rw [e2, ts_A, so l2 zl]
    · obtain ⟨p, hp, kp, hD⟩ := h3 i ni hi ki (fun l2 e2 => z ⟨l2, e2⟩)
      exact ⟨p, hp, kp, mono hD⟩

theorem clash_of (hw : tw T) (h : MO T N ν Q) (hx : Rx T T') (le : Lv T N e) (ha : ∀ l, tJ T ν e ≠ tA l) (hk : k < T'.length) (kk : kd T' k ≠ 4) (hne : kd T' k ≠ thd (tJ T ν e)) : Clash T' (Q ++ [(e, k)]) := by
  obtain ⟨p, lp, kp, hD, _, ep⟩ := M_known hw h le ha
  intro R hG
  have hl := hx.2.1
  have lp1 := lp.1
  have r1 : R e p := Der_Rx hx (fun z hz => List.mem_append.mpr (Or.inl hz)) hD R hG
  have r2 : R e k := hG.2.1 e k (by simp)
  refine ⟨p, k, by omega, hk, hG.1.2.2 _ _ _ (hG.1.2.1 _ _ r1) r2, by rw [(Rx_kd hx lp1).1]; exact kp, kk, ?_⟩
  rw [(Rx_kd hx lp1).1, ep]
  exact fun z => hne z.symm

theorem MO_duo (hw : tw T) (h : MO T N ν Q) (hN : ∀ i, N i → i < T.length) (hx : Rx T T') (le : Lv T N e) (ee : tJ T ν e = tP A B) (x1 : T'[T.length]? = some (4, a, 0)) (x2 : T'[T.length + 1]? = some (4, b, 0)) (hq : T'[q]? = some (2, T.length, T.length + 1)) (hν : ν' = updν (updν ν T.length A) (T.length + 1) B) :
    MO T' (addN (addN N T.length) (T.length + 1)) ν' (Q ++ [(e, q)]) := by
  obtain ⟨p, lp, kp, hDp, ep, kp2⟩ := M_known hw h le (fun l z => by rw [ee] at z; exact absurd (congrArg thd z) (by show (2 : Nat) ≠ 4; decide))
  have kp3 : kd T p = 2 := by rw [kp2, ee]; rfl
  have ap := at_kd lp.1
  rw [kp3] at ap
  have eP : tP (tJ T ν (k1 T p)) (tJ T ν (k2 T p)) = tP A B := by rw [← tJ_2 hw ap, ep, ee]
  obtain ⟨eA, eB⟩ := tP_inj eP
  obtain ⟨l1, l2⟩ := Lv_2 hw lp kp3
  have hl := hx.2.1
  have y1 := tw_lt x1
  have y2 := tw_lt x2
  have yq := tw_lt hq
  have lp1 := lp.1
  have nx : ν' T.length = A := by rw [hν]; unfold updν; rw [if_neg (by omega), if_pos rfl]
  have ny : ν' (T.length + 1) = B := by rw [hν]; unfold updν; rw [if_pos rfl]
  have no : ∀ i, i < T.length → ν' i = ν i := fun i hi => by rw [hν]; unfold updν; rw [if_neg (by omega), if_neg (by omega)]
  have eν : ∀ i, i < T.length → tJ T' ν' i = tJ T ν i := tJ_ext hw hx.2.2 hx.1 (fun i a b hi => no i (tw_lt hi))
  have eL : ∀ i, Lv T N i → Lv T' (addN (addN N T.length) (T.length + 1)) i := fun i hi => ⟨by have := hi.1; omega, by rw [Rx_tJ hw hx hi.1]; exact ta_imp (fun n hn => Or.inl (Or.inl hn)) _ hi.2⟩
  have mono : ∀ {i j}, Der T Q i j → Der T' (Q ++ [(e, q)]) i j := fun hD => Der_Rx hx (fun z hz => List.mem_append.mpr (Or.inl hz)) hD
  have dq : Der T' (Q ++ [(e, q)]) p q := Der_tr (Der_sy (mono hDp)) (fun R hG => hG.2.1 e q (by simp))
  obtain ⟨kq1, kq2, kq3⟩ := kd_at hq
  obtain ⟨r1, r2, r3⟩ := Rx_kd hx lp1
  have dx : Der T' (Q ++ [(e, q)]) (k1 T p) T.length := fun R hG => by
    have := ((hG.2.2 p q (by omega) yq (dq R hG)).1 (by rw [r1]; exact kp3) kq1).1
    rw [r2, kq2] at this
    exact this
  have dy : Der T' (Q ++ [(e, q)]) (k2 T p) (T.length + 1) := fun R hG => by
    have := ((hG.2.2 p q (by omega) yq (dq R hG)).1 (by rw [r1]; exact kp3) kq1).2
    rw [r3, kq3] at this
    exact this
  obtain ⟨h1, h2, h3⟩ := h

  have old : ∀ i l, addN (addN N T.length) (T.length + 1) i → i < T'.length → kd T' i = 4 → ν' i = tA l → ∃ i', N i' ∧ i' < T.length ∧ kd T i' = 4 ∧ ν i' = tA l ∧ Der T' (Q ++ [(e, q)]) i i' := by
    intro i l ni hi ki ei
    have name : ∀ c, Lv T N c → tJ T ν c = tA l → N c ∧ c < T.length ∧ kd T c = 4 ∧ ν c = tA l := by
      intro c lc ec
      have kc : kd T c = 4 := by
        by_cases z : kd T c = 4
        · exact z
        · exact absurd ec (tA_thd hw lc.1 z)
      have hq' := at_kd lc.1
      rw [kc] at hq'
      rw [tJ_4 hq'] at ec
      exact ⟨Lv_4 hw lc kc, lc.1, kc, ec⟩
    rcases ni with (ni | rfl) | rfl
    · have hi' := hN i ni
      rw [(Rx_kd hx hi').1] at ki
      rw [no i hi'] at ei
      exact ⟨i, ni, hi', ki, ei, Der_rf⟩
    · rw [nx] at ei
      obtain ⟨c1, c2, c3, c4⟩ := name _ l1 (eA.trans ei)
      exact ⟨_, c1, c2, c3, c4, Der_sy dx⟩
    · rw [ny] at ei
      obtain ⟨c1, c2, c3, c4⟩ := name _ l2 (eB.trans ei)
      exact ⟨_, c1, c2, c3, c4, Der_sy dy⟩
  refine ⟨fun a b hm => ?_, fun i j l ni nj hi hj ki kj ei ej => ?_, fun i ni hi ki hl => ?_⟩
  · rcases List.mem_append.mp hm with hm | hm
    · obtain ⟨z1, z2, z3⟩ := h1 a b hm
      exact ⟨eL a z1, eL b z2, by rw [eν a z1.1, eν b z2.1]; exact z3⟩
    · simp only [List.mem_singleton, Prod.mk.injEq] at hm
      rw [hm.1, hm.2]
      have tq : ∀ ν, tJ T' ν q = tP (ν T.length) (ν (T.length + 1)) := fun ν => by rw [tJ_2 hx.2.2 hq, tJ_4 x1, tJ_4 x2]
      refine ⟨eL e le, ⟨yq, ?_⟩, ?_⟩
      · rw [tq]
        exact ⟨Or.inl (Or.inr rfl), Or.inr rfl⟩
      · rw [tq, nx, ny, eν e le.1, ee]
  · obtain ⟨i', c1, c2, c3, c4, c5⟩ := old i l ni hi ki ei
    obtain ⟨j', d1, d2, d3, d4, d5⟩ := old j l nj hj kj ej
    exact Der_tr c5 (Der_tr (mono (h2 i' j' l c1 d1 c2 d2 c3 d3 c4 d4)) (Der_sy d5))
  · have step : ∀ c, Lv T N c → (∀ l, tJ T ν c ≠ tA l) → Der T' (Q ++ [(e, q)]) i c → ∃ p, p < T'.length ∧ kd T' p ≠ 4 ∧ Der T' (Q ++ [(e, q)]) i p := by
      intro c lc hc hD
      obtain ⟨p', lp', kp', hD', _, _⟩ := M_known hw ⟨h1, h2, h3⟩ lc hc
      exact ⟨p', by have := lp'.1; omega, by rw [(Rx_kd hx lp'.1).1]; exact kp', Der_tr hD (mono hD')⟩
    rcases ni with (ni | rfl) | rfl
    · have hi' := hN i ni
      rw [(Rx_kd hx hi').1] at ki
      rw [no i hi'] at hl
      obtain ⟨p', hp', kp', hD'⟩ := h3 i ni hi' ki hl
      exact ⟨p', by omega, by rw [(Rx_kd hx hp').1]; exact kp', mono hD'⟩
    · rw [nx] at hl
      exact step _ l1 (fun l z => hl l (eA.symm.trans z)) (Der_sy dx)
    · rw [ny] at hl
      exact step _ l2 (fun l z => hl l (eB.symm.trans z)) (Der_sy dy)
end EN5

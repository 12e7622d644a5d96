def Rz (L : Nat) (μ0 μ : zm_u) : Prop := (∀ c, c < 22 ∨ (27 ≤ c ∧ c ≤ 32) ∨ 48 < c → μ c = μ0 c) ∧ (∀ i, i < L → ∀ c, 23 ≤ c → c ≤ 26 → μ c i = μ0 c i) ∧ ∀ i, i ≠ 1 → i ≠ 17 → i ≠ 19 → i ≠ 27 → i ≠ 28 → i ≠ 29 → i ≠ 34 → μ 22 i = μ0 22 i
def EV (μ : zm_u) (W : List Nat) : Prop := μ 22 19 = nI W.length ∧ W.length ≤ 60 ∧ ∀ i w, W[i]? = some w → μ 35 i = nI w
def RQ (μ : zm_u) (T : tT) (Q : List (Nat × Nat)) (W : List Nat) (b : Nat) : Prop := RP μ T ∧ EQ μ Q ∧ EV μ W ∧ μ 22 27 = nI b ∧ μ 22 29 = 0
def FK (b : Nat) (μ μ' : zm_u) : Prop := ∀ i, i < b → ∀ c, 36 ≤ c → c ≤ 42 → μ' c i = μ c i
def Rx (T T' : tT) : Prop := (∀ i, i < T.length → T'[i]? = T[i]?) ∧ T.length ≤ T'.length ∧ tw T'
def bgn (μ : zm_u) (p : Nat) (wt : Int32) (b : Nat) : zm_u := zm_up (zm_up (zm_up (zm_up (zm_up (zm_up μ 36 b (nI p)) 37 b wt) 38 b 0) 41 b (μ 22 19)) 42 b (μ 22 17)) 22 27 (nI (b + 1))
def Fz (μ : zm_u) (b p : Nat) (wt : Int32) (s nW nQ : Nat) : Prop := μ 36 b = nI p ∧ μ 37 b = wt ∧ μ 38 b = nI s ∧ μ 41 b = nI nW ∧ μ 42 b = nI nQ

def Tf (L : Nat) (μ μ' : zm_u) : Prop := (∀ c, c ≠ 22 → ¬ (23 ≤ c ∧ c ≤ 26) → ¬ (43 ≤ c ∧ c ≤ 48) → μ' c = μ c) ∧ (∀ i, i < L → ∀ c, 23 ≤ c → c ≤ 26 → μ' c i = μ c i) ∧ ∀ i, i ≠ 1 → i ≠ 34 → μ' 22 i = μ 22 i
section RO0
variable {X : zm_T} {d b f p s L n i j k a x : Nat} {μ μ' μ0 μ1 : zm_u} {T T' T1 : tT} {Q : List (Nat × Nat)} {W : List Nat} {wt v : Int32} {q : Nat × Nat × Nat} {N : Nat → Prop} {ν : Nat → Tr}
theorem Rx_rf (h : tw T) : Rx T T := ⟨fun _ _ => rfl, Nat.le_refl _, h⟩
theorem Rx_tr (h1 : Rx T T1) (h2 : Rx T1 T') : Rx T T' := ⟨fun i hi => (h2.1 i (by have := h1.2.1; omega)).trans (h1.1 i hi), Nat.le_trans h1.2.1 h2.2.1, h2.2.2⟩
theorem Rx_tJ (hw : tw T) (h : Rx T T') (hi : i < T.length) : tJ T' ν i = tJ T ν i := tJ_ext hw h.2.2 h.1 (fun _ _ _ _ => rfl) i hi
theorem Rx_kd (h : Rx T T') (hi : i < T.length) : kd T' i = kd T i ∧ k1 T' i = k1 T i ∧ k2 T' i = k2 T i := by
  unfold kd k1 k2
  rw [h.1 i hi]
  exact ⟨rfl, rfl, rfl⟩
theorem Rx_Lv (hw : tw T) (h : Rx T T') (hl : Lv T N i) : Lv T' N i := ⟨by have := h.2.1; have := hl.1; omega, by rw [Rx_tJ hw h hl.1]; exact hl.2⟩
theorem Good_Rx {R : Nat → Nat → Prop} {Q' : List (Nat × Nat)} (h : Rx T T') (hq : ∀ z ∈ Q, z ∈ Q') (hG : Good T' Q' R) : Good T Q R := by
  refine ⟨hG.1, fun a b hm => hG.2.1 a b (hq _ hm), fun p q hp hq' hr => ?_⟩
  have hl := h.2.1
  have := hG.2.2 p q (by omega) (by omega) hr
  obtain ⟨a1, a2, a3⟩ := Rx_kd h hp
  obtain ⟨b1, b2, b3⟩ := Rx_kd h hq'
  rw [a1, a2, a3, b1, b2, b3] at this
  exact this
theorem Der_Rx {Q' : List (Nat × Nat)} (h : Rx T T') (hq : ∀ z ∈ Q, z ∈ Q') (hD : Der T Q i j) : Der T' Q' i j := fun R hG => hD R (Good_Rx h hq hG)

theorem MO_Rx (hw : tw T) (h : Rx T T') (hN : ∀ i, N i → i < T.length) (hM : MO T N ν Q) : MO T' N ν Q := by
  have hl := h.2.1
  refine ⟨fun a b hm => ?_, fun i j l ni nj _ _ ki kj ei ej => ?_, fun i ni _ ki ei => ?_⟩
  · obtain ⟨h1, h2, h3⟩ := hM.1 a b hm
    exact ⟨Rx_Lv hw h h1, Rx_Lv hw h h2, by rw [Rx_tJ hw h h1.1, Rx_tJ hw h h2.1]; exact h3⟩
  · have hi := hN i ni
    have hj := hN j nj
    rw [(Rx_kd h hi).1] at ki
    rw [(Rx_kd h hj).1] at kj
    exact Der_Rx h (fun _ z => z) (hM.2.1 i j l ni nj hi hj ki kj ei ej)
  · have hi := hN i ni
    rw [(Rx_kd h hi).1] at ki
    obtain ⟨p, hp, kp, hD⟩ := hM.2.2 i ni hi ki ei
    exact ⟨p, by omega, by rw [(Rx_kd h hp).1]; exact kp, Der_Rx h (fun _ z => z) hD⟩
theorem Tf_rf : Tf L μ μ := ⟨fun _ _ _ _ => rfl, fun _ _ _ _ _ => rfl, fun _ _ _ => rfl⟩
theorem Tf_tr (h1 : Tf L μ μ1) (h2 : Tf L μ1 μ') : Tf L μ μ' := ⟨fun c a b d => (h2.1 c a b d).trans (h1.1 c a b d), fun i a c d e => (h2.2.1 i a c d e).trans (h1.2.1 i a c d e), fun i a b => (h2.2.2 i a b).trans (h1.2.2 i a b)⟩
theorem Tf_SF (h : SF μ μ') : Tf L μ μ' := ⟨fun c a _ d => h.1 c a (by omega), fun i _ c c1 c2 => by rw [h.1 c (by omega) (by omega)], fun i _ b => h.2 i b⟩
theorem Tf_FK (h : Tf L μ μ') : FK b μ μ' := fun i _ c h1 h2 => by rw [h.1 c (by omega) (by omega) (by omega)]
theorem Tf_Rz (h : Tf L μ μ') (hz : Rz L μ0 μ) : Rz L μ0 μ' := ⟨fun c hc => (h.1 c (by omega) (by omega) (by omega)).trans (hz.1 c hc), fun i hi c c1 c2 => (h.2.1 i hi c c1 c2).trans (hz.2.1 i hi c c1 c2), fun i a1 a2 a3 a4 a5 a6 a7 => (h.2.2 i a1 a7).trans (hz.2.2 i a1 a2 a3 a4 a5 a6 a7)⟩
theorem Tf_RQ (h : Tf L μ μ') (hR : RP μ' T') (hq : RQ μ T Q W b) : RQ μ' T' Q W b := by
  obtain ⟨_, ⟨a1, a2, a3⟩, ⟨b1, b2, b3⟩, c1, c2⟩ := hq
  refine ⟨hR, ⟨(h.2.2 17 (by decide) (by decide)).trans a1, a2, ?_⟩, ⟨(h.2.2 19 (by decide) (by decide)).trans b1, b2, ?_⟩, (h.2.2 27 (by decide) (by decide)).trans c1, (h.2.2 29 (by decide) (by decide)).trans c2⟩
  · rw [h.1 33 (by decide) (by decide) (by decide), h.1 34 (by decide) (by decide) (by decide)]
    exact a3
  · rw [h.1 35 (by decide) (by decide) (by decide)]
    exact b3
theorem Tf_Fz {nW nQ : Nat} (h : Tf L μ μ') (hF : Fz μ f p wt s nW nQ) : Fz μ' f p wt s nW nQ := by
  obtain ⟨a1, a2, a3, a4, a5⟩ := hF
  unfold Fz
  rw [h.1 36 (by decide) (by decide) (by decide), h.1 37 (by decide) (by decide) (by decide), h.1 38 (by decide) (by decide) (by decide), h.1 41 (by decide) (by decide) (by decide), h.1 42 (by decide) (by decide) (by decide)]
  exact ⟨a1, a2, a3, a4, a5⟩
theorem FK_rf : FK b μ μ := fun _ _ _ _ _ => rfl
theorem FK_tr (h1 : FK b μ μ1) (h2 : FK b μ1 μ') : FK b μ μ' := fun i a c d e => (h2 i a c d e).trans (h1 i a c d e)
theorem FK_le {b' : Nat} (h : FK b' μ μ') (hb : b ≤ b') : FK b μ μ' := fun i a c d e => h i (by omega) c d e
theorem FK_Fz {nW nQ : Nat} (h : FK b μ μ') (hf : f < b) (hF : Fz μ f p wt s nW nQ) : Fz μ' f p wt s nW nQ := by
  obtain ⟨a1, a2, a3, a4, a5⟩ := hF
  exact ⟨(h f hf 36 (by decide) (by decide)).trans a1, (h f hf 37 (by decide) (by decide)).trans a2, (h f hf 38 (by decide) (by decide)).trans a3, (h f hf 41 (by decide) (by decide)).trans a4, (h f hf 42 (by decide) (by decide)).trans a5⟩
theorem RP_put (h : RP μ T) (hl : T.length < 600) (hw : tw (T ++ [q])) {hh : Int32} : RP (mt_put μ (nI q.1) (nI q.2.1) (nI q.2.2) hh) (T ++ [q]) := by
  obtain ⟨h1, h2, h3, h4⟩ := h
  have c1 : (μ 22 1).toNatClampNeg = T.length := by rw [h1, nI_c (by omega)]
  refine ⟨?_, by simp; omega, hw, fun i hi => ?_⟩
  · rw [mt_put_22]
    simp only [upd, if_true]
    rw [h1, ← nI_one, nI_add]
    simp
  · rw [mt_put_23, mt_put_24, mt_put_25, c1]
    by_cases e : i = T.length
    · subst e
      obtain ⟨e1, e2, e3⟩ := kd_at (T := T ++ [q]) (i := T.length) (k := q.1) (a := q.2.1) (b := q.2.2) app_at
      rw [e1, e2, e3]
      simp [upd]
    · have hlt : i < T.length := by
        simp at hi
        omega
      simp only [upd, if_neg e]
      have := h4 i hlt
      unfold kd k1 k2 at this ⊢
      rw [app_lt hlt]
      exact this
theorem Tf_put {h2 : Int32} {kI aI bI : Int32} (h : RP μ T) (hL : L ≤ T.length) : Tf L μ (mt_put μ kI aI bI h2) := by
  have c1 : (μ 22 1).toNatClampNeg = T.length := by rw [h.1, nI_c (by have := h.2.1; omega)]
  refine ⟨fun c c1 c2 _ => mt_put_row c1 (by omega) (by omega) (by omega) (by omega), fun i hi c c1' c2' => ?_, fun i hi _ => ?_⟩
  · rcases (show c = 23 ∨ c = 24 ∨ c = 25 ∨ c = 26 by omega) with rfl | rfl | rfl | rfl
    · rw [mt_put_23, c1]
      simp only [upd, if_neg (show ¬ i = T.length by omega)]
    · rw [mt_put_24, c1]
      simp only [upd, if_neg (show ¬ i = T.length by omega)]
    · rw [mt_put_25, c1]
      simp only [upd, if_neg (show ¬ i = T.length by omega)]
    · rw [mt_put_26, c1]
      simp only [upd, if_neg (show ¬ i = T.length by omega)]
  · rw [mt_put_22]
    simp only [upd, if_neg hi]
theorem RP_at {kk aa bb : Nat} (h : RP μ T) (hi : i < T.length) (hk : kk ≤ 4) (ha : aa < 10000) (hb : bb < 10000) : mt_at μ i (nI kk) (nI aa) (nI bb) ↔ T[i]? = some (kk, aa, bb) := by
  obtain ⟨e1, e2, e3⟩ := h.2.2.2 i hi
  have hw := kd_w h.2.2.1 hi
  unfold mt_at
  rw [e1, e2, e3, at_kd hi, nI_inj (by omega) (by omega), nI_inj (by omega) (by omega), nI_inj (by omega) (by omega)]
  simp only [Option.some.injEq, Prod.mk.injEq]
theorem tput_R (hw : tw T) (hq : q.1 = 2 ∧ q.2.1 < T.length ∧ q.2.2 < T.length ∨ q.1 = 3 ∧ q.2.1 < T.length ∧ q.2.2 = 0 ∨ q.1 = 4) (ha : q.2.1 < 10000) (hb : q.2.2 < 10000) : Rx T (tput T q).1 ∧ (tput T q).1.length ≤ T.length + 1 ∧ (tput T q).1[(tput T q).2]? = some q :=
  ⟨⟨tput_F.1, tput_F.2.1, tput_w hw hq ha hb⟩, tput_F.2.2.1, tput_F.2.2.2⟩
theorem m_typeOf (hd : 3 ≤ d) (h : RP μ T) (hL : L ≤ T.length) (hl : T.length < 600) {kk aa bb : Nat} (hk : 2 ≤ kk ∧ kk ≤ 4) (hq : kk = 2 ∧ aa < T.length ∧ bb < T.length ∨ kk = 3 ∧ aa < T.length ∧ bb = 0 ∨ kk = 4) (ha : aa < 10000) (hb : bb < 10000) :
    zI X d 101 [.inr 22, .inl (nI kk), .inl (nI aa), .inl (nI bb)] μ (fun r μ' => r = nI (tput T (kk, aa, bb)).2 ∧ RP μ' (tput T (kk, aa, bb)).1 ∧ Tf L μ μ') := by
  have h1 := h.1
  have hok : mt_ok μ := by unfold mt_ok; rw [h1, nI_t (by omega)]; omega
  refine zI_at [0, 1, 2, 3] (by omega) rfl (k101_0 ⟨_, m_seek (by omega) hok, fun r μ1 hr => ?_⟩)
  obtain ⟨rfl, ⟨rfl, hn⟩ | ⟨i, hi, rfl, hy, hb'⟩⟩ := hr
  · have e : t_find T (kk, aa, bb) = none := t_find_none (fun j hj z => hn j (by rw [h1, nI_t (by omega)]; omega) ((RP_at h hj hk.2 ha hb).mpr z))
    have n6 : ¬ μ1 22 1 = (600 : Int32) := by rw [h1, show (600 : Int32) = nI 600 from rfl, nI_inj (by omega) (by omega)]; omega
    refine k101_7 (fun z => absurd z (by decide)) (fun _ _ => ⟨_, m_define (by omega) (by rw [h1, nI_t (by omega)]; omega), fun r μ2 hr => k101_37 ?_⟩) (fun _ z => absurd z n6)
    obtain ⟨rfl, rfl⟩ := hr
    unfold tput
    rw [e]
    exact ⟨h1, RP_put (q := (kk, aa, bb)) h hl (tw_put h.2.2.1 hq ha hb), Tf_put h hL⟩
  · rw [h1, nI_t (by omega)] at hi
    have hi' : i < T.length := by omega
    have e : t_find T (kk, aa, bb) = some i := t_find_some ((RP_at h hi' hk.2 ha hb).mp hy) (fun j hj z => hb' j hj ((RP_at h (by omega) hk.2 ha hb).mpr z))
    have h0 : (0 : Int32) ≤ nI i := nI_ge0 (by omega)
    refine k101_7 (fun _ => k101_37 ?_) (fun z => absurd h0 z) (fun z => absurd h0 z)
    unfold tput
    rw [e]
    exact ⟨rfl, h, Tf_rf⟩
theorem m_exp (hd : 4 ≤ d) (h : RP μ T) (hL : L ≤ T.length) (hl : T.length < 600) {aa : Nat} (ha : aa < T.length) {x : Int32} (hx : x = nI aa) :
    zI X d 102 [.inr 22, .inl x] μ (fun r μ' => r = nI (tput T (3, aa, 0)).2 ∧ RP μ' (tput T (3, aa, 0)).1 ∧ Tf L μ μ') := by
  subst hx
  exact zI_at [0, 1] (by omega) rfl (k102_0 ⟨_, m_typeOf (kk := 3) (aa := aa) (bb := 0) (by omega) h hL hl (by omega) (Or.inr (Or.inl ⟨rfl, ha, rfl⟩)) (by omega) (by omega), fun r μ1 hr => k102_7 hr⟩)
theorem m_newName (hd : 2 ≤ d) (h : RP μ T) (hL : L ≤ T.length) (hl : T.length < 600) :
    zI X d 131 [.inr 22] μ (fun r μ' => r = nI T.length ∧ RP μ' (T ++ [(4, 100 + T.length, 0)]) ∧ Tf L μ μ') := by
  have h1 := h.1
  refine zI_at [0] (by omega) rfl (k131_0 ⟨_, m_define (by omega) (by rw [h1, nI_t (by omega)]; omega), fun r μ1 hr => k131_14 ?_⟩)
  obtain ⟨rfl, rfl⟩ := hr
  refine ⟨h1, ?_, Tf_put h hL⟩
  have e : (100 : Int32) + μ 22 1 = nI (100 + T.length) := by rw [h1, show (100 : Int32) = nI 100 from rfl, nI_add]
  rw [e]
  exact RP_put (q := (4, 100 + T.length, 0)) h hl (tw_put h.2.2.1 (Or.inr (Or.inr rfl)) (by show 100 + T.length < 10000; omega) (by show 0 < 10000; omega))
theorem nn_Rx (hw : tw T) (hl : T.length < 600) : Rx T (T ++ [(4, 100 + T.length, 0)]) := ⟨fun i hi => app_lt hi, by simp, tw_put hw (Or.inr (Or.inr rfl)) (by show 100 + T.length < 10000; omega) (by show 0 < 10000; omega)⟩
theorem m_bind (hd : 1 ≤ d) (h : RQ μ T Q W b) (hl : W.length < 60) : zO X d 133 [.inr 22, .inl (nI a)] μ (fun μ' => RQ μ' T Q (W ++ [a]) b ∧ (∀ c, c ≠ 22 → c ≠ 35 → μ' c = μ c) ∧ ∀ i, i ≠ 19 → μ' 22 i = μ 22 i) := by
  obtain ⟨h0, h1, ⟨b1, b2, b3⟩, c1, c2⟩ := h
  refine zO_at [0, 1] (by omega) rfl (k133_0 (by rw [b1, nI_t (by omega)]; omega) ?_)
  have cc : (μ 22 19).toNatClampNeg = W.length := by rw [b1, nI_c (by omega)]
  rw [cc, b1, ← nI_one, nI_add]
  have r22 : ∀ i, i ≠ 19 → (zm_up (zm_up μ 35 W.length (nI a)) 22 19 (nI (W.length + 1))) 22 i = μ 22 i := fun i hi => by rw [zm_up_at, if_neg (by omega), zm_up_row (by decide)]
  have rc : ∀ c, c ≠ 22 → c ≠ 35 → (zm_up (zm_up μ 35 W.length (nI a)) 22 19 (nI (W.length + 1))) c = μ c := fun c x1 x2 => by rw [zm_up_row x1, zm_up_row x2]
  refine ⟨⟨?_, ?_, ⟨?_, by simp; omega, fun i w hw => ?_⟩, by rw [r22 27 (by decide)]; exact c1, by rw [r22 29 (by decide)]; exact c2⟩, rc, r22⟩
  · obtain ⟨a1, a2, a3, a4⟩ := h0
    refine ⟨by rw [r22 1 (by decide)]; exact a1, a2, a3, ?_⟩
    rw [rc 23 (by decide) (by decide), rc 24 (by decide) (by decide), rc 25 (by decide) (by decide)]
    exact a4
  · obtain ⟨a1, a2, a3⟩ := h1
    refine ⟨by rw [r22 17 (by decide)]; exact a1, a2, ?_⟩
    rw [rc 33 (by decide) (by decide), rc 34 (by decide) (by decide)]
    exact a3
  · rw [zm_up_at, if_pos ⟨rfl, rfl⟩]
    simp
  · rw [zm_up_row (by decide), zm_up_at]
    by_cases e : i = W.length
    · subst e
      rw [List.getElem?_append_right (by omega)] at hw
      simp at hw
      rw [if_pos ⟨rfl, rfl⟩, hw]
    · rw [if_neg (by omega)]
      have hlt : i < W.length := by
        have := (List.getElem?_eq_some_iff.mp hw).1
        simp at this
        omega
      rw [List.getElem?_append_left hlt] at hw
      exact b3 i w hw
theorem m_addEq (hd : 1 ≤ d) (h : RQ μ T Q W b) (hl : Q.length < 60) {c1 c2 : Nat} : zO X d 132 [.inr 22, .inl (nI c1), .inl (nI c2)] μ (fun μ' => RQ μ' T (Q ++ [(c1, c2)]) W b ∧ (∀ c, c ≠ 22 → c ≠ 33 → c ≠ 34 → μ' c = μ c) ∧ ∀ i, i ≠ 17 → μ' 22 i = μ 22 i) := by
  obtain ⟨h0, ⟨b1, b2, b3⟩, h1, x1, x2⟩ := h
  refine zO_at [0, 1, 2] (by omega) rfl (k132_0 (by rw [b1, nI_t (by omega)]; omega) (by rw [b1, nI_t (by omega)]; omega) ?_)
  have cc : (μ 22 17).toNatClampNeg = Q.length := by rw [b1, nI_c (by omega)]
  rw [cc, b1, ← nI_one, nI_add]
  have r22 : ∀ i, i ≠ 17 → (zm_up (zm_up (zm_up μ 33 Q.length (nI c1)) 34 Q.length (nI c2)) 22 17 (nI (Q.length + 1))) 22 i = μ 22 i := fun i hi => by rw [zm_up_at, if_neg (by omega), zm_up_row (by decide), zm_up_row (by decide)]
  have rc : ∀ c, c ≠ 22 → c ≠ 33 → c ≠ 34 → (zm_up (zm_up (zm_up μ 33 Q.length (nI c1)) 34 Q.length (nI c2)) 22 17 (nI (Q.length + 1))) c = μ c := fun c y1 y2 y3 => by rw [zm_up_row y1, zm_up_row y3, zm_up_row y2]
  refine ⟨⟨?_, ⟨?_, by simp; omega, fun i w1 w2 hw => ?_⟩, ?_, by rw [r22 27 (by decide)]; exact x1, by rw [r22 29 (by decide)]; exact x2⟩, rc, r22⟩
  · obtain ⟨a1, a2, a3, a4⟩ := h0
    refine ⟨by rw [r22 1 (by decide)]; exact a1, a2, a3, ?_⟩
    rw [rc 23 (by decide) (by decide) (by decide), rc 24 (by decide) (by decide) (by decide), rc 25 (by decide) (by decide) (by decide)]
    exact a4
  · rw [zm_up_at, if_pos ⟨rfl, rfl⟩]
    simp
  · rw [zm_up_row (show 33 ≠ 22 by decide), zm_up_row (show 33 ≠ 34 by decide), zm_up_row (show 34 ≠ 22 by decide), zm_up_at, zm_up_at, zm_up_row (show 34 ≠ 33 by decide)]
    by_cases e : i = Q.length
    · subst e
      rw [List.getElem?_append_right (by omega)] at hw
      simp at hw
      rw [if_pos ⟨rfl, rfl⟩, if_pos ⟨rfl, rfl⟩, hw.1, hw.2]
      exact ⟨rfl, rfl⟩
    · rw [if_neg (by omega), if_neg (by omega)]
      have hlt : i < Q.length := by
        have := (List.getElem?_eq_some_iff.mp hw).1
        simp at this
        omega
      rw [List.getElem?_append_left hlt] at hw
      exact b3 i w1 w2 hw
  · obtain ⟨a1, a2, a3⟩ := h1
    refine ⟨by rw [r22 19 (by decide)]; exact a1, a2, ?_⟩
    rw [rc 35 (by decide) (by decide) (by decide)]
    exact a3
theorem m_begin (hd : 1 ≤ d) (h : μ 22 27 = nI b) (hb : b < 40) {x : Int32} (hx : x = nI p) : zO X d 125 [.inr 22, .inl x, .inl wt] μ (fun μ' => μ' = bgn μ p wt b) := by
  subst hx
  have bb : 0 ≤ (μ 22 27).toInt ∧ (μ 22 27).toInt < ((40 : Nat) : Int) := by rw [h, nI_t (by omega)]; omega
  refine zO_at [0, 1, 2] (by omega) rfl (k125_0 bb bb bb bb bb ?_)
  rw [h, nI_c (by omega), ← nI_one, nI_add]
  rfl
theorem bgn_row {c : Nat} (h : c ≠ 22) (h2 : c < 36 ∨ 42 < c) : bgn μ p wt b c = μ c := by
  unfold bgn
  rw [zm_up_row h, zm_up_row (by omega), zm_up_row (by omega), zm_up_row (by omega), zm_up_row (by omega), zm_up_row (by omega)]
theorem bgn_22 (h : i ≠ 27) : bgn μ p wt b 22 i = μ 22 i := by
  unfold bgn
  rw [zm_up_at, if_neg (by omega), zm_up_row (by decide), zm_up_row (by decide), zm_up_row (by decide), zm_up_row (by decide), zm_up_row (by decide)]
theorem bgn_FK : FK b μ (bgn μ p wt b) := by
  intro i hi c h1 h2
  unfold bgn
  rw [zm_up_row (show c ≠ 22 by omega), zm_up_at, if_neg (by omega), zm_up_at, if_neg (by omega), zm_up_at, if_neg (by omega), zm_up_at, if_neg (by omega), zm_up_at, if_neg (by omega)]
theorem bgn_RQ (h : RQ μ T Q W b) : RQ (bgn μ p wt b) T Q W (b + 1) := by
  obtain ⟨⟨a1, a2, a3, a4⟩, ⟨b1, b2, b3⟩, ⟨d1, d2, d3⟩, c1, c2⟩ := h
  refine ⟨⟨by rw [bgn_22 (by decide)]; exact a1, a2, a3, ?_⟩, ⟨by rw [bgn_22 (by decide)]; exact b1, b2, ?_⟩, ⟨by rw [bgn_22 (by decide)]; exact d1, d2, ?_⟩, ?_, by rw [bgn_22 (by decide)]; exact c2⟩
  · rw [bgn_row (by decide) (by decide), bgn_row (by decide) (by decide), bgn_row (by decide) (by decide)]; exact a4
  · rw [bgn_row (by decide) (by decide), bgn_row (by decide) (by decide)]; exact b3
  · rw [bgn_row (by decide) (by decide)]; exact d3
  · unfold bgn
    rw [zm_up_at, if_pos ⟨rfl, rfl⟩]
theorem bgn_Fz (h : RQ μ T Q W b) : Fz (bgn μ p wt b) b p wt 0 W.length Q.length := by
  obtain ⟨_, ⟨b1, _⟩, ⟨d1, _⟩, _⟩ := h
  unfold Fz bgn
  refine ⟨?_, ?_, ?_, ?_, ?_⟩
  · rw [zm_up_row (by decide), zm_up_row (by decide), zm_up_row (by decide), zm_up_row (by decide), zm_up_row (by decide), zm_up_at, if_pos ⟨rfl, rfl⟩]
  · rw [zm_up_row (by decide), zm_up_row (by decide), zm_up_row (by decide), zm_up_row (by decide), zm_up_at, if_pos ⟨rfl, rfl⟩]
  · rw [zm_up_row (by decide), zm_up_row (by decide), zm_up_row (by decide), zm_up_at, if_pos ⟨rfl, rfl⟩]
    rfl
  · rw [zm_up_row (by decide), zm_up_row (by decide), zm_up_at, if_pos ⟨rfl, rfl⟩, d1]
  · rw [zm_up_row (by decide), zm_up_at, if_pos ⟨rfl, rfl⟩, b1]
theorem bgn_Rz (h : Rz L μ0 μ) : Rz L μ0 (bgn μ p wt b) := ⟨fun c hc => (bgn_row (by omega) (by omega)).trans (h.1 c hc), fun i hi c c1 c2 => by rw [bgn_row (by omega) (by omega)]; exact h.2.1 i hi c c1 c2, fun i a1 a2 a3 a4 a5 a6 a7 => (bgn_22 a4).trans (h.2.2 i a1 a2 a3 a4 a5 a6 a7)⟩
end RO0

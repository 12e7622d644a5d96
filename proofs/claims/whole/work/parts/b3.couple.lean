def LT (L res : Nat) (T0 : tT) : Prop := T0.length = L ∧ L ≤ 24 ∧ res < L ∧ tw T0 ∧ ∀ i, i < L → th (tJ T0 tA i) ≤ 4
def CPc (L : Nat) (T0 Tc : tT) (D : Nat → Option Nat) (S : Nat → Tr) (V : List Nat) (h : Nat) : Prop :=
  (tw Tc ∧ cnm Tc ∧ TD Tc D S) ∧ (L ≤ Tc.length ∧ ∀ i, i < L → Tc[i]? = T0[i]?) ∧ (∀ (k v : Nat), V[k]? = some v → v < Tc.length ∧ th (cT Tc S v) ≤ h) ∧ ∀ i, th (S i) + 3 ≤ h
def CPr (L : Nat) (T0 Tc : tT) (S : Nat → Tr) (V : List Nat) (Tr' : tT) (N : Nat → Prop) (ν : Nat → Tr) (Q : List (Nat × Nat)) (W : List Nat) : Prop :=
  (tw Tr' ∧ MO Tr' N ν Q) ∧ (L ≤ Tr'.length ∧ (∀ i, i < L → Tr'[i]? = T0[i]?) ∧ ∀ i a b, T0[i]? = some (4, a, b) → N i ∧ ν i = S i) ∧
  (∀ i, N i → i < Tr'.length ∧ ta (fun l => l < Tc.length) (ν i)) ∧ V.length = W.length ∧ ∀ (k v w : Nat), V[k]? = some v → W[k]? = some w → Lv Tr' N w ∧ cT Tc S v = tJ Tr' ν w
def CM (X : zm_T) (d : Nat) (μ0 : zm_u) (res m : Nat) (as : List zm_v) (Tc : tT) (D : Nat → Option Nat) (V : List Nat) (r : Int32) (Tc' : tT) : Prop :=
  ∀ μ, SA μ0 μ → CC μ Tc D V res → zI X d m as μ (fun r' μ' => r' = r ∧ CC μ' Tc' D V res ∧ CK μ μ')
def CQ (μ0 : zm_u) (res : Nat) (Tc : tT) (D : Nat → Option Nat) (V : List Nat) (μs μ : zm_u) : Prop := SA μ0 μ ∧ CC μ Tc D V res ∧ CK μs μ
def En (n : Nat) (Tc Tc1 : tT) : Prop := Ex Tc Tc1 ∧ Tc1.length ≤ Tc.length + n
def FOc (Tc : tT) (S : Nat → Tr) (hh : Nat) (o : Option Nat) : Prop := ∀ c, o = some c → c < Tc.length ∧ th (cT Tc S c) ≤ hh
def hqb : Nat → Nat
  | 0 => 0
  | e + 1 => hqb e + 2 * e
def Rmc (e n : Nat) (Tc : tT) (V : List Nat) (h : Nat) : Prop := Tc.length + 11 * n ≤ 466 ∧ V.length + 3 * (e - 1) ≤ 16 ∧ h + hqb e ≤ 34
def Rmr (e n : Nat) (Tr' : tT) (Q : List (Nat × Nat)) (b : Nat) : Prop := Tr'.length + 11 * n ≤ 600 ∧ Q.length + e ≤ 40 ∧ b + e ≤ 30
def JFd (X : zm_T) (L res : Nat) (T0 : tT) (μ0 : zm_u) (dc dr e p u n : Nat) (Tc : tT) (D : Nat → Option Nat) (S : Nat → Tr) (V : List Nat) (h : Nat) : Prop :=
  ∃ (Tc1 : tT) (o : Option Nat), En (11 * n) Tc Tc1 ∧ FOc Tc1 S (h + 2 * (e - 1)) o ∧ CM X dc μ0 res 53 [.inr 3, .inl (nI (u + n - 1))] Tc D V (oc o) Tc1 ∧
    ∀ (Tr' : tT) (N : Nat → Prop) (ν : Nat → Tr) (Q : List (Nat × Nat)) (W : List Nat) (b : Nat), CPr L T0 Tc S V Tr' N ν Q W → Rmr e n Tr' Q b → RFd X dr L μ0 N ν n Tr' Q W b p (o.map (cT Tc1 S))
def JIa (X : zm_T) (L res : Nat) (T0 : tT) (μ0 : zm_u) (dc dr e p u n : Nat) (Tc : tT) (D : Nat → Option Nat) (S : Nat → Tr) (V : List Nat) (wc : Nat) : Prop :=
  ∃ (Tc1 : tT) (ok : Bool), En (11 * n) Tc Tc1 ∧ CM X dc μ0 res 46 [.inr 3, .inl (nI (u + n - 1)), .inl (nI wc)] Tc D V (if ok then 1 else 0) Tc1 ∧
    ∀ (Tr' : tT) (N : Nat → Prop) (ν : Nat → Tr) (Q : List (Nat × Nat)) (W : List Nat) (b wr : Nat), CPr L T0 Tc S V Tr' N ν Q W → Rmr e n Tr' Q b → Lv Tr' N wr → cT Tc S wc = tJ Tr' ν wr → RIs X dr L μ0 n Tr' Q W b p wr ok
def Jc (X : zm_T) (L res : Nat) (T0 : tT) (μ0 : zm_u) (dc dr e : Nat) : Prop :=
  ∀ p u n, Tm L μ0 e p u n → ∀ Tc D S V h, CPc L T0 Tc D S V h → Rmc e n Tc V h →
    JFd X L res T0 μ0 dc dr e p u n Tc D S V h ∧ ∀ wc, wc < Tc.length → JIa X L res T0 μ0 dc dr e p u n Tc D S V wc
section CPL
variable {X : zm_T} {d d' dr L n i j k a b e h hh p u q res m c r c1 r1 : Nat} {μ μ' μ0 μ1 μs : zm_u} {T T' T0 Tc Tc1 Tc2 Tr' Tr1 Tr2 : tT} {D : Nat → Option Nat} {S S' : Nat → Tr} {V W : List Nat} {N : Nat → Prop} {ν ν' : Nat → Tr} {Q : List (Nat × Nat)} {as : List zm_v} {v : Int32} {o : Option Nat} {ns : List Nat} {x1 x2 : Option Nat}
theorem tJ_ts (hw : tw T) : ∀ i, i < T.length → ts S (tJ T ν i) = tJ T (fun j => ts S (ν j)) i := by
  intro i
  induction i using Nat.strongRecOn with
  | ind i ih =>
    intro hi
    rcases kd_cases hw hi with ⟨k, e⟩ | ⟨k, e⟩ | ⟨k, a1, a2, e⟩ | ⟨k, a1, e⟩ | ⟨k, e⟩
    · rw [e, e]; rfl
    · rw [e, e]; rfl
    · rw [e, e, ts_P, ih _ a1 (by omega), ih _ a2 (by omega)]
    · rw [e, e, ts_E, ih _ a1 (by omega)]
    · rw [e, e]
theorem cT_tJ (hw : tw T) (hi : i < T.length) : cT T S i = tJ T S i := by
  unfold cT
  rw [tJ_ts hw i hi]
  rfl
theorem CPc_mono (h : CPc L T0 Tc D S V hh) (h1 : Ex Tc Tc1) : CPc L T0 Tc1 D S V hh := by
  obtain ⟨⟨a1, a2, a3⟩, ⟨b1, b3⟩, d2, e1⟩ := h
  have l1 := h1.2.1
  refine ⟨⟨h1.2.2.1, h1.2.2.2, Ex_TD a1 h1 a3⟩, ⟨by omega, fun i hi => (h1.1 i (by omega)).trans (b3 i hi)⟩, fun k v hv => ?_, e1⟩
  obtain ⟨f1, f4⟩ := d2 k v hv
  exact ⟨by omega, by rw [Ex_cT a1 h1 f1]; exact f4⟩
theorem CPr_mono (hc : CPc L T0 Tc D S V hh) (h : CPr L T0 Tc S V Tr' N ν Q W) (h1 : Ex Tc Tc1) (h2 : Rx Tr' Tr1) : CPr L T0 Tc1 S V Tr1 N ν Q W := by
  obtain ⟨⟨a1, _, _⟩, _, d0, _⟩ := hc
  obtain ⟨⟨a4, a5⟩, ⟨b2, b4, b5⟩, c1, d1, d2⟩ := h
  have l1 := h1.2.1
  have l2 := h2.2.1
  refine ⟨⟨h2.2.2, MO_Rx a4 h2 (fun i hi => (c1 i hi).1) a5⟩, ⟨by omega, fun i hi => (h2.1 i (by omega)).trans (b4 i hi), b5⟩, fun i hi => ⟨by have := (c1 i hi).1; omega, ta_imp (fun l hl => by omega) _ (c1 i hi).2⟩, d1, fun k v w hv hw => ?_⟩
  obtain ⟨f2, f3⟩ := d2 k v w hv hw
  exact ⟨Rx_Lv a4 h2 f2, by rw [Ex_cT a1 h1 (d0 k v hv).1, Rx_tJ a4 h2 f2.1]; exact f3⟩
theorem LT_2 (hT : LT L res T0) : 2 ≤ L := by
  have := tw_lt hT.2.2.2.1.1.2
  rw [hT.1] at this
  omega

theorem CPc_last (hT : LT L res T0) (h : CPc L T0 Tc D S V hh) (hi : i < L) : i < Tc.length ∧ th (cT Tc S i) ≤ hh ∧ cT Tc S i = tJ T0 S i := by
  obtain ⟨⟨a1, a2, a3⟩, ⟨b1, b3⟩, _, e1⟩ := h
  obtain ⟨t1, t2, t3, t4, t5⟩ := hT
  subst t1
  have E1 : ∀ ν, tJ Tc ν i = tJ T0 ν i := fun ν => tJ_ext t4 a1 b3 (fun _ _ _ _ => rfl) i hi
  refine ⟨by omega, ?_, by rw [cT_tJ a1 (by omega), E1]⟩
  unfold cT
  rw [E1]
  have h4 := e1 0
  have := th_pos (S 0)
  have h5 := th_ts (S := S) (m := hh - 4) (fun n => by have := e1 n; omega) (tJ T0 tA i)
  have := t5 i hi
  omega
theorem CPr_last (hT : LT L res T0) (hc : CPc L T0 Tc D S V hh) (h : CPr L T0 Tc S V Tr' N ν Q W) (hi : i < L) : Lv Tr' N i ∧ cT Tc S i = tJ Tr' ν i := by
  have e0 := (CPc_last hT hc hi).2.2
  obtain ⟨⟨a4, a5⟩, ⟨b2, b4, b5⟩, c1, _⟩ := h
  obtain ⟨t1, t2, t3, t4, t5⟩ := hT
  subst t1
  have E2 : ∀ ν, tJ Tr' ν i = tJ T0 ν i := fun ν => tJ_ext t4 a4 b4 (fun _ _ _ _ => rfl) i hi
  have E3 : tJ T0 ν i = tJ T0 S i := tJ_ext t4 t4 (fun _ _ => rfl) (fun j a b hj => (b5 j a b hj).2) i hi
  refine ⟨⟨by omega, ?_⟩, by rw [e0, E2, E3]⟩
  rw [E2]
  have : ∀ i, i < T0.length → ta N (tJ T0 tA i) := by
    intro i
    induction i using Nat.strongRecOn with
    | ind i ih =>
      intro hi
      rcases kd_cases t4 hi with ⟨k, e⟩ | ⟨k, e⟩ | ⟨k, x1, x2, e⟩ | ⟨k, x1, e⟩ | ⟨k, e⟩
      · rw [e]; trivial
      · rw [e]; trivial
      · rw [e]; exact ⟨ih _ x1 (by omega), ih _ x2 (by omega)⟩
      · rw [e]; exact ih _ x1 (by omega)
      · rw [e]
        have hq := at_kd hi
        rw [k] at hq
        exact (b5 i _ _ hq).1
  exact this i hi
theorem SA_CK (h : SA μ0 μ) (hf : CK μ μ') : SA μ0 μ' := by
  obtain ⟨a1, a2, a3, a4, a5, a6⟩ := h
  have q : ∀ c, c = 2 ∨ (9 ≤ c ∧ c ≤ 11) ∨ 15 ≤ c → μ' c = μ c := fun c hc => hf c (by omega) (by omega) (by omega) (by omega) (by omega) (by omega) (by omega)
  exact ⟨(q 9 (by omega)).trans a1, (q 10 (by omega)).trans a2, (q 11 (by omega)).trans a3, (q 27 (by omega)).trans a4, (q 28 (by omega)).trans a5, (q 2 (by omega)).trans a6⟩
theorem CQ_0 (hs : SA μ0 μ) (hc : CC μ Tc D V res) : CQ μ0 res Tc D V μ μ := ⟨hs, hc, CK_rf⟩
theorem CM_use (hM : CM X d μ0 res m as Tc D V v Tc1) (hd : d ≤ d') (hq : CQ μ0 res Tc D V μs μ) : zI X d' m as μ (fun r' μ' => r' = v ∧ CQ μ0 res Tc1 D V μs μ') :=
  zI_mono (hM μ hq.1 hq.2.1) hd (fun r' μ' q => ⟨q.1, SA_CK hq.1 q.2.2, q.2.1, CK_tr hq.2.2 q.2.2⟩)

theorem cm_pair (hd : 3 ≤ d) (hl : Tc.length < 466) (h1 : vc Tc x1) (h2 : vc Tc x2) : CM X d μ0 res 24 [.inr 1, .inl (oc x1), .inl (oc x2)] Tc D V (oc (cPair Tc x1 x2).2) (cPair Tc x1 x2).1 := fun _ _ hc => c_pairOf hd hc hl h1 h2
theorem cm_exp (hd : 3 ≤ d) (hl : Tc.length < 466) (h1 : vc Tc x1) : CM X d μ0 res 25 [.inr 1, .inl (oc x1)] Tc D V (oc (cExp Tc x1).2) (cExp Tc x1).1 := fun _ _ hc => c_expOf hd hc hl h1
theorem cm_same {P : Int32 → zm_u → Prop} (h : ∀ μ, SA μ0 μ → CC μ Tc D V res → zI X d m as μ (fun r' μ' => μ' = μ ∧ r' = v)) : CM X d μ0 res m as Tc D V v Tc := fun μ hs hc => zI_mono (h μ hs hc) (Nat.le_refl _) (fun r' μ' q => ⟨q.2, by rw [q.1]; exact hc, by rw [q.1]; exact CK_rf⟩)
theorem cm_inside (hd : 4 ≤ d) (hD : TD Tc D S) (h1 : vc Tc x1) : CM X d μ0 res 58 [.inr 3, .inl (oc x1)] Tc D V (oc (cArg Tc D 3 false x1)) Tc := cm_same (P := fun _ _ => True) (fun _ _ hc => c_insideOf hd hc hD h1)
theorem cm_first (hd : 4 ≤ d) (hD : TD Tc D S) (h1 : vc Tc x1) : CM X d μ0 res 59 [.inr 3, .inl (oc x1)] Tc D V (oc (cArg Tc D 2 false x1)) Tc := cm_same (P := fun _ _ => True) (fun _ _ hc => c_firstIn hd hc hD h1)
theorem cm_second (hd : 4 ≤ d) (hD : TD Tc D S) (h1 : vc Tc x1) : CM X d μ0 res 60 [.inr 3, .inl (oc x1)] Tc D V (oc (cArg Tc D 2 true x1)) Tc := cm_same (P := fun _ _ => True) (fun _ _ hc => c_secondIn hd hc hD h1)
theorem cm_op (hd : 2 ≤ d) (hT : TT L μ0 e p u n k ns) : CM X d μ0 res 32 [.inr 2, .inl (nI (u + n - 1))] Tc D V (nI k) Tc :=
  cm_same (P := fun _ _ => True) (fun μ hs _ => zI_mono (c_opOf hd (by have := hT.1; omega)) (Nat.le_refl _) (fun r μ' q => ⟨q.1, by rw [q.2, hs.1]; exact hT.2.2.1⟩))
theorem cm_part (hd : 4 ≤ d) (hT : TT L μ0 e p u n k ns) (hj : ns[j]? = some m) {x : Int32} (hx : x = nI j) : CM X d μ0 res 34 [.inr 2, .inl (nI (u + n - 1)), .inl x] Tc D V (nI (u + (ns.take j).sum + m - 1)) Tc := by
  subst hx
  refine cm_same (P := fun _ _ => True) (fun μ hs _ => ?_)
  obtain ⟨h1, h2, h3, h4, h5, h6, h7, h8⟩ := hT
  exact c_part (p := p + 1) (e := e) (L := L) (m := m) hd ⟨h1.1, h1.2.1⟩ (by rw [hs.1, hs.2.1, h3]; exact h6) (by rw [hs.1, hs.2.1, h3]; exact h5) h7 (Tl_SA hs h8) hj

theorem cm_findPart (hd : 5 ≤ d) (hd' : d' + 1 ≤ d) (hT : TT L μ0 e p u n k ns) (hj : ns[j]? = some m) {x : Int32} (hx : x = nI j) (hF : CM X d' μ0 res 53 [.inr 3, .inl (nI (u + (ns.take j).sum + m - 1))] Tc D V v Tc1) : CM X d μ0 res 54 [.inr 3, .inl (nI (u + n - 1)), .inl x] Tc D V v Tc1 := by
  intro μ hs hc
  refine zI_at [0, 1, 2] (by omega) rfl (k54_0 ⟨_, CM_use (cm_part (by omega) hT hj hx) (Nat.le_refl _) (CQ_0 hs hc), fun r μ1 hr => ?_⟩)
  obtain ⟨rfl, hq⟩ := hr
  refine k54_10 ⟨_, CM_use hF (by omega) hq, fun r μ2 hr => k54_13 ?_⟩
  obtain ⟨rfl, hq2⟩ := hr
  exact ⟨rfl, hq2.2⟩
theorem En_rf (hw : tw Tc) (hc : cnm Tc) : En n Tc Tc := ⟨Ex_rf hw hc, by omega⟩
theorem En_tr {n1 n2 : Nat} (h1 : En n1 Tc Tc1) (h2 : En n2 Tc1 Tc2) (hn : n1 + n2 ≤ n) : En n Tc Tc2 := ⟨Ex_tr h1.1 h2.1, by have := h1.2; have := h2.2; omega⟩
theorem En_le {n1 : Nat} (h1 : En n1 Tc Tc1) (hn : n1 ≤ n) : En n Tc Tc1 := ⟨h1.1, by have := h1.2; omega⟩
theorem FOc_none : FOc Tc S hh none := fun c z => by simp at z
theorem FOc_some (h1 : c < Tc.length) (h2 : th (cT Tc S c) ≤ hh) : FOc Tc S hh (some c) := fun c' z => by
  simp only [Option.some.injEq] at z
  rw [← z]
  exact ⟨h1, h2⟩
theorem CPr_N (h : CPr L T0 Tc S V Tr' N ν Q W) : ∀ i, N i → i < Tr'.length := fun i hi => (h.2.2.1 i hi).1
end CPL

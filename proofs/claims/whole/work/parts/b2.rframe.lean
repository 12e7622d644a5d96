def Fo (N : Nat → Prop) (ν : Nat → Tr) (t : Tr) (T : tT) (μ : zm_u) : Prop := ∃ r, μ 22 28 = nI r ∧ Lv T N r ∧ tJ T ν r = t
def Hd (N : Nat → Prop) (ν : Nat → Tr) (b : Nat) (t : Tr) (T : tT) (μ : zm_u) : Prop := ∃ r, μ 39 b = nI r ∧ Lv T N r ∧ tJ T ν r = t

def Rn (n : Nat) (T T' : tT) : Prop := Rx T T' ∧ T'.length ≤ T.length + n
def ROk (N : Nat → Prop) (ν : Nat → Tr) (n : Nat) (T : tT) (μ : zm_u) (Q : List (Nat × Nat)) (W : List Nat) (b : Nat) (o : Option Tr) : Prop := (o = none ∧ μ 22 29 = 1) ∨ ∃ t T', o = some t ∧ Rn (11 * n) T T' ∧ RQ μ T' Q W b ∧ Fo N ν t T' μ
def RFd (X : zm_T) (dr L : Nat) (μ0 : zm_u) (N : Nat → Prop) (ν : Nat → Tr) (n : Nat) (T : tT) (Q : List (Nat × Nat)) (W : List Nat) (b p : Nat) (o : Option Tr) : Prop :=
  ∀ (μ : zm_u) (P : Int32 → zm_u → Prop), Rz L μ0 μ → RQ μ T Q W b → (∀ μ', FK b μ μ' → Rz L μ0 μ' → ROk N ν n T μ' Q W b o → HC X dr P μ') → HC X dr P (bgn μ p (-1) b)
def RIs (X : zm_T) (dr L : Nat) (μ0 : zm_u) (n : Nat) (T : tT) (Q : List (Nat × Nat)) (W : List Nat) (b p wr : Nat) (ok : Bool) : Prop :=
  ∀ (μ : zm_u) (P : Int32 → zm_u → Prop), Rz L μ0 μ → RQ μ T Q W b → (∀ μ', FK b μ μ' → Rz L μ0 μ' → (ok = false ∧ μ' 22 29 = 1 ∨ ok = true ∧ ∃ T', Rn (11 * n) T T' ∧ RQ μ' T' Q W b) → HC X dr P μ') → HC X dr P (bgn μ p (nI wr) b)
def Kt (X : zm_T) (dr L : Nat) (μ0 : zm_u) (N : Nat → Prop) (ν : Nat → Tr) (n : Nat) (Tb : tT) (Q : List (Nat × Nat)) (W : List Nat) (b : Nat) (wt : Int32) (o : Option Tr) (P : Int32 → zm_u → Prop) (μ : zm_u) : Prop :=
  (o = none → ∀ μ', FK b μ μ' → Rz L μ0 μ' → μ' 22 29 = 1 → HC X dr P μ') ∧ ∀ t, o = some t → ∀ μ' T' r, FK b μ μ' → Rz L μ0 μ' → Rn (11 * n) Tb T' → RQ μ' T' Q W (b + 1) → μ' 37 b = wt → Lv T' N r → tJ T' ν r = t → zO X 10 126 [.inr 22, .inl (nI r)] μ' (HC X dr P)

def GG (L : Nat) (μ0 : zm_u) (Tb T : tT) (Q : List (Nat × Nat)) (W : List Nat) (b p : Nat) (wt : Int32) (s c : Nat) (C : tT → zm_u → Prop) (μ : zm_u) : Prop := Rz L μ0 μ ∧ RQ μ T Q W (b + 1) ∧ Rn c Tb T ∧ Fz μ b p wt s W.length Q.length ∧ C T μ
def RBd (X : zm_T) (dr L : Nat) (μ0 : zm_u) (N : Nat → Prop) (ν : Nat → Tr) (n : Nat) (Tb : tT) (Q : List (Nat × Nat)) (W : List Nat) (b p : Nat) (wt : Int32) (s c : Nat) (C : tT → zm_u → Prop) (o : Option Tr) : Prop :=
  ∀ (μ : zm_u) (T : tT) (P : Int32 → zm_u → Prop), GG L μ0 Tb T Q W b p wt s c C μ → Kt X dr L μ0 N ν n Tb Q W b wt o P μ → HC X dr P μ

def Stb (b : Nat) (C : tT → zm_u → Prop) : Prop := ∀ T T' μ μ', tw T → Rx T T' → FK (b + 1) μ μ' → C T μ → C T' μ'
def St8 (b : Nat) (C : tT → zm_u → Prop) : Prop := ∀ (T : tT) (μ : zm_u) (v : Int32), C T μ → C T (zm_up μ 38 b v)
section RFS
variable {X : zm_T} {d dr b f p s L n i j k a x e u m r wr pi : Nat} {μ μ' μ0 μ1 : zm_u} {T T' T1 Tb : tT} {t : Tr} {c c1 : Nat} {Q : List (Nat × Nat)} {W : List Nat} {wt v : Int32} {N : Nat → Prop} {ν : Nat → Tr} {o o1 : Option Tr} {P : Int32 → zm_u → Prop} {C C0 : tT → zm_u → Prop} {ns : List Nat} {ok : Bool}
theorem Kt_mono (h : Kt X dr L μ0 N ν n Tb Q W b wt o P μ) (hf : FK b μ μ1) : Kt X dr L μ0 N ν n Tb Q W b wt o P μ1 :=
  ⟨fun ho μ' h1 h2 h3 => h.1 ho μ' (FK_tr hf h1) h2 h3, fun r ho μ' T' t h1 h2 h3 h4 h5 h6 h7 => h.2 r ho μ' T' t (FK_tr hf h1) h2 h3 h4 h5 h6 h7⟩
theorem Rn_rf (h : tw T) : Rn n T T := ⟨Rx_rf h, by omega⟩
theorem Rn_tr {n1 n2 : Nat} (h1 : Rn n1 T T1) (h2 : Rn n2 T1 T') (hn : n1 + n2 ≤ n) : Rn n T T' := ⟨Rx_tr h1.1 h2.1, by have := h1.2; have := h2.2; omega⟩
theorem Rn_le {n1 : Nat} (h1 : Rn n1 T T1) (hn : n1 ≤ n) : Rn n T T1 := ⟨h1.1, by have := h1.2; omega⟩
theorem RQ_len (h : RQ μ T Q W b) : T.length ≤ 600 ∧ tw T := ⟨h.1.2.1, h.1.2.2.1⟩
theorem Rz_SA (h : Rz L μ0 μ) : SA μ0 μ := ⟨h.1 9 (by decide), h.1 10 (by decide), h.1 11 (by decide), h.1 27 (by decide), h.1 28 (by decide), h.1 2 (by decide)⟩
theorem Rz_22 {v : Int32} (h : Rz L μ0 μ) (hi : i = 1 ∨ i = 17 ∨ i = 19 ∨ i = 27 ∨ i = 28 ∨ i = 29 ∨ i = 34) : Rz L μ0 (zm_up μ 22 i v) :=
  ⟨fun c hc => (zm_up_row (by omega)).trans (h.1 c hc), fun i hi c c1 c2 => by rw [zm_up_row (by omega)]; exact h.2.1 i hi c c1 c2, fun j a1 a2 a3 a4 a5 a6 a7 => by rw [zm_up_at, if_neg (by omega)]; exact h.2.2 j a1 a2 a3 a4 a5 a6 a7⟩
theorem Rz_row {c : Nat} {v : Int32} (h : Rz L μ0 μ) (hc : 33 ≤ c ∧ c ≤ 48) : Rz L μ0 (zm_up μ c i v) :=
  ⟨fun c' hc' => (zm_up_row (by omega)).trans (h.1 c' hc'), fun i hi c' c1 c2 => by rw [zm_up_row (by omega)]; exact h.2.1 i hi c' c1 c2, fun j a1 a2 a3 a4 a5 a6 a7 => by rw [zm_up_row (by omega)]; exact h.2.2 j a1 a2 a3 a4 a5 a6 a7⟩
theorem FK_22 {v : Int32} : FK b μ (zm_up μ 22 i v) := fun j _ c h1 h2 => by rw [zm_up_row (by omega)]
theorem FK_row {c : Nat} {v : Int32} (hi : b ≤ i) : FK b μ (zm_up μ c i v) := fun j hj c' _ _ => by rw [zm_up_at, if_neg (by omega)]
theorem RQ_row {c : Nat} {v : Int32} (h : RQ μ T Q W b) (hc : 36 ≤ c ∧ c ≤ 48) : RQ (zm_up μ c i v) T Q W b := by
  obtain ⟨⟨a1, a2, a3, a4⟩, ⟨b1, b2, b3⟩, ⟨d1, d2, d3⟩, c1, c2⟩ := h
  have r : ∀ c', c' < 36 → (zm_up μ c i v) c' = μ c' := fun c' h' => zm_up_row (by omega)
  refine ⟨⟨?_, a2, a3, ?_⟩, ⟨?_, b2, ?_⟩, ⟨?_, d2, ?_⟩, ?_, ?_⟩
  · rw [r 22 (by decide)]; exact a1
  · rw [r 23 (by decide), r 24 (by decide), r 25 (by decide)]; exact a4
  · rw [r 22 (by decide)]; exact b1
  · rw [r 33 (by decide), r 34 (by decide)]; exact b3
  · rw [r 22 (by decide)]; exact d1
  · rw [r 35 (by decide)]; exact d3
  · rw [r 22 (by decide)]; exact c1
  · rw [r 22 (by decide)]; exact c2
theorem RQ_28 {v : Int32} (h : RQ μ T Q W b) : RQ (zm_up μ 22 28 v) T Q W b := by
  obtain ⟨⟨a1, a2, a3, a4⟩, ⟨b1, b2, b3⟩, ⟨d1, d2, d3⟩, c1, c2⟩ := h
  have r : ∀ c', c' ≠ 22 → (zm_up μ 22 28 v) c' = μ c' := fun c' h' => zm_up_row h'
  have r2 : ∀ j, j ≠ 28 → (zm_up μ 22 28 v) 22 j = μ 22 j := fun j hj => by rw [zm_up_at, if_neg (by omega)]
  refine ⟨⟨?_, a2, a3, ?_⟩, ⟨?_, b2, ?_⟩, ⟨?_, d2, ?_⟩, ?_, ?_⟩
  · rw [r2 1 (by decide)]; exact a1
  · rw [r 23 (by decide), r 24 (by decide), r 25 (by decide)]; exact a4
  · rw [r2 17 (by decide)]; exact b1
  · rw [r 33 (by decide), r 34 (by decide)]; exact b3
  · rw [r2 19 (by decide)]; exact d1
  · rw [r 35 (by decide)]; exact d3
  · rw [r2 27 (by decide)]; exact c1
  · rw [r2 29 (by decide)]; exact c2
theorem RQ_27 {b' : Nat} (h : RQ μ T Q W b) : RQ (zm_up μ 22 27 (nI b')) T Q W b' := by
  obtain ⟨⟨a1, a2, a3, a4⟩, ⟨b1, b2, b3⟩, ⟨d1, d2, d3⟩, c1, c2⟩ := h
  have r : ∀ c', c' ≠ 22 → (zm_up μ 22 27 (nI b')) c' = μ c' := fun c' h' => zm_up_row h'
  have r2 : ∀ j, j ≠ 27 → (zm_up μ 22 27 (nI b')) 22 j = μ 22 j := fun j hj => by rw [zm_up_at, if_neg (by omega)]
  refine ⟨⟨?_, a2, a3, ?_⟩, ⟨?_, b2, ?_⟩, ⟨?_, d2, ?_⟩, ?_, ?_⟩
  · rw [r2 1 (by decide)]; exact a1
  · rw [r 23 (by decide), r 24 (by decide), r 25 (by decide)]; exact a4
  · rw [r2 17 (by decide)]; exact b1
  · rw [r 33 (by decide), r 34 (by decide)]; exact b3
  · rw [r2 19 (by decide)]; exact d1
  · rw [r 35 (by decide)]; exact d3
  · rw [zm_up_at, if_pos ⟨rfl, rfl⟩]
  · rw [r2 29 (by decide)]; exact c2
theorem RQ_29 (h : RQ μ T Q W b) : RQ (zm_up μ 22 29 0) T Q W b := by
  have e : zm_up μ 22 29 0 = μ := by
    funext c j
    rw [zm_up_at]
    split
    · rename_i z
      rw [z.1, z.2]
      exact h.2.2.2.2.symm
    · rfl
  rw [e]
  exact h

theorem m_endF (hd : 1 ≤ d) (h : RQ μ T Q W (b + 1)) (hb : b < 40) (h37 : μ 37 b = -1) : zO X d 126 [.inr 22, .inl v] μ (fun μ' => μ' = zm_up (zm_up μ 22 28 v) 22 27 (nI b)) := by
  obtain ⟨_, _, _, c1, c2⟩ := h
  have e1 : μ 22 27 - 1 = nI b := by rw [c1, ← nI_one, nI_sub (by omega)]; rfl
  have e2 : (nI b).toNatClampNeg = b := nI_c (by omega)
  refine zO_at [0, 1] hd rfl (k126_0 (fun _ => ?_) (fun _ _ => k126_56 ?_) (fun _ z => absurd (by rw [e1, e2, h37]; decide) z) (fun z => absurd c2 z))
  · rw [e1, nI_t (by omega)]; omega
  · rw [e1]
theorem m_endW (hd : 9 ≤ d) (hz : Rz L μ0 μ) (h : RQ μ T Q W (b + 1)) (hb : b < 40) (h37 : μ 37 b = nI wr) (hM : MO T N ν Q) (lr : Lv T N r) (lw : Lv T N wr) (hh : th (tJ T ν r) ≤ 700) :
    zO X d 126 [.inr 22, .inl (nI r)] μ (fun μ' => FK b μ μ' ∧ Rz L μ0 μ' ∧ (tJ T ν r = tJ T ν wr ∧ RQ μ' T Q W b ∨ tJ T ν r ≠ tJ T ν wr ∧ μ' 22 29 = 1)) := by
  have hq := h
  obtain ⟨hR, hE, _, c1, c2⟩ := h
  have hl6 := hR.2.1
  have lw1 := lw.1
  have e1 : μ 22 27 - 1 = nI b := by rw [c1, ← nI_one, nI_sub (by omega)]; rfl
  have e2 : (nI b).toNatClampNeg = b := nI_c (by omega)
  have bb : 0 ≤ (nI b).toInt ∧ (nI b).toInt < ((40 : Nat) : Int) := by rw [nI_t (by omega)]; omega
  have nn : ¬ μ 37 (μ 22 27 - 1).toNatClampNeg < 0 := by rw [e1, e2, h37]; exact nI_pos (by omega)
  refine zO_at [0, 1] (by omega) rfl (k126_0 (fun _ => by rw [e1]; exact bb) (fun _ z => absurd z nn) (fun _ _ => ⟨_, m_solveM (by omega) hR hE hM, fun r' μ1 hr => ?_⟩) (fun z => absurd c2 z))
  obtain ⟨hf, rfl, rt, hS⟩ := hr
  have g37 : μ1 37 b = nI wr := by rw [hf.1 37 (by decide) (by decide)]; exact h37
  rw [e1]
  refine k126_28 (fun z => absurd z zn_10) (fun _ => bb) (fun _ => ?_)
  rw [e2, g37]
  refine ⟨_, m_areEq (by omega) (RP_SF hR hf) hM hS lr lw hh, fun r' μ2 hr => ?_⟩
  obtain ⟨hf2, hr⟩ := hr
  have hT := Tf_tr (L := L) (Tf_SF hf) (Tf_SF hf2.1)
  have hq2 := Tf_RQ hT (RP_SF (RP_SF hR hf) hf2.1) hq
  have hz2 := Tf_Rz hT hz
  have hk2 : FK b μ μ2 := Tf_FK hT
  have c27 : ∀ v : Int32, (zm_up μ2 22 29 v) 22 27 - 1 = nI b := fun v => by rw [zm_up_at, if_neg (by omega), hq2.2.2.2.1, ← nI_one, nI_sub (by omega)]; rfl
  have rest : ∀ v : Int32, (v = 0 ∨ v = 1) → (v = 0 → tJ T ν r = tJ T ν wr) → (v = 1 → tJ T ν r ≠ tJ T ν wr) → zV X (d - 1) 126 53 [(0, .inr 22), (1, .inl (nI r))] [.inl v, .inr 22] μ2 (zpo (fun μ' => FK b μ μ' ∧ Rz L μ0 μ' ∧ (tJ T ν r = tJ T ν wr ∧ RQ μ' T Q W b ∨ tJ T ν r ≠ tJ T ν wr ∧ μ' 22 29 = 1))) := by
    intro v hv h0 h1
    refine k126_53 hv (k126_56 ?_)
    rw [c27]
    refine ⟨FK_tr hk2 (FK_tr FK_22 (FK_tr FK_22 FK_22)), Rz_22 (Rz_22 (Rz_22 hz2 (by omega)) (by omega)) (by omega), ?_⟩
    rcases hv with rfl | rfl
    · exact Or.inl ⟨h0 rfl, RQ_27 (RQ_28 (RQ_29 hq2))⟩
    · refine Or.inr ⟨h1 rfl, ?_⟩
      rw [zm_up_at, if_neg (by omega), zm_up_at, if_neg (by omega), zm_up_at, if_pos ⟨rfl, rfl⟩]
  rcases hr with ⟨he, rfl⟩ | ⟨he, rfl⟩
  · exact k126_45 (fun _ => rest 0 (Or.inl rfl) (fun _ => he) (fun z => absurd z (by decide))) (fun z => absurd z zn_10)
  · exact k126_45 (fun z => absurd rfl z) (fun _ => k126_48 (rest 1 (Or.inr rfl) (fun z => absurd z zn_10) (fun _ => he)))
theorem RBd_find (hb : b < 39) (hw : tw T) (h : RBd X dr L μ0 N ν n T Q W b p (-1) 0 0 (fun _ _ => True) o) : RFd X dr L μ0 N ν n T Q W b p o := by
  intro μ P hz hq hP
  refine h _ T P ⟨bgn_Rz hz, bgn_RQ hq, Rn_rf hw, bgn_Fz hq, trivial⟩ ⟨fun ho μ' h1 h2 h3 => hP μ' (FK_tr bgn_FK h1) h2 (Or.inl ⟨ho, h3⟩), fun t ho μ' T' r h1 h2 h3 h4 h5 h6 h7 => ?_⟩
  refine zO_mono (m_endF (by omega) h4 (by omega) h5) (Nat.le_refl _) (fun μ2 e => ?_)
  subst e
  refine hP _ (FK_tr bgn_FK (FK_tr h1 (FK_tr FK_22 FK_22))) (Rz_22 (Rz_22 h2 (by omega)) (by omega)) (Or.inr ⟨t, T', ho, h3, RQ_27 (RQ_28 h4), r, ?_, h6, h7⟩)
  rw [zm_up_at, if_neg (by omega), zm_up_at, if_pos ⟨rfl, rfl⟩]
theorem RBd_is (hb : b < 39) (hw : tw T) (hN : ∀ i, N i → i < T.length) (h : RBd X dr L μ0 N ν n T Q W b p (nI wr) 0 0 (fun _ _ => True) o) (hM : MO T N ν Q) (lw : Lv T N wr) (hr : ∀ t, o = some t → th t ≤ 700) (hok : ok = true ↔ o = some (tJ T ν wr)) : RIs X dr L μ0 n T Q W b p wr ok := by
  intro μ P hz hq hP
  have hno : ok ≠ true → ok = false := fun z => by cases ok <;> simp_all
  refine h _ T P ⟨bgn_Rz hz, bgn_RQ hq, Rn_rf hw, bgn_Fz hq, trivial⟩ ⟨fun ho μ' h1 h2 h3 => hP μ' (FK_tr bgn_FK h1) h2 (Or.inl ⟨hno (fun z => ?_), h3⟩), fun t ho μ' T' r h1 h2 h3 h4 h5 h6 h7 => ?_⟩
  · have h5 := hok.mp z
    rw [ho] at h5
    exact absurd h5 (by simp)
  · have e0 : tJ T' ν wr = tJ T ν wr := Rx_tJ hw h3.1 lw.1
    refine zO_mono (m_endW (by omega) h2 h4 (by omega) h5 (MO_Rx hw h3.1 hN hM) h6 (Rx_Lv hw h3.1 lw) (by rw [h7]; exact hr t ho)) (Nat.le_refl _) (fun μ2 hx => ?_)
    obtain ⟨f1, f2, ⟨e, f3⟩ | ⟨e, f3⟩⟩ := hx
    · exact hP _ (FK_tr bgn_FK (FK_tr h1 f1)) f2 (Or.inr ⟨hok.mpr (by rw [ho, ← e0, ← e, h7]), T', h3, f3⟩)
    · refine hP _ (FK_tr bgn_FK (FK_tr h1 f1)) f2 (Or.inl ⟨hno (fun z => ?_), f3⟩)
      have h8 := hok.mp z
      rw [ho, Option.some.injEq] at h8
      rw [h7, h8, e0] at e
      exact e rfl

theorem RBd_go (hb : b < 39) (hs : s < 99) (h : TT L μ0 e p u m k ns) (hC : St8 b C) (H : ∀ (μ : zm_u) (T : tT) (P : Int32 → zm_u → Prop), GF μ b p s k → GG L μ0 Tb T Q W b p wt (s + 1) c C (zm_up μ 38 b (nI (s + 1))) → Kt X dr L μ0 N ν n Tb Q W b wt o P (zm_up μ 38 b (nI (s + 1))) → SA μ0 μ → μ 22 19 = nI W.length → zO X dr 136 [.inr 22] μ (HC X dr P)) : RBd X dr L μ0 N ν n Tb Q W b p wt s c C o := by
  intro μ T P hG hK
  obtain ⟨hz, hq, hn, hF, hc⟩ := hG
  obtain ⟨f1, f2, f3, f4, f5⟩ := hF
  have hop : μ 27 p = nI k := by rw [(Rz_SA hz).2.2.2.1]; exact h.2.1
  have hk : FK b μ (zm_up μ 38 b (nI (s + 1))) := FK_row (Nat.le_refl _)
  refine m_it hq.2.2.2.1 (by omega) hq.2.2.2.2 (H μ T P ⟨hq.2.2.2.1, by omega, f1, by have := h.1; omega, f3, by omega, hop⟩ ⟨Rz_row hz (by omega), RQ_row hq (by omega), hn, ⟨?_, ?_, ?_, ?_, ?_⟩, hC T μ _ hc⟩ (Kt_mono hK hk) (Rz_SA hz) hq.2.2.1.1)
  · rw [zm_up_row (by decide)]; exact f1
  · rw [zm_up_row (by decide)]; exact f2
  · rw [zm_up_at, if_pos ⟨rfl, rfl⟩]
  · rw [zm_up_row (by decide)]; exact f4
  · rw [zm_up_row (by decide)]; exact f5

theorem st_find (hd : 6 ≤ d) (hb : b < 38) (h : TT L μ0 e p u j k ns) (hi : ns[i]? = some m) {x : Int32} (hx : x = nI i) (hSt : Stb b C0)
    (hRF : RFd X dr L μ0 N ν m T Q W (b + 1) (p + 1 + (ns.take i).sum) o1) (hnone : o1 = none → o = none) (hsome : ∀ t, o1 = some t → RBd X dr L μ0 N ν n Tb Q W b p wt s c1 (fun T μ => C0 T μ ∧ Fo N ν t T μ) o) (hc1 : c + 11 * m ≤ c1)
    (hG : GG L μ0 Tb T Q W b p wt s c C0 μ) (hK : Kt X dr L μ0 N ν n Tb Q W b wt o P μ) : zO X d 128 [.inr 22, .inl (nI p), .inl x] μ (HC X dr P) := by
  subst hx
  obtain ⟨hz, hq, hn, hF, hc⟩ := hG
  have hs := Rz_SA hz
  have hil := (List.getElem?_eq_some_iff.mp hi).1
  have hak : ns.length ≤ 9 := by rw [h.2.2.2.2.2.1]; exact ar_le _ _
  refine zO_at [0, 1, 2] (by omega) rfl (k128_0 ⟨_, m_part (m := 0) (L := L) (e := e) (u := u) (by omega) h.1.2.2.2 (by have := h.1; have := h.2.2.2.2.2.2.1; omega) (by omega) (Tl_SA hs h.2.2.2.2.2.2.2) (by omega), fun r μ1 hr => ?_⟩)
  obtain ⟨rfl, rfl⟩ := hr
  refine k128_7 ⟨_, m_begin (by omega) hq.2.2.2.1 (by omega) rfl, fun μ2 hr => k128_11 ?_⟩
  subst hr
  refine hRF μ1 P hz hq (fun μ' h1 h2 h3 => ?_)
  rcases h3 with ⟨h3, h4⟩ | ⟨t, T', h3, h4, h5, h6⟩
  · exact hK.1 (hnone h3) μ' (FK_le h1 (by omega)) h2 h4
  · exact hsome t h3 μ' T' P ⟨h2, h5, Rn_tr hn h4 hc1, FK_Fz h1 (by omega) hF, hSt _ _ _ _ (RQ_len hq).2 h4.1 h1 hc, h6⟩ (Kt_mono hK (FK_le h1 (by omega)))
theorem st_is (hd : 6 ≤ d) (hb : b < 38) (h : TT L μ0 e p u j k ns) (hi : ns[i]? = some m) {x y : Int32} (hx : x = nI i) (hy : y = nI wr) (hSt : Stb b C0)
    (hRF : RIs X dr L μ0 m T Q W (b + 1) (p + 1 + (ns.take i).sum) wr ok) (hnone : ok = false → o = none) (hsome : ok = true → RBd X dr L μ0 N ν n Tb Q W b p wt s c1 C0 o) (hc1 : c + 11 * m ≤ c1)
    (hG : GG L μ0 Tb T Q W b p wt s c C0 μ) (hK : Kt X dr L μ0 N ν n Tb Q W b wt o P μ) : zO X d 127 [.inr 22, .inl (nI p), .inl x, .inl y] μ (HC X dr P) := by
  subst hx hy
  obtain ⟨hz, hq, hn, hF, hc⟩ := hG
  have hs := Rz_SA hz
  have hil := (List.getElem?_eq_some_iff.mp hi).1
  have hak : ns.length ≤ 9 := by rw [h.2.2.2.2.2.1]; exact ar_le _ _
  refine zO_at [0, 1, 2, 3] (by omega) rfl (k127_0 ⟨_, m_part (m := 0) (L := L) (e := e) (u := u) (by omega) h.1.2.2.2 (by have := h.1; have := h.2.2.2.2.2.2.1; omega) (by omega) (Tl_SA hs h.2.2.2.2.2.2.2) (by omega), fun r μ1 hr => ?_⟩)
  obtain ⟨rfl, rfl⟩ := hr
  refine k127_7 ⟨_, m_begin (by omega) hq.2.2.2.1 (by omega) rfl, fun μ2 hr => k127_11 ?_⟩
  subst hr
  refine hRF μ1 P hz hq (fun μ' h1 h2 h3 => ?_)
  rcases h3 with ⟨h3, h4⟩ | ⟨h3, T', h4, h5⟩
  · exact hK.1 (hnone h3) μ' (FK_le h1 (by omega)) h2 h4
  · exact hsome h3 μ' T' P ⟨h2, h5, Rn_tr hn h4 hc1, FK_Fz h1 (by omega) hF, hSt _ _ _ _ (RQ_len hq).2 h4.1 h1 hc⟩ (Kt_mono hK (FK_le h1 (by omega)))
end RFS

theorem bit_5 : ∀ a, a < 64 → ∀ j, j < 6 → pop6 (a % 2 ^ (j + 1)) = pop6 (a % 2 ^ j) + a / 2 ^ j % 2 := by decide +kernel
theorem bit_6 : ∀ a, a < 64 → a % 2 ^ 6 = a ∧ pop6 (a % 2 ^ 0) = 0 := by decide +kernel
theorem bit_7 : ∀ a, a < 64 → ∀ j, j < 6 → a / 2 ^ j % 2 < 2 := by decide +kernel
def sg7 (ns : List Nat) (a j : Nat) : Nat := (ns.take (1 + pop6 (a % 2 ^ j))).sum
def RQd (μ : zm_u) (T : tT) (Q : List (Nat × Nat)) (W : List Nat) (b : Nat) : Prop := RP μ T ∧ (Q.length ≤ 60 ∧ ∀ (j a b : Nat), Q[j]? = some (a, b) → μ 33 j = nI a ∧ μ 34 j = nI b) ∧ (W.length ≤ 60 ∧ ∀ i w, W[i]? = some w → μ 35 i = nI w) ∧ μ 22 27 = nI b ∧ μ 22 29 = 0
def KI (X : zm_T) (dr L : Nat) (μ0 : zm_u) (n : Nat) (Tb : tT) (Q : List (Nat × Nat)) (W : List Nat) (b : Nat) (ok : Bool) (P : Int32 → zm_u → Prop) (μ : zm_u) : Prop :=
  (ok = false → ∀ μ', FK b μ μ' → Rz L μ0 μ' → μ' 22 29 = 1 → HC X dr P μ') ∧ (ok = true → ∀ μ' T', FK b μ μ' → Rz L μ0 μ' → Rn (11 * n) Tb T' → RQ μ' T' Q W b → HC X dr P μ')
def NG (L : Nat) (μ0 : zm_u) (N : Nat → Prop) (ν : Nat → Tr) (Mt : Tr) (n : Nat) (Tb : tT) (Q : List (Nat × Nat)) (W : List Nat) (b p wr : Nat) (ns : List Nat) (a j s : Nat) (T : tT) (μ : zm_u) : Prop :=
  Rz L μ0 μ ∧ RQd μ T Q W (b + 1) ∧ Rx Tb T ∧ T.length + 11 * (ns.sum - sg7 ns a j) + crm (11 + j) ≤ Tb.length + 11 * n ∧ Fz μ b p (nI wr) s W.length Q.length ∧ Hd N ν b Mt T μ ∧ μ 40 b = nI (11 + j)
section JC1
variable {X : zm_T} {d d' dc dr L n i j k a b e h hh hf p u q res m m0 c v w ip ic r s wc wr z : Nat} {μ μ' μ0 μ1 μs : zm_u} {T T' T1 T0 Tb Tc Tc1 Tc2 : tT} {D D' : Nat → Option Nat} {S S' : Nat → Tr} {V V' W W' : List Nat} {N N' : Nat → Prop} {ν ν' : Nat → Tr} {Q Q' : List (Nat × Nat)} {x y part : Int32} {ok op : Bool} {Mt : Tr} {ns : List Nat} {P : Int32 → zm_u → Prop}
theorem RQd_of (h : RQ μ T Q' W' b) (hQ : ∃ q, Q' = Q ++ q) (hW : ∃ w, W' = W ++ w) : RQd μ T Q W b := by
  obtain ⟨h1, ⟨a1, a2, a3⟩, ⟨b1, b2, b3⟩, c1, c2⟩ := h
  obtain ⟨q, rfl⟩ := hQ
  obtain ⟨w, rfl⟩ := hW
  simp only [List.length_append] at a2 b2
  exact ⟨h1, ⟨by omega, fun j a b hj => a3 j a b (by rw [List.getElem?_append_left (List.getElem?_eq_some_iff.mp hj).1]; exact hj)⟩, ⟨by omega, fun j w hj => b3 j w (by rw [List.getElem?_append_left (List.getElem?_eq_some_iff.mp hj).1]; exact hj)⟩, c1, c2⟩
theorem RQd_RQ (h : RQd μ T Q W b) : RQ (zm_up (zm_up μ 22 19 (nI W.length)) 22 17 (nI Q.length)) T Q W b := by
  obtain ⟨⟨r1, r2, r3, r4⟩, ⟨a2, a3⟩, ⟨b2, b3⟩, c1, c2⟩ := h
  have r : ∀ c, c ≠ 22 → (zm_up (zm_up μ 22 19 (nI W.length)) 22 17 (nI Q.length)) c = μ c := fun c hc => by rw [zm_up_row hc, zm_up_row hc]
  have r0 : ∀ i, i ≠ 19 → i ≠ 17 → (zm_up (zm_up μ 22 19 (nI W.length)) 22 17 (nI Q.length)) 22 i = μ 22 i := fun i h1 h2 => by rw [zm_up_at, if_neg (by omega), zm_up_at, if_neg (by omega)]
  refine ⟨⟨by rw [r0 1 (by decide) (by decide)]; exact r1, r2, r3, ?_⟩, ⟨by rw [zm_up_at, if_pos ⟨rfl, rfl⟩], a2, ?_⟩, ⟨by rw [zm_up_at, if_neg (by omega), zm_up_at, if_pos ⟨rfl, rfl⟩], b2, ?_⟩, by rw [r0 27 (by decide) (by decide)]; exact c1, by rw [r0 29 (by decide) (by decide)]; exact c2⟩
  · rw [r 23 (by decide), r 24 (by decide), r 25 (by decide)]; exact r4
  · rw [r 33 (by decide), r 34 (by decide)]; exact a3
  · rw [r 35 (by decide)]; exact b3
theorem RQd_22 {v : Int32} (h : RQd μ T Q W b) (hi : i = 17 ∨ i = 19 ∨ i = 28) : RQd (zm_up μ 22 i v) T Q W b := by
  obtain ⟨⟨r1, r2, r3, r4⟩, ⟨a2, a3⟩, ⟨b2, b3⟩, c1, c2⟩ := h
  have r : ∀ c, c ≠ 22 → (zm_up μ 22 i v) c = μ c := fun c hc => zm_up_row hc
  have r0 : ∀ k, k ≠ i → (zm_up μ 22 i v) 22 k = μ 22 k := fun k hk => by rw [zm_up_at, if_neg (by omega)]
  refine ⟨⟨by rw [r0 1 (by omega)]; exact r1, r2, r3, ?_⟩, ⟨a2, ?_⟩, ⟨b2, ?_⟩, by rw [r0 27 (by omega)]; exact c1, by rw [r0 29 (by omega)]; exact c2⟩
  · rw [r 23 (by decide), r 24 (by decide), r 25 (by decide)]; exact r4
  · rw [r 33 (by decide), r 34 (by decide)]; exact a3
  · rw [r 35 (by decide)]; exact b3
theorem up29_0 (h : μ 22 29 = 0) : zm_up μ 22 29 0 = μ := by
  funext c j
  rw [zm_up_at]
  split
  · rename_i z
    rw [z.1, z.2]
    exact h.symm
  · rfl
theorem Fz_22 {v : Int32} {nW nQ : Nat} (h : Fz μ b p x s nW nQ) : Fz (zm_up μ 22 i v) b p x s nW nQ := by
  obtain ⟨a1, a2, a3, a4, a5⟩ := h
  exact ⟨by rw [zm_up_row (by decide)]; exact a1, by rw [zm_up_row (by decide)]; exact a2, by rw [zm_up_row (by decide)]; exact a3, by rw [zm_up_row (by decide)]; exact a4, by rw [zm_up_row (by decide)]; exact a5⟩
theorem KI_mono (h : KI X dr L μ0 n Tb Q W b ok P μ) (hf : FK b μ μ1) : KI X dr L μ0 n Tb Q W b ok P μ1 := ⟨fun z μ' h1 => h.1 z μ' (FK_tr hf h1), fun z μ' T' h1 => h.2 z μ' T' (FK_tr hf h1)⟩
theorem sg_le : sg7 ns a j ≤ ns.sum := by
  unfold sg7
  conv => rhs; rw [← List.take_append_drop (1 + pop6 (a % 2 ^ j)) ns]
  rw [List.sum_append]
  omega
theorem sg_next (ha : a < 64) (hj : j < 6) (hb : a / 2 ^ j % 2 = 0) : sg7 ns a (j + 1) = sg7 ns a j := by
  unfold sg7
  rw [bit_5 a ha j hj, hb, Nat.add_zero]
theorem sg_bit (ha : a < 64) (hj : j < 6) (hb : a / 2 ^ j % 2 ≠ 0) (hz : ns[1 + pop6 (a % 2 ^ j)]? = some z) : sg7 ns a (j + 1) = sg7 ns a j + z := by
  unfold sg7
  have h1 : a / 2 ^ j % 2 = 1 := by have := bit_7 a ha j hj; omega
  rw [bit_5 a ha j hj, h1, ← Nat.add_assoc]
  have hl := (List.getElem?_eq_some_iff.mp hz).1
  rw [List.take_succ_eq_append_getElem hl, List.sum_append, List.getElem?_eq_getElem hl] at *
  simp only [Option.some.injEq] at hz
  simp [hz]
theorem com_crm (hj : j < 6) : com (11 + j) + crm (11 + (j + 1)) ≤ crm (11 + j) := by
  rcases (show j = 0 ∨ j = 1 ∨ j = 2 ∨ j = 3 ∨ j = 4 ∨ j = 5 by omega) with rfl | rfl | rfl | rfl | rfl | rfl <;> decide

theorem cs_all (hLT : LT L res T0) (hC : CPc L T0 Tc D S V h) (hi : Pip Tc D S ip) (hh1 : th (cT Tc S ip) + 1 ≤ h) (hj : j < 6) (hl : Tc.length + crm (11 + j) ≤ 466) (hV : V.length + 3 ≤ 16) : Cclosed X L res T0 μ0 (11 + j) ip Tc D S V ∨ Copen X L res T0 μ0 (11 + j) ip Tc D S V (h + 1) := by
  rcases (show j = 0 ∨ j = 1 ∨ j = 2 ∨ j = 3 ∨ j = 4 ∨ j = 5 by omega) with rfl | rfl | rfl | rfl | rfl | rfl
  · exact cs_lit hLT hC hi (Or.inl rfl) hl hV
  · exact cs_lit hLT hC hi (Or.inr rfl) hl hV
  · exact cs_sum hLT hC hi hl hV
  · exact Or.inr (cs_when hLT hC hi hh1 hl hV)
  · exact cs_duo hC hi hh1 hl hV
  · exact Or.inr (cs_left hC hi hh1 hl hV)

theorem nc_it (hdr : 6 ≤ dr) (hb : b < 38) (hT : TT L μ0 e p u q 17 ns) (hG : NG L μ0 N ν Mt n Tb Q W b p wr ns a j s T μ) (hs2 : 2 ≤ s) (hs : s < 90) (hwr : wr < 900)
    (H : ∀ μ1, FK b μ μ1 → NG L μ0 N ν Mt n Tb Q W b p wr ns a j (s + 1) T μ1 → zV X (dr - 3) 134 2 [(0, .inr 22), (1, .inl (nI b)), (2, .inl (nI p)), (3, .inl 0)] [] μ1 (zpo (HC X dr P))) : HC X dr P μ := by
  obtain ⟨hz, hq, hx, hlen, ⟨f1, f2, f3, f4, f5⟩, hH, h40⟩ := hG
  obtain ⟨q1, q2, q3, q4, q5⟩ := hq
  have hop : μ 27 p = nI 17 := by rw [(Rz_SA hz).2.2.2.1]; exact hT.2.1
  have cb : (nI b).toNatClampNeg = b := nI_c (by omega)
  have bf : 0 ≤ (nI b).toInt ∧ (nI b).toInt < ((40 : Nat) : Int) := by rw [nI_t (by omega)]; omega
  refine m_it q4 (by omega) q5 (go_17 (s := s) (by omega) ⟨q4, by omega, f1, by have := hT.1; omega, f3, by omega, hop⟩ ?_)
  have e37 : (zm_up μ 38 b (nI (s + 1))) 37 (nI b).toNatClampNeg = nI wr := by rw [cb, zm_up_row (by decide)]; exact f2
  have nn : 0 ≤ (zm_up μ 38 b (nI (s + 1))) 37 (nI b).toNatClampNeg := by rw [e37]; exact nI_ge0 (by omega)
  have s0 : ¬ nI s = 0 := by rw [show (0 : Int32) = nI 0 from rfl, nI_inj (by omega) (by omega)]; omega
  have s1 : ¬ nI s = 1 := by rw [show (1 : Int32) = nI 1 from rfl, nI_inj (by omega) (by omega)]; omega
  have e29 : (zm_up μ 38 b (nI (s + 1))) 22 29 = 0 := by rw [zm_up_row (by decide)]; exact q5
  refine zO_at [0, 1, 2, 3] (by omega) rfl (k139_0 bf (fun _ _ _ => k139_57 (fun z => absurd e29 z) (fun _ => ⟨HC X dr P, zO_at [0, 1, 2] (by omega) rfl (k134_0 (H _ (FK_row (Nat.le_refl _)) ?_)), fun _ z => k139_70 z⟩)) (fun _ _ z => absurd z s1) (fun _ z => absurd z s0) (fun z => absurd nn z) (fun z => absurd nn z))
  have r : ∀ c, c ≠ 38 → (zm_up μ 38 b (nI (s + 1))) c = μ c := fun c hc => zm_up_row hc
  refine ⟨Rz_row hz (by omega), ⟨?_, ⟨q2.1, ?_⟩, ⟨q3.1, ?_⟩, by rw [r 22 (by decide)]; exact q4, by rw [r 22 (by decide)]; exact q5⟩, hx, hlen, ⟨by rw [r 36 (by decide)]; exact f1, by rw [r 37 (by decide)]; exact f2, by rw [zm_up_at, if_pos ⟨rfl, rfl⟩], by rw [r 41 (by decide)]; exact f4, by rw [r 42 (by decide)]; exact f5⟩, Hd_38 hH, by rw [r 40 (by decide)]; exact h40⟩
  · obtain ⟨a1, a2, a3, a4⟩ := q1
    refine ⟨by rw [r 22 (by decide)]; exact a1, a2, a3, ?_⟩
    rw [r 23 (by decide), r 24 (by decide), r 25 (by decide)]; exact a4
  · rw [r 33 (by decide), r 34 (by decide)]; exact q2.2
  · rw [r 35 (by decide)]; exact q3.2
end JC1

noncomputable def rowAt (T : List Nat) (x : Int32) : Int32 := if 0 ≤ x.toInt then (match T[x.toInt.toNat]? with
  | some y => nI y
  | none => -1) else -1
def o_out (o : Int32) : Int32 := if o = -1 then 1 else if o = -2 then 2 else 0
def CA (μ μ' : zm_u) : Prop := ∀ c, c ≠ 4 → c ≠ 5 → ¬ (15 ≤ c ∧ c ≤ 21) → μ' c = μ c
def RA (μ μ' : zm_u) : Prop := (∀ c, c ≠ 22 → ¬ (49 ≤ c ∧ c ≤ 58) → μ' c = μ c) ∧ ∀ i, i ≠ 27 → i ≠ 37 → i ≠ 41 → i ≠ 42 → i ≠ 43 → i ≠ 50 → i ≠ 51 → i ≠ 52 → i ≠ 53 → i ≠ 54 → i ≠ 55 → μ' 22 i = μ 22 i
section RW2
variable {X : zm_T} {d dr L : Nat} {μ μ' μ0 μ1 : zm_u} {vs : List vE} {W R ps T : List Nat} {c i v n k w : Nat} {num x : Int32} {st : sT}
theorem rowAt_no (h : T.length ≤ 200) (hx : x.toInt < 0 ∨ 199 < x.toInt) : rowAt T x = -1 := by
  unfold rowAt
  split
  · rw [List.getElem?_eq_none (by omega)]
  · rfl
theorem rowAt_nI (hk : k < 1000) : rowAt T (nI k) = (match T[k]? with
  | some y => nI y
  | none => -1) := by
  unfold rowAt
  rw [nI_t (by omega), if_pos (by omega)]
  simp
theorem RV_58 (h : RV μ vs) (hf : ∀ c, c ≠ 58 → μ' c = μ c) : RV μ' vs := by
  obtain ⟨h1, h2⟩ := h
  refine ⟨by rw [hf 22 (by decide)]; exact h1, fun i w num ps hi => ?_⟩
  rw [hf 49 (by decide), hf 50 (by decide), hf 51 (by decide)]
  exact h2 i w num ps hi
theorem m_row_inner (hV : VW vs) (hv : vs[v]? = some (w, num, ps)) (hvl : vs.length ≤ 600) {P : Int32 → zm_u → Prop} {a b : Int32} (hl : W.length ≤ 1000) (hR : RV μ vs)
    (hP : ∀ μ', (∀ c, c ≠ 58 → μ' c = μ c) → SP 58 μ' (ps ++ W) → zV X d 157 34 [(0, .inr 22), (1, .inl a), (2, .inl (nI (ps ++ W).length)), (3, .inl b)] [] μ' (zpi P)) :
    ∀ (k : Nat), k ≤ 3 → ∀ μ1, (∀ c, c ≠ 58 → μ1 c = μ c) → SP 58 μ1 (ps.drop k ++ W) → zV X d 157 63 [(0, .inr 22), (1, .inl a), (2, .inl (nI (ps.drop k ++ W).length)), (3, .inl b), (4, .inl (nI v)), (5, .inl (nI k - 1))] [] μ1 (zpi P) := by
  obtain ⟨z1, z2, z3, z4⟩ := hV v w num ps hv
  have hp3 : ps.length ≤ 3 := by rw [z3]; exact vpn_le _
  have hvl2 := (List.getElem?_eq_some_iff.mp hv).1
  intro k
  induction k with
  | zero =>
    intro hk μ1 hf hS
    exact k157_63 (fun _ => hP μ1 hf hS) (fun z => absurd (by decide) z) (fun z => absurd (by decide) z) (fun z => absurd (by decide) z) (fun z => absurd (by decide) z) (fun z => absurd (by decide) z)
  | succ k ih =>
    intro hk μ1 hf hS
    rw [nI_pr]
    have e1 : (3 : Int32) * nI v + nI k = nI (3 * v + k) := by rw [nI_3, nI_add]
    have c1 : ((3 : Int32) * nI v + nI k).toNatClampNeg = 3 * v + k := by rw [e1, nI_c (by omega)]
    have bb : 0 ≤ ((3 : Int32) * nI v + nI k).toInt ∧ ((3 : Int32) * nI v + nI k).toInt < ((3900 : Nat) : Int) := by rw [e1, nI_t (by omega)]; omega
    have x51 := RV_51 (RV_58 hR hf) hv (j := k) (by omega)
    have hdl : (ps.drop (k + 1) ++ W).length ≤ 1003 := by rw [List.length_append, List.length_drop]; omega
    refine k157_63 (fun z => absurd z (nI_pos (by omega))) (fun _ => bb) (fun _ z => k157_104 ?_) (fun _ _ => bb) (fun _ _ => by rw [nI_t (by omega)]; omega) (fun _ z => k157_104 ?_)
    · rw [c1, x51] at z
      have hjl : ps.length ≤ k := by
        by_cases hjl : ps.length ≤ k
        · exact hjl
        · obtain ⟨y, hy⟩ := ns_at (ns := ps) (j := k) (by omega)
          have := z4 y (List.mem_of_getElem? hy)
          rw [gp_at hy] at z
          exact absurd z (nI_pos (by omega))
      have e2 : ps.drop (k + 1) = ps.drop k := by rw [List.drop_eq_nil_of_le (by omega), List.drop_eq_nil_of_le (by omega)]
      rw [e2] at hS ⊢
      rw [nI_m]
      exact ih (by omega) μ1 hf hS
    · rw [c1, x51] at z
      have hjl : k < ps.length := by
        by_cases hjl : k < ps.length
        · exact hjl
        · rw [gp_no (by omega)] at z
          exact absurd neg_m1 z
      obtain ⟨y, hy⟩ := ns_at (ns := ps) (j := k) hjl
      have e2 : ps.drop k ++ W = y :: (ps.drop (k + 1) ++ W) := by rw [drop_at hy]; rfl
      rw [c1, x51, gp_at hy, nI_c (by omega), nI_m, ← nI_one, nI_add]
      have := ih (by omega) (zm_up μ1 58 (ps.drop (k + 1) ++ W).length (nI y)) (fun c hc => by rw [zm_up_row hc]; exact hf c hc) (by rw [e2]; exact SP_push hS)
      rw [e2] at this
      exact this
theorem m_row_loop (hV : VW vs) (hvl : vs.length ≤ 600) {P : Int32 → zm_u → Prop} {k : Nat} (hk : k < 200) (hR : RV μ vs) :
    ∀ (r n : Nat) (W : List Nat), n + r = k → W.length ≤ 1 + 2 * n → Wl vs W → (∀ μ', (∀ c, c ≠ 58 → μ' c = μ c) → P (match (wr vs (r + 1) W)[r]? with | some y => nI y | none => -1) μ') → ∀ μ1, (∀ c, c ≠ 58 → μ1 c = μ c) → SP 58 μ1 W → zV X d 157 34 [(0, .inr 22), (1, .inl (nI k)), (2, .inl (nI W.length)), (3, .inl (nI n))] [] μ1 (zpi P) := by
  intro r
  induction r with
  | zero =>
    intro n W hn hl hW hP μ1 hf hS
    rcases W with _ | ⟨v, W⟩
    · exact k157_34 (fun _ => hP μ1 hf) (fun z => absurd (by decide) z) (fun z => absurd (by decide) z) (fun z => absurd (by decide) z)
    · have hlen : (v :: W).length = W.length + 1 := rfl
      rw [hlen] at hl ⊢
      have n0 : ¬ nI (W.length + 1) ≤ 0 := nI_nle (by omega) (by omega)
      have e8 : nI (W.length + 1) + (-1) = nI W.length := by rw [nI_m, nI_pr]
      obtain ⟨p1, p2⟩ := SP_pop hS
      obtain rfl : n = k := by omega
      refine k157_34 (fun z => absurd z n0) (fun _ => by rw [e8, nI_t (by omega)]; omega) (fun _ z => absurd rfl z) (fun _ _ => ?_)
      rw [e8, nI_c (by omega), p1]
      exact hP μ1 hf
  | succ r ih =>
    intro n W hn hl hW hP μ1 hf hS
    rcases W with _ | ⟨v, W⟩
    · exact k157_34 (fun _ => hP μ1 hf) (fun z => absurd (by decide) z) (fun z => absurd (by decide) z) (fun z => absurd (by decide) z)
    · have hlen : (v :: W).length = W.length + 1 := rfl
      rw [hlen] at hl ⊢
      have n0 : ¬ nI (W.length + 1) ≤ 0 := nI_nle (by omega) (by omega)
      have e8 : nI (W.length + 1) + (-1) = nI W.length := by rw [nI_m, nI_pr]
      obtain ⟨p1, p2⟩ := SP_pop hS
      have nk : ¬ nI n = nI k := by rw [nI_inj (by omega) (by omega)]; omega
      have hvl2 := hW v (List.mem_cons_self ..)
      obtain ⟨⟨w, num, ps⟩, hv⟩ : ∃ z, vs[v]? = some z := ⟨vs[v], List.getElem?_eq_getElem hvl2⟩
      obtain ⟨z1, z2, z3, z4⟩ := hV v w num ps hv
      have hp3 : ps.length ≤ 3 := by rw [z3]; exact vpn_le _
      refine k157_34 (fun z => absurd z n0) (fun _ => by rw [e8, nI_t (by omega)]; omega) (fun _ _ => ?_) (fun _ z => absurd z nk)
      rw [e8, nI_c (by omega), p1, ← nI_one, nI_add]
      have := m_row_inner (X := X) (d := d) (P := P) (a := nI k) (b := nI (n + 1)) (W := W) hV hv hvl (by omega) hR (fun μ' h1 h2 => ih (n + 1) (ps ++ W) (by omega) (by simp only [List.length_append]; omega) (Wl_app (fun x hx => by have := z4 x hx; omega) (fun x hx => hW x (List.mem_cons_of_mem _ hx))) (fun μ2 h3 => ?_) μ' h1 h2) 3 (by omega) μ1 hf (by rw [List.drop_eq_nil_of_le hp3]; exact p2)
      · rw [List.drop_eq_nil_of_le hp3] at this
        exact this
      · have e : (wr vs (r + 1 + 1) (v :: W))[r + 1]? = (wr vs (r + 1) (ps ++ W))[r]? := by
          show (v :: wr vs (r + 1) (vps vs v ++ W))[r + 1]? = _
          rw [List.getElem?_cons_succ, vps_at hv]
        have := hP μ2 h3
        rw [e] at this
        exact this
theorem m_partAt (hd : 1 ≤ d) (hV : VW vs) (hR : RV μ vs) (hvl : vs.length ≤ 600) (ho : μ 22 41 = 0) (ht : μ 22 42 = nI v) (hv : v < vs.length) : zI X d 157 [.inr 22, .inl x] μ (fun r μ' => (∀ c, c ≠ 58 → μ' c = μ c) ∧ r = rowAt (wr vs 200 [v]) x) := by
  have hW : Wl vs [v] := fun y hy => by simp at hy; omega
  have hlen := (wr_ok hV 200 [v] hW).2
  refine zI_at [0, 1] hd rfl (k157_0 (fun z => absurd ho z) (fun _ z => ⟨fun _ _ => rfl, ?_⟩) (fun _ _ _ => by decide) (fun _ z1 z2 => ?_) (fun _ _ z => ⟨fun _ _ => rfl, ?_⟩))
  · rw [Int32.lt_iff_toInt_lt] at z
    exact (rowAt_no hlen (Or.inl z)).symm
  · rw [Int32.lt_iff_toInt_lt] at z1
    rw [Int32.le_iff_toInt_le] at z2
    have hx0 : 0 ≤ x.toInt := by simpa using z1
    have hx1 : x.toInt ≤ 199 := z2
    obtain ⟨k, hk, rfl⟩ : ∃ k, k < 200 ∧ x = nI k := ⟨x.toInt.toNat, by omega, zn_toN hx0⟩
    have e0 : (0 : Int32).toNatClampNeg = 0 := rfl
    rw [e0, ht]
    refine m_row_loop hV hvl hk hR k 0 [v] (by omega) (by simp) hW (fun μ' h1 => ⟨h1, ?_⟩) _ (fun c hc => zm_up_row hc) ?_
    · exact SP_push (W := []) (fun j x hj => by simp at hj)
    · rw [rowAt_nI (by omega), wr_pre k 200 [v] hk]
  · rw [Int32.le_iff_toInt_le] at z
    exact (rowAt_no hlen (Or.inr (by
      have : ¬ x.toInt ≤ 199 := z
      omega))).symm
def EvS (μ : zm_u) : Prop := μ 4 6 = μ 22 43 ∧ ((¬ μ 22 41 = 0 ∧ μ 5 7 = 0) ∨ ∃ (vs : List vE) (v : Nat), VW vs ∧ CV μ vs ∧ RV μ vs ∧ v < vs.length ∧ μ 22 41 = 0 ∧ μ 22 42 = nI v ∧ WR μ (wr vs 200 [v]))
theorem WR_at (h : WR μ T) (hT : T.length ≤ 200) : (x < 0 ∨ ¬ (x < 0) ∧ μ 5 7 ≤ x) ∧ rowAt T x = -1 ∨ ¬ (x < 0) ∧ ¬ (μ 5 7 ≤ x) ∧ (0 ≤ x.toInt ∧ x.toInt < ((200 : Nat) : Int)) ∧ ∃ y, T[x.toNatClampNeg]? = some y ∧ μ 20 x.toNatClampNeg = nI y ∧ rowAt T x = nI y := by
  by_cases h0 : x < 0
  · left
    refine ⟨Or.inl h0, ?_⟩
    rw [Int32.lt_iff_toInt_lt] at h0
    exact rowAt_no hT (Or.inl h0)
  · have hx0 : 0 ≤ x.toInt := by rw [Int32.lt_iff_toInt_lt] at h0; simpa using h0
    by_cases h1 : μ 5 7 ≤ x
    · left
      refine ⟨Or.inr ⟨h0, h1⟩, ?_⟩
      rw [h.1, Int32.le_iff_toInt_le, nI_t (by omega)] at h1
      unfold rowAt
      rw [if_pos hx0, List.getElem?_eq_none (by omega)]
    · right
      have h2 := h1
      rw [h.1, Int32.le_iff_toInt_le, nI_t (by omega)] at h2
      obtain ⟨y, hy⟩ := ns_at (ns := T) (j := x.toInt.toNat) (by omega)
      refine ⟨h0, h1, ⟨hx0, by omega⟩, y, hy, h.2 _ y hy, ?_⟩
      unfold rowAt
      rw [if_pos hx0, hy]

theorem ev_value (hdc : 8 ≤ d) (h : EvS μ) : ∃ r0 : Int32, zI X d 9 [.inr 0, .inl x] μ (fun r μ' => r = r0 ∧ μ' = μ) ∧ zI X d 158 [.inr 22, .inl x] μ (fun r μ' => r = r0 ∧ ∀ c, c ≠ 58 → μ' c = μ c) := by
  obtain ⟨_, ⟨h1, h2⟩ | ⟨vs, v, hV, hc, hR, hv, ho, ht, hw⟩⟩ := h
  · refine ⟨-1, ?_, ?_⟩
    · refine zI_at [0, 1] (by omega) rfl (k9_0 ⟨_, zI_at [0, 1] (by omega) rfl (k66_0 ⟨fun r μ' => r = -1 ∧ μ' = μ, zI_at [0, 1] (by omega) rfl (k97_0 (fun _ => ⟨rfl, rfl⟩) (fun _ _ => ⟨rfl, rfl⟩) (fun z1 z2 => ?_) (fun z1 z2 => ?_)), fun r μ1 hr => k66_8 hr⟩), fun r μ1 hr => k9_8 hr⟩)
      · rw [h2, Int32.le_iff_toInt_le] at z2
        rw [Int32.lt_iff_toInt_lt] at z1
        simp at z1 z2
        omega
      · rw [h2, Int32.le_iff_toInt_le] at z2
        rw [Int32.lt_iff_toInt_lt] at z1
        simp at z1 z2
        omega
    · refine zI_at [0, 1] (by omega) rfl (k158_0 ⟨fun r μ' => r = -1 ∧ μ' = μ, zI_at [0, 1] (by omega) rfl (k157_0 (fun _ => ⟨rfl, rfl⟩) (fun z => absurd z h1) (fun z => absurd z h1) (fun z => absurd z h1) (fun z => absurd z h1)), fun r μ1 hr => ?_⟩)
      obtain ⟨rfl, rfl⟩ := hr
      exact k158_5 (fun z => absurd z (by decide)) (fun z => absurd z (by decide)) (fun _ => ⟨rfl, fun _ _ => rfl⟩)
  · have hvl := hc.1
    have hW : Wl vs [v] := fun y hy => by simp at hy; omega
    obtain ⟨hwl, hlen⟩ := wr_ok hV 200 [v] hW
    rcases WR_at (x := x) hw hlen with ⟨hx, hr⟩ | ⟨x0, x1, xb, y, hy, h20, hr⟩
    · refine ⟨-1, ?_, ?_⟩
      · refine zI_at [0, 1] (by omega) rfl (k9_0 ⟨_, zI_at [0, 1] (by omega) rfl (k66_0 ⟨fun r μ' => r = -1 ∧ μ' = μ, zI_at [0, 1] (by omega) rfl (k97_0 (fun _ => ⟨rfl, rfl⟩) (fun _ _ => ⟨rfl, rfl⟩) (fun z1 z2 => ?_) (fun z1 z2 => ?_)), fun r μ1 hr => k66_8 hr⟩), fun r μ1 hr => k9_8 hr⟩)
        · rcases hx with q | q
          · exact absurd q z1
          · exact absurd q.2 z2
        · rcases hx with q | q
          · exact absurd q z1
          · exact absurd q.2 z2
      · refine zI_at [0, 1] (by omega) rfl (k158_0 ⟨_, m_partAt (by omega) hV hR hvl ho ht hv, fun r μ1 hr1 => ?_⟩)
        obtain ⟨hf, rfl⟩ := hr1
        rw [hr]
        exact k158_5 (fun z => absurd z (by decide)) (fun z => absurd z (by decide)) (fun _ => ⟨rfl, hf⟩)
    · have hyl := hwl y (List.mem_of_getElem? hy)
      obtain ⟨⟨w, num, ps⟩, hyv⟩ : ∃ z, vs[y]? = some z := ⟨vs[y], List.getElem?_eq_getElem hyl⟩
      refine ⟨nI w, ?_, ?_⟩
      · refine zI_at [0, 1] (by omega) rfl (k9_0 ⟨_, zI_at [0, 1] (by omega) rfl (k66_0 ⟨fun r μ' => r = nI w ∧ μ' = μ, zI_at [0, 1] (by omega) rfl (k97_0 (fun z => absurd z x0) (fun _ z => absurd z x1) (fun _ _ => xb) (fun _ _ => ?_)), fun r μ1 hr => k66_8 hr⟩), fun r μ1 hr => k9_8 hr⟩)
        rw [h20]
        exact ⟨_, c_shapeOf (by omega) hc hyv, fun r μ1 hr => k97_22 ⟨hr.2, hr.1⟩⟩
      · refine zI_at [0, 1] (by omega) rfl (k158_0 ⟨_, m_partAt (by omega) hV hR hvl ho ht hv, fun r μ1 hr1 => ?_⟩)
        obtain ⟨hf, rfl⟩ := hr1
        rw [hr]
        refine k158_5 (fun _ => by rw [nI_t (by omega)]; omega) (fun _ => ⟨?_, hf⟩) (fun z => absurd (nI_ge0 (by omega)) z)
        rw [nI_c (by omega)]
        exact ((RV_58 hR hf).2 y _ _ _ hyv).1

theorem ev_number (hdc : 8 ≤ d) (h : EvS μ) : ∃ r0 : Int32, zI X d 10 [.inr 0, .inl x] μ (fun r μ' => r = r0 ∧ μ' = μ) ∧ zI X d 159 [.inr 22, .inl x] μ (fun r μ' => r = r0 ∧ ∀ c, c ≠ 58 → μ' c = μ c) := by
  obtain ⟨_, ⟨h1, h2⟩ | ⟨vs, v, hV, hc, hR, hv, ho, ht, hw⟩⟩ := h
  · refine ⟨0, ?_, ?_⟩
    · refine zI_at [0, 1] (by omega) rfl (k10_0 ⟨_, zI_at [0, 1] (by omega) rfl (k67_0 ⟨fun r μ' => r = 0 ∧ μ' = μ, zI_at [0, 1] (by omega) rfl (k98_0 (fun _ => ⟨rfl, rfl⟩) (fun _ _ => ⟨rfl, rfl⟩) (fun z1 z2 => ?_) (fun z1 z2 => ?_)), fun r μ1 hr => k67_8 hr⟩), fun r μ1 hr => k10_8 hr⟩)
      · rw [h2, Int32.le_iff_toInt_le] at z2
        rw [Int32.lt_iff_toInt_lt] at z1
        simp at z1 z2
        omega
      · rw [h2, Int32.le_iff_toInt_le] at z2
        rw [Int32.lt_iff_toInt_lt] at z1
        simp at z1 z2
        omega
    · refine zI_at [0, 1] (by omega) rfl (k159_0 ⟨fun r μ' => r = -1 ∧ μ' = μ, zI_at [0, 1] (by omega) rfl (k157_0 (fun _ => ⟨rfl, rfl⟩) (fun z => absurd z h1) (fun z => absurd z h1) (fun z => absurd z h1) (fun z => absurd z h1)), fun r μ1 hr => ?_⟩)
      obtain ⟨rfl, rfl⟩ := hr
      exact k159_5 (fun _ => ⟨rfl, fun _ _ => rfl⟩) (fun z => absurd neg_m1 z) (fun z => absurd neg_m1 z) (fun z => absurd neg_m1 z) (fun z => absurd neg_m1 z)
  · have hvl := hc.1
    have hW : Wl vs [v] := fun y hy => by simp at hy; omega
    obtain ⟨hwl, hlen⟩ := wr_ok hV 200 [v] hW
    rcases WR_at (x := x) hw hlen with ⟨hx, hr⟩ | ⟨x0, x1, xb, y, hy, h20, hr⟩
    · refine ⟨0, ?_, ?_⟩
      · refine zI_at [0, 1] (by omega) rfl (k10_0 ⟨_, zI_at [0, 1] (by omega) rfl (k67_0 ⟨fun r μ' => r = 0 ∧ μ' = μ, zI_at [0, 1] (by omega) rfl (k98_0 (fun _ => ⟨rfl, rfl⟩) (fun _ _ => ⟨rfl, rfl⟩) (fun z1 z2 => ?_) (fun z1 z2 => ?_)), fun r μ1 hr => k67_8 hr⟩), fun r μ1 hr => k10_8 hr⟩)
        · rcases hx with q | q
          · exact absurd q z1
          · exact absurd q.2 z2
        · rcases hx with q | q
          · exact absurd q z1
          · exact absurd q.2 z2
      · refine zI_at [0, 1] (by omega) rfl (k159_0 ⟨_, m_partAt (by omega) hV hR hvl ho ht hv, fun r μ1 hr1 => ?_⟩)
        obtain ⟨hf, rfl⟩ := hr1
        rw [hr]
        exact k159_5 (fun _ => ⟨rfl, hf⟩) (fun z => absurd neg_m1 z) (fun z => absurd neg_m1 z) (fun z => absurd neg_m1 z) (fun z => absurd neg_m1 z)
    · have hyl := hwl y (List.mem_of_getElem? hy)
      obtain ⟨⟨w, num, ps⟩, hyv⟩ : ∃ z, vs[y]? = some z := ⟨vs[y], List.getElem?_eq_getElem hyl⟩
      have hwk := (hV y _ _ _ hyv).1
      have hwl2 := wok_lt hwk
      refine ⟨if w = 1000 then num else 0, ?_, ?_⟩
      · refine zI_at [0, 1] (by omega) rfl (k10_0 ⟨_, zI_at [0, 1] (by omega) rfl (k67_0 ⟨fun r μ' => r = (if w = 1000 then num else 0) ∧ μ' = μ, zI_at [0, 1] (by omega) rfl (k98_0 (fun z => absurd z x0) (fun _ z => absurd z x1) (fun _ _ => xb) (fun _ _ => ?_)), fun r μ1 hr => k67_8 hr⟩), fun r μ1 hr => k10_8 hr⟩)
        rw [h20]
        exact ⟨_, c_numberOf (by omega) hc hwk hyv, fun r μ1 hr => k98_22 ⟨hr.2, hr.1⟩⟩
      · refine zI_at [0, 1] (by omega) rfl (k159_0 ⟨_, m_partAt (by omega) hV hR hvl ho ht hv, fun r μ1 hr1 => ?_⟩)
        obtain ⟨hf, rfl⟩ := hr1
        rw [hr]
        have bb : 0 ≤ (nI y).toInt ∧ (nI y).toInt < ((1300 : Nat) : Int) := by rw [nI_t (by omega)]; omega
        have q1 : μ1 49 (nI y).toNatClampNeg = nI w := by rw [nI_c (by omega)]; exact ((RV_58 hR hf).2 y _ _ _ hyv).1
        have q2 : μ1 50 (nI y).toNatClampNeg = num := by rw [nI_c (by omega)]; exact ((RV_58 hR hf).2 y _ _ _ hyv).2.1
        refine k159_5 (fun z => absurd z (nI_pos (by omega))) (fun _ => bb) (fun _ _ => bb) (fun _ z => ⟨?_, hf⟩) (fun _ z => ⟨?_, hf⟩)
        · rw [q1, zb_1000, nI_inj (by omega) (by omega)] at z
          rw [if_pos z, q2]
        · rw [q1, zb_1000, nI_inj (by omega) (by omega)] at z
          rw [if_neg z]
end RW2

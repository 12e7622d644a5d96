def vps (vs : List vE) (v : Nat) : List Nat := match vs[v]? with
  | some z => z.2.2
  | none => []
def wr (vs : List vE) : Nat → List Nat → List Nat
  | 0, _ => []
  | _ + 1, [] => []
  | n + 1, v :: W => v :: wr vs n (vps vs v ++ W)
def SP (c : Nat) (μ : zm_u) (W : List Nat) : Prop := ∀ (j x : Nat), W.reverse[j]? = some x → μ c j = nI x
def Wl (vs : List vE) (W : List Nat) : Prop := ∀ x ∈ W, x < vs.length
section RW
variable {X : zm_T} {d : Nat} {μ μ' μ0 μ1 : zm_u} {vs : List vE} {W R ps : List Nat} {c i v n k x w : Nat} {num : Int32}
theorem wr_pre : ∀ (k n : Nat) (W : List Nat), k < n → (wr vs n W)[k]? = (wr vs (k + 1) W)[k]? := by
  intro k
  induction k with
  | zero =>
    intro n W h
    obtain ⟨n, rfl⟩ : ∃ m, n = m + 1 := ⟨n - 1, by omega⟩
    rcases W with _ | ⟨v, W⟩
    · rfl
    · rfl
  | succ k ih =>
    intro n W h
    obtain ⟨n, rfl⟩ : ∃ m, n = m + 1 := ⟨n - 1, by omega⟩
    rcases W with _ | ⟨v, W⟩
    · rfl
    · show (v :: wr vs n (vps vs v ++ W))[k + 1]? = (v :: wr vs (k + 1) (vps vs v ++ W))[k + 1]?
      rw [List.getElem?_cons_succ, List.getElem?_cons_succ]
      exact ih n _ (by omega)
theorem vps_at (h : vs[v]? = some (w, num, ps)) : vps vs v = ps := by
  unfold vps
  rw [h]
theorem Wl_vps (hV : VW vs) (hv : v < vs.length) : Wl vs (vps vs v) ∧ (vps vs v).length ≤ 3 := by
  obtain ⟨⟨w, num, ps⟩, hvv⟩ : ∃ z, vs[v]? = some z := ⟨vs[v], List.getElem?_eq_getElem hv⟩
  rw [vps_at hvv]
  obtain ⟨_, _, h3, h4⟩ := hV v w num ps hvv
  exact ⟨fun x hx => by have := h4 x hx; omega, by rw [h3]; exact vpn_le _⟩
theorem Wl_app (h1 : Wl vs ps) (h2 : Wl vs W) : Wl vs (ps ++ W) := by
  intro x hx
  rcases List.mem_append.mp hx with h | h
  · exact h1 x h
  · exact h2 x h
theorem wr_ok (hV : VW vs) : ∀ (n : Nat) (W : List Nat), Wl vs W → Wl vs (wr vs n W) ∧ (wr vs n W).length ≤ n := by
  intro n
  induction n with
  | zero => intro W h; exact ⟨fun x hx => by simp [wr] at hx, by simp [wr]⟩
  | succ n ih =>
    intro W h
    rcases W with _ | ⟨v, W⟩
    · exact ⟨fun x hx => by simp [wr] at hx, by simp [wr]⟩
    · have hv := h v (List.mem_cons_self ..)
      obtain ⟨a1, a2⟩ := ih (vps vs v ++ W) (Wl_app (Wl_vps hV hv).1 (fun x hx => h x (List.mem_cons_of_mem _ hx)))
      refine ⟨fun x hx => ?_, ?_⟩
      · rcases List.mem_cons.mp hx with rfl | hx
        · exact hv
        · exact a1 x hx
      · show (wr vs n (vps vs v ++ W)).length + 1 ≤ n + 1
        omega
theorem SP_push (h : SP c μ W) : SP c (zm_up μ c W.length (nI x)) (x :: W) := by
  intro j y hj
  rw [List.reverse_cons] at hj
  rw [zm_up_at]
  by_cases e : j = W.length
  · rw [if_pos ⟨rfl, e⟩]
    rw [e, List.getElem?_append_right (by simp), List.length_reverse, Nat.sub_self] at hj
    simp only [List.getElem?_cons_zero, Option.some.injEq] at hj
    rw [hj]
  · rw [if_neg (by omega)]
    have hl : j < W.reverse.length := by
      have := (List.getElem?_eq_some_iff.mp hj).1
      simp only [List.length_append, List.length_reverse, List.length_singleton] at this
      rw [List.length_reverse]
      omega
    rw [List.getElem?_append_left hl] at hj
    exact h j y hj
theorem SP_pop (h : SP c μ (x :: W)) : μ c W.length = nI x ∧ SP c μ W := by
  refine ⟨h W.length x ?_, fun j y hj => h j y ?_⟩
  · rw [List.reverse_cons, List.getElem?_append_right (by simp), List.length_reverse, Nat.sub_self]
    rfl
  · rw [List.reverse_cons, List.getElem?_append_left (List.getElem?_eq_some_iff.mp hj).1]
    exact hj
theorem SP_eq (h : SP c μ W) (he : μ' c = μ c) : SP c μ' W := fun j x hj => by rw [he]; exact h j x hj
theorem nI_m (k : Nat) : nI k + (-1) = nI k - 1 := (Int32.sub_eq_add_neg (nI k) 1).symm
theorem drop_at (h : ps[k]? = some x) : ps.drop k = x :: ps.drop (k + 1) := by
  obtain ⟨h1, h2⟩ := List.getElem?_eq_some_iff.mp h
  rw [List.drop_eq_getElem_cons h1, h2]
def WF (μ μ' : zm_u) : Prop := (∀ c, c ≠ 5 → c ≠ 20 → c ≠ 21 → μ' c = μ c) ∧ ∀ i, i ≠ 7 → i ≠ 8 → μ' 5 i = μ 5 i
theorem WF_tr (h1 : WF μ μ1) (h2 : WF μ1 μ') : WF μ μ' := ⟨fun c a b d => (h2.1 c a b d).trans (h1.1 c a b d), fun i a b => (h2.2 i a b).trans (h1.2 i a b)⟩
theorem WF_rf : WF μ μ := ⟨fun _ _ _ _ => rfl, fun _ _ _ => rfl⟩
theorem WF_5 {j : Nat} {y : Int32} (hj : j = 7 ∨ j = 8) : WF μ (zm_up μ 5 j y) := ⟨fun c a _ _ => zm_up_row a, fun i a b => by rw [zm_up_at, if_neg (by omega)]⟩
theorem WF_c {j : Nat} {y : Int32} (hc : c = 20 ∨ c = 21) : WF μ (zm_up μ c j y) := ⟨fun q _ a b => zm_up_row (by omega), fun i _ _ => by rw [zm_up_row (by omega)]⟩
theorem CV_WF (h : CV μ vs) (hf : WF μ μ') : CV μ' vs := by
  obtain ⟨h1, h2, h3⟩ := h
  refine ⟨h1, (hf.2 6 (by decide) (by decide)).trans h2, fun i w num ps hi => ?_⟩
  rw [hf.1 16 (by decide) (by decide) (by decide), hf.1 17 (by decide) (by decide) (by decide), hf.1 18 (by decide) (by decide) (by decide), hf.1 19 (by decide) (by decide) (by decide)]
  exact h3 i w num ps hi
theorem c_await (hd : 1 ≤ d) (h8 : μ 5 8 = nI W.length) (hl : W.length < 401) (hS : SP 21 μ W) : zO X d 96 [.inr 5, .inl (nI x)] μ (fun μ' => μ' 5 8 = nI (x :: W).length ∧ SP 21 μ' (x :: W) ∧ WF μ μ' ∧ μ' 5 7 = μ 5 7 ∧ μ' 20 = μ 20) := by
  have e4 : (401 : Int32) = nI 401 := rfl
  have n4 : ¬ (401 : Int32) ≤ μ 5 8 := by rw [h8, e4, nI_leI (by omega) (by omega)]; omega
  have c8 : (μ 5 8).toNatClampNeg = W.length := by rw [h8, nI_c (by omega)]
  refine zO_at [0, 1] hd rfl (k96_0 (fun z => absurd z n4) (fun _ => by rw [h8, nI_t (by omega)]; omega) (fun _ => ?_))
  rw [c8, h8, ← nI_one, nI_add]
  refine ⟨?_, SP_eq (SP_push hS) (zm_up_row (by decide)), WF_tr (WF_c (Or.inr rfl)) (WF_5 (Or.inr rfl)), ?_, ?_⟩
  · rw [zm_up_at, if_pos ⟨rfl, rfl⟩]; rfl
  · rw [zm_up_at, if_neg (by omega), zm_up_row (by decide)]
  · rw [zm_up_row (by decide), zm_up_row (by decide)]
def WR (μ : zm_u) (R : List Nat) : Prop := μ 5 7 = nI R.length ∧ ∀ (i x : Nat), R[i]? = some x → μ 20 i = nI x
theorem c_write_inner (hd : 6 ≤ d) (hV : VW vs) (hv : vs[v]? = some (w, num, ps)) {P : zm_u → Prop} (hl : W.length ≤ 398) (hR : WR μ R) (hc : CV μ vs)
    (hP : ∀ μ', WF μ μ' → WR μ' R → μ' 5 8 = nI (ps ++ W).length → SP 21 μ' (ps ++ W) → zV X d 95 15 [(0, .inr 5)] [] μ' (zpo P)) :
    ∀ (k : Nat), k ≤ ps.length → ∀ μ1, WF μ μ1 → WR μ1 R → μ1 5 8 = nI (ps.drop k ++ W).length → SP 21 μ1 (ps.drop k ++ W) → zV X d 95 80 [(0, .inr 5), (2, .inl (nI v)), (3, .inl (nI k - 1))] [] μ1 (zpo P) := by
  obtain ⟨z1, z2, z3, z4⟩ := hV v w num ps hv
  have hp3 : ps.length ≤ 3 := by rw [z3]; exact vpn_le _
  have hvl := (List.getElem?_eq_some_iff.mp hv).1
  have hvs := hc.1
  intro k
  induction k with
  | zero =>
    intro hk μ1 hf hR1 h8 hS
    exact k95_80 (fun _ => hP μ1 hf hR1 h8 hS) (fun z => absurd (by decide) z)
  | succ k ih =>
    intro hk μ1 hf hR1 h8 hS
    rw [nI_pr]
    obtain ⟨y, hy⟩ := ns_at (ns := ps) (j := k) (by omega)
    refine k95_80 (fun z => absurd z (nI_pos (by omega))) (fun _ => ⟨_, c_vpart (by omega) (CV_WF hc hf) z1 hv z3 (by omega), fun r μ2 hr => ?_⟩)
    obtain ⟨rfl, rfl⟩ := hr
    rw [gp_at hy]
    refine k95_91 ⟨_, c_await (x := y) (by omega) h8 (by rw [List.length_append, List.length_drop]; omega) hS, fun μ3 hr => k95_94 ?_⟩
    obtain ⟨a1, a2, a3, a4, a5⟩ := hr
    rw [nI_m]
    have e1 : ps.drop k ++ W = y :: (ps.drop (k + 1) ++ W) := by rw [drop_at hy]; rfl
    refine ih (by omega) μ3 (WF_tr hf a3) ⟨a4.trans hR1.1, fun i x hi => by rw [a5]; exact hR1.2 i x hi⟩ ?_ ?_
    · rw [e1]; exact a1
    · rw [e1]; exact a2
theorem c_write_loop (hd : 6 ≤ d) (hV : VW vs) {P : zm_u → Prop} (hc : CV μ vs) {T : List Nat} (hP : ∀ μ', WF μ μ' → WR μ' T → P μ') :
    ∀ (r : Nat) (R W : List Nat), R.length + r = 200 → W.length ≤ 1 + 2 * R.length → Wl vs W → R ++ wr vs r W = T → ∀ μ1, WF μ μ1 → WR μ1 R → μ1 5 8 = nI W.length → SP 21 μ1 W → zV X d 95 15 [(0, .inr 5)] [] μ1 (zpo P) := by
  have e2 : (200 : Int32) = nI 200 := rfl
  intro r
  induction r with
  | zero =>
    intro R W hr hl hW hT μ1 hf hR h8 hS
    have hT' : R = T := by rw [← hT]; simp [wr]
    have h2 : (200 : Int32) ≤ μ1 5 7 := by rw [hR.1, e2, nI_leI (by omega) (by omega)]; omega
    exact k95_15 (fun _ => hP μ1 hf (hT' ▸ hR)) (fun _ _ => hP μ1 hf (hT' ▸ hR)) (fun _ z => absurd h2 z) (fun _ z => absurd h2 z) (fun _ z => absurd h2 z)
  | succ r ih =>
    intro R W hr hl hW hT μ1 hf hR h8 hS
    rcases W with _ | ⟨v, W⟩
    · have hT' : R = T := by rw [← hT]; simp [wr]
      have h0 : μ1 5 8 ≤ 0 := by rw [h8]; decide
      exact k95_15 (fun _ => hP μ1 hf (hT' ▸ hR)) (fun _ _ => hP μ1 hf (hT' ▸ hR)) (fun z => absurd h0 z) (fun z => absurd h0 z) (fun z => absurd h0 z)
    · have hlen : (v :: W).length = W.length + 1 := rfl
      rw [hlen] at h8 hl
      have n2 : ¬ (200 : Int32) ≤ μ1 5 7 := by rw [hR.1, e2, nI_leI (by omega) (by omega)]; omega
      have n0 : ¬ μ1 5 8 ≤ 0 := by rw [h8]; exact nI_nle (by omega) (by omega)
      have e8 : μ1 5 8 - 1 = nI W.length := by rw [h8, nI_pr]
      obtain ⟨p1, p2⟩ := SP_pop hS
      have hvl := hW v (List.mem_cons_self ..)
      obtain ⟨⟨w, num, ps⟩, hv⟩ : ∃ z, vs[v]? = some z := ⟨vs[v], List.getElem?_eq_getElem hvl⟩
      obtain ⟨z1, z2, z3, z4⟩ := hV v w num ps hv
      have hp3 : ps.length ≤ 3 := by rw [z3]; exact vpn_le _
      have c7 : (μ1 5 7).toNatClampNeg = R.length := by rw [hR.1, nI_c (by omega)]
      refine k95_15 (fun z => absurd z n0) (fun _ z => absurd z n2) (fun _ _ => by rw [e8, nI_t (by omega)]; omega) (fun _ _ => by rw [hR.1, nI_t (by omega)]; omega) (fun _ _ => ?_)
      rw [e8, nI_c (by omega), p1, c7, hR.1, ← nI_one, nI_add]
      have hf2 : WF μ1 (zm_up (zm_up (zm_up μ1 5 8 (nI W.length)) 20 R.length (nI v)) 5 7 (nI (R.length + 1))) := WF_tr (WF_tr (WF_5 (Or.inr rfl)) (WF_c (Or.inl rfl))) (WF_5 (Or.inl rfl))
      have hR2 : WR (zm_up (zm_up (zm_up μ1 5 8 (nI W.length)) 20 R.length (nI v)) 5 7 (nI (R.length + 1))) (R ++ [v]) := by
        refine ⟨by rw [zm_up_at, if_pos ⟨rfl, rfl⟩]; simp, fun i x hi => ?_⟩
        rw [zm_up_row (by decide), zm_up_at]
        by_cases e : i = R.length
        · rw [if_pos ⟨rfl, e⟩]
          rw [e, List.getElem?_append_right (Nat.le_refl _), Nat.sub_self] at hi
          simp only [List.getElem?_cons_zero, Option.some.injEq] at hi
          rw [hi]
        · rw [if_neg (by omega), zm_up_row (by decide)]
          have hl : i < R.length := by
            have := (List.getElem?_eq_some_iff.mp hi).1
            simp only [List.length_append, List.length_singleton] at this
            omega
          rw [List.getElem?_append_left hl] at hi
          exact hR.2 i x hi
      have h82 : (zm_up (zm_up (zm_up μ1 5 8 (nI W.length)) 20 R.length (nI v)) 5 7 (nI (R.length + 1))) 5 8 = nI W.length := by
        rw [zm_up_at, if_neg (by omega), zm_up_row (by decide), zm_up_at, if_pos ⟨rfl, rfl⟩]
      have hS2 : SP 21 (zm_up (zm_up (zm_up μ1 5 8 (nI W.length)) 20 R.length (nI v)) 5 7 (nI (R.length + 1))) W := SP_eq p2 (by rw [zm_up_row (by decide), zm_up_row (by decide), zm_up_row (by decide)])
      generalize (zm_up (zm_up (zm_up μ1 5 8 (nI W.length)) 20 R.length (nI v)) 5 7 (nI (R.length + 1))) = μ2 at hf2 hR2 h82 hS2 ⊢
      have hf3 := WF_tr hf hf2
      refine ⟨_, c_partCount (by omega) (CV_WF hc hf3) z1 hv, fun r μ3 hr => k95_77 ?_⟩
      obtain ⟨rfl, rfl⟩ := hr
      rw [← z3]
      refine c_write_inner hd hV hv (μ := μ3) (W := W) (R := R ++ [v]) (by omega) hR2 (CV_WF hc hf3) (fun μ4 g1 g2 g3 g4 => ?_) ps.length (Nat.le_refl _) μ3 WF_rf hR2 ?_ ?_
      · refine ih (R ++ [v]) (ps ++ W) (by simp; omega) (by simp only [List.length_append, List.length_singleton]; omega) (Wl_app (fun x hx => by have := z4 x hx; omega) (fun x hx => hW x (List.mem_cons_of_mem _ hx))) ?_ μ4 (WF_tr hf3 g1) g2 g3 g4
        rw [← hT]
        show R ++ [v] ++ wr vs r (ps ++ W) = R ++ v :: wr vs r (vps vs v ++ W)
        rw [vps_at hv, List.append_assoc]
        rfl
      · rw [List.drop_length]; exact h82
      · rw [List.drop_length]; exact hS2
theorem c_write (hd : 7 ≤ d) (hV : VW vs) (hc : CV μ vs) (hv : v < vs.length) : zO X d 95 [.inr 5, .inl (nI v)] μ (fun μ' => WF μ μ' ∧ WR μ' (wr vs 200 [v])) := by
  refine zO_at [0, 1] (by omega) rfl (k95_0 ?_)
  have hf0 : WF μ (zm_up (zm_up μ 5 7 0) 5 8 0) := WF_tr (WF_5 (Or.inl rfl)) (WF_5 (Or.inr rfl))
  refine ⟨_, c_await (W := []) (x := v) (by omega) (by rw [zm_up_at, if_pos ⟨rfl, rfl⟩]; rfl) (by decide) (fun j x hj => by simp at hj), fun μ1 hr => ?_⟩
  obtain ⟨a1, a2, a3, a4, a5⟩ := hr
  refine c_write_loop (by omega) hV hc (T := wr vs 200 [v]) (fun μ' h1 h2 => ⟨h1, h2⟩) 200 [] [v] rfl (by simp) (fun x hx => by simp at hx; omega) rfl μ1 (WF_tr hf0 a3) ⟨?_, fun i x hi => by simp at hi⟩ a1 a2
  rw [a4, zm_up_at, if_neg (by omega), zm_up_at, if_pos ⟨rfl, rfl⟩]
  rfl
end RW

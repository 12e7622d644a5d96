def Tst (vs : List vE) (o : Int32) (q : Nat) (oT : Int32) : Prop := (∃ (v w : Nat) (num : Int32) (ps : List Nat), vs[v]? = some (w, num, ps) ∧ o = nI v ∧ (wn_ok q w ∧ oT = nI v ∨ ¬ wn_ok q w ∧ oT = -2)) ∨ (o = -1 ∧ oT = -1) ∨ (o = -2 ∧ oT = -2)
def CX (X : zm_T) (d : Nat) (μ0 : zm_u) (q k : Nat) (vs : List vE) (s b t B : Nat) (E : Nat → Nat) (o : Int32) (vs' : List vE) (s' : Nat) : Prop :=
  ∀ μ, SA μ0 μ → CE μ vs s b t B E → zV X d 68 30 [(0, .inr 4), (1, .inl (nI q))] [.inl (nI k)] μ (zpi (fun r μ' => r = o ∧ CE μ' vs' s' b t B E ∧ CFr μ μ'))
def FD (μ : zm_u) (f p st B t : Nat) : Prop := μ 53 f = nI p ∧ μ 52 f = nI st ∧ μ 54 f = nI B ∧ μ 55 f = nI t
def RX (X : zm_T) (d : Nat) (μ0 : zm_u) (p : Nat) (vs : List vE) (s b t B : Nat) (E : Nat → Nat) (f : Nat) (o : Int32) (vs' : List vE) (s' : Nat) : Prop :=
  ∀ μ, SA μ0 μ → RE μ vs s b t B E (f + 1) → FD μ f p 0 B t → ∀ P : Int32 → zm_u → Prop, (∀ μ', RFr f μ μ' → RO μ' o vs' s' b t B E f → zV X d 155 47 [(0, .inr 22)] [] μ' (zpi P)) → zV X d 155 47 [(0, .inr 22)] [] μ (zpi P)
section ES
variable {X : zm_T} {d L : Nat} {μ μ' μ0 μ1 : zm_u} {vs vs' : List vE} {s b t B f i w : Nat} {E : Nat → Nat} {num o x : Int32} {ps : List Nat}
theorem neg_m1 : ((-1 : Int32) < 0) := by decide
theorem neg_m2 : ((-2 : Int32) < 0) := by decide

theorem c_runPart {dc p u n k m q e s' : Nat} {oT : Int32} {ns : List Nat} (hd : dc + 1 ≤ d ∧ 6 ≤ d) (hs : SA μ0 μ) (hu : 1 ≤ n ∧ u + n ≤ 560) (hns : ns.length = ar (μ0 9 (u + n - 1)) (μ0 10 (u + n - 1))) (hok : okop L (μ0 9 (u + n - 1)) (μ0 10 (u + n - 1))) (hn : n = 1 + ns.sum) (ht : Tl (Tm L μ0 e) p u ns) (hk : ns[k]? = some m)
    (hC : CEv X dc μ0 (u + (ns.take k).sum + m - 1) vs s b t B E o vs' s') (hp : EPost vs s o vs' s') (hq : q ≤ 4) (hT : Tst vs' o q oT) (hce : CE μ vs s b t B E) :
    zI X d 71 [.inr 4, .inl (nI (u + n - 1)), .inl (nI k), .inl (nI q)] μ (fun r μ' => r = oT ∧ CE μ' vs' s' b t B E ∧ CFr μ μ') := by
  have hs9 := hs.1
  have hs10 := hs.2.1
  refine zI_at [0, 1, 2, 3] (by omega) rfl (k71_0 ⟨_, c_part (p := p) (e := e) (L := L) (m := m) (by omega) hu (by rw [hs9, hs10]; exact hns) (by rw [hs9, hs10]; exact hok) hn (Tl_SA hs ht) hk, fun r μ1 hr => ?_⟩)
  obtain ⟨rfl, rfl⟩ := hr
  refine k71_10 ⟨_, zI_mono (hC μ1 hs hce) (by omega) (fun r μ' q => q), fun r μ2 hr => ?_⟩
  obtain ⟨rfl, hce2, hfr⟩ := hr
  rcases hT with ⟨v, w, num, ps, hv, rfl, hT⟩ | ⟨rfl, rfl⟩ | ⟨rfl, rfl⟩
  · have hvl := (List.getElem?_eq_some_iff.mp hv).1
    have hv6 := hce2.1.1
    have hw := (hp.2.1 v w num ps hv).1
    refine k71_13 (fun z => absurd z (nI_pos (by omega))) (fun _ => ⟨_, c_isWanted (by omega) hce2.1 hw hv hq, fun r μ3 hr => ?_⟩)
    obtain ⟨rfl, hr⟩ := hr
    rcases hr with ⟨h1, rfl⟩ | ⟨h1, rfl⟩
    · rcases hT with ⟨_, rfl⟩ | ⟨h2, _⟩
      · exact k71_27 (fun z => absurd z zn_10) (fun _ => ⟨rfl, hce2, hfr⟩)
      · exact absurd h1 h2
    · rcases hT with ⟨h2, _⟩ | ⟨_, rfl⟩
      · exact absurd h2 h1
      · exact k71_27 (fun _ => ⟨rfl, hce2, hfr⟩) (fun z => absurd rfl z)
  · exact k71_13 (fun _ => ⟨rfl, hce2, hfr⟩) (fun z => absurd neg_m1 z)
  · exact k71_13 (fun _ => ⟨rfl, hce2, hfr⟩) (fun z => absurd neg_m2 z)

theorem m_iter {P : Int32 → zm_u → Prop} {G : zm_u → Prop} (hd : 1 ≤ d) (h : RE μ vs s b t B E (f + 1)) (hf : f < 60) (h0 : zV X (d - 1) 149 0 [(0, .inr 22)] [] μ (zpo G)) (h1 : ∀ μ', G μ' → zV X d 155 47 [(0, .inr 22)] [] μ' (zpi P)) : zV X d 155 47 [(0, .inr 22)] [] μ (zpi P) := by
  obtain ⟨_, _, _, _, _, _, h27, h54, h55⟩ := h
  have hnz : ¬ μ 22 27 ≤ 0 := by rw [h27]; exact nI_nle (by omega) (by omega)
  exact k155_47 (fun z => absurd z hnz) (fun _ z => absurd h54 z) (fun _ _ z => absurd h55 z) (fun _ _ _ => ⟨G, zO_at [0] hd rfl h0, fun μ1 hg => k155_72 (h1 μ1 hg)⟩)
theorem m_one0 {P : zm_u → Prop} {p k : Nat} (h : RE μ vs s b t B E (f + 1)) (hf : f < 60) (hp : p < 560) (hF : FD μ f p 0 B t) (hop : μ 27 p = nI k)
    (hV : zV X d 149 88 [(0, .inr 22), (1, .inl (nI f)), (2, .inl (nI p)), (3, .inl (nI k)), (4, .inl (nI 0))] [] (zm_up μ 52 f (nI 1)) (zpo P)) : zV X d 149 0 [(0, .inr 22)] [] μ (zpo P) := by
  obtain ⟨_, _, _, _, _, _, h27, h54, h55⟩ := h
  obtain ⟨f1, f2, f3, f4⟩ := hF
  have e1 : μ 22 27 - 1 = nI f := by rw [h27, nI_pr]
  have cf : (nI f).toNatClampNeg = f := nI_c (by omega)
  have b1 : 0 ≤ (μ 22 27 - 1).toInt ∧ (μ 22 27 - 1).toInt < ((64 : Nat) : Int) := by rw [e1, nI_t (by omega)]; omega
  have b2 : 0 ≤ (μ 53 (μ 22 27 - 1).toNatClampNeg).toInt ∧ (μ 53 (μ 22 27 - 1).toNatClampNeg).toInt < ((560 : Nat) : Int) := by rw [e1, cf, f1, nI_t (by omega)]; omega
  have hle : μ 52 (μ 22 27 - 1).toNatClampNeg ≤ 0 := by rw [e1, cf, f2]; decide
  refine k149_0 b1 b2 b1 b1 b1 (fun _ => ?_) (fun z => absurd hle z)
  rw [e1, cf, f1, f2, nI_c (by omega), hop, nI_1]
  exact k149_60 (fun _ => hV) (fun z => absurd (by decide) z) (fun z => absurd (by decide) z) (fun z => absurd (by decide) z)
theorem m_one {P : zm_u → Prop} {p k st v B' t' : Nat} (hd : 3 ≤ d) (h : RE μ vs s b t B E (f + 1)) (hf : f < 60) (hp : p < 560) (hst : 1 ≤ st ∧ st < 4) (hF : FD μ f p st B' t') (hop : μ 27 p = nI k) (hk : 3 ≤ k ∧ k ≤ 17) (hl : vs.length < 1000) (hw : wok w) (hv : vs[v]? = some (w, num, ps)) (hg : μ 22 53 = nI v)
    (hV : su_ok k st w → zV X d 149 88 [(0, .inr 22), (1, .inl (nI f)), (2, .inl (nI p)), (3, .inl (nI k)), (4, .inl (nI st))] [] (zm_up (zm_up μ 52 f (nI (st + 1))) 56 (3 * f + st - 1) (nI v)) (zpo P))
    (hN : ¬ su_ok k st w → P (zm_up (zm_up μ 52 f (nI (st + 1))) 22 54 1)) : zV X d 149 0 [(0, .inr 22)] [] μ (zpo P) := by
  obtain ⟨hRV, _, _, _, _, _, h27, h54, h55⟩ := h
  obtain ⟨f1, f2, f3, f4⟩ := hF
  have e1 : μ 22 27 - 1 = nI f := by rw [h27, nI_pr]
  have cf : (nI f).toNatClampNeg = f := nI_c (by omega)
  have b1 : 0 ≤ (μ 22 27 - 1).toInt ∧ (μ 22 27 - 1).toInt < ((64 : Nat) : Int) := by rw [e1, nI_t (by omega)]; omega
  have b2 : 0 ≤ (μ 53 (μ 22 27 - 1).toNatClampNeg).toInt ∧ (μ 53 (μ 22 27 - 1).toNatClampNeg).toInt < ((560 : Nat) : Int) := by rw [e1, cf, f1, nI_t (by omega)]; omega
  have hle : ¬ μ 52 (μ 22 27 - 1).toNatClampNeg ≤ 0 := by rw [e1, cf, f2]; exact nI_nle (by omega) (by omega)
  have hRV2 : RV (zm_up μ 52 f (nI (st + 1))) vs := by
    refine ⟨by rw [zm_up_row (by decide)]; exact hRV.1, fun i w num ps hi => ?_⟩
    rw [zm_up_row (by decide), zm_up_row (by decide), zm_up_row (by decide)]
    exact hRV.2 i w num ps hi
  refine k149_0 b1 b2 b1 b1 b1 (fun z => absurd z hle) (fun _ => ?_)
  rw [e1, cf, f1, f2, nI_c (by omega), hop, nI_1]
  refine ⟨_, m_suits (by omega) hRV2 hw hv hl (by rw [zm_up_row (by decide)]; exact hg) hk (by omega), fun r μ1 hr => ?_⟩
  obtain ⟨rfl, ⟨q, rfl⟩ | ⟨q, rfl⟩⟩ := hr
  · refine k149_51 (fun _ => ?_) (fun z => absurd z zn_10) (fun z => absurd z zn_10)
    have e4 : (4 : Int32) = nI 4 := rfl
    have e3 : (3 : Int32) * nI f + nI st - 1 = nI (3 * f + st - 1) := by rw [nI_3, nI_add, ← nI_one, nI_sub (by omega)]
    have n0 : ¬ nI st ≤ 0 := nI_nle (by omega) (by omega)
    have n4 : ¬ (4 : Int32) ≤ nI st := by rw [e4, nI_leI (by omega) (by omega)]; omega
    refine k149_60 (fun z => absurd z n0) (fun _ z => absurd z n4) (fun _ _ => by rw [e3, nI_t (by omega)]; omega) (fun _ _ => ?_)
    rw [e3, nI_c (by omega), zm_up_row (show 22 ≠ 52 by decide), hg]
    exact hV q
  · exact k149_51 (fun z => absurd rfl z) (fun _ => Or.inr rfl) (fun _ => hN q)
end ES

def TT (L : Nat) (μ0 : zm_u) (e p u n k : Nat) (ns : List Nat) : Prop := (1 ≤ n ∧ u + n ≤ 560 ∧ p + n ≤ 560 ∧ e < 100) ∧ μ0 27 p = nI k ∧ μ0 9 (u + n - 1) = nI k ∧ μ0 28 p = μ0 10 (u + n - 1) ∧ okop L (nI k) (μ0 10 (u + n - 1)) ∧ ns.length = ar (nI k) (μ0 10 (u + n - 1)) ∧ n = 1 + ns.sum ∧ Tl (Tm L μ0 e) (p + 1) u ns
def HB (X : zm_T) (dr : Nat) (P : Int32 → zm_u → Prop) (μ : zm_u) : Prop := zV X dr 155 47 [(0, .inr 22)] [] μ (zpi P)
def RB (X : zm_T) (dr : Nat) (μ0 : zm_u) (p k st : Nat) (K : Nat → Nat) (vs : List vE) (s b t B : Nat) (E : Nat → Nat) (f : Nat) (o : Int32) (vs' : List vE) (s' : Nat) : Prop :=
  ∀ μ, SA μ0 μ → RE μ vs s b t B E (f + 1) → FD μ f p (st + 1) B t → (∀ i, i < st → μ 56 (3 * f + i) = nI (K i)) → (1 ≤ st → μ 22 53 = nI (K (st - 1))) → ∀ P : Int32 → zm_u → Prop, (∀ μ', RFr f μ μ' → RO μ' o vs' s' b t B E f → HB X dr P μ') →
    zV X (dr - 1) 149 88 [(0, .inr 22), (1, .inl (nI f)), (2, .inl (nI p)), (3, .inl (nI k)), (4, .inl (nI st))] [] μ (zpo (HB X dr P))
def RST (X : zm_T) (dr : Nat) (μ0 : zm_u) (p k st pk : Nat) (K : Nat → Nat) (vs : List vE) (s b t B : Nat) (E : Nat → Nat) (f : Nat) : Prop :=
  ∀ μ, SA μ0 μ → RE μ vs s b t B E (f + 1) → FD μ f p (st + 1) B t → (∀ i, i < st → μ 56 (3 * f + i) = nI (K i)) → (1 ≤ st → μ 22 53 = nI (K (st - 1))) → ∀ Q : zm_u → Prop, Q (started μ pk (f + 1) s B t) →
    zV X (dr - 1) 149 88 [(0, .inr 22), (1, .inl (nI f)), (2, .inl (nI p)), (3, .inl (nI k)), (4, .inl (nI st))] [] μ (zpo Q)
section EA
variable {X : zm_T} {d dc dr L g : Nat} {μ μ' μ0 μ1 : zm_u} {vs vs' vs1 : List vE} {s s1 b t B f i w p q k st pk e u n j m : Nat} {E K : Nat → Nat} {num o o1 oT x : Int32} {ps ns : List Nat}
theorem TT_of (h : Tm L μ0 (e + 1) p u n) (he : e < 100) : ∃ k ns, k ≤ 17 ∧ TT L μ0 e p u n k ns := by
  obtain ⟨h1, h2, h3, h4, h5, ns, h6, h7, h8⟩ := h
  obtain ⟨k, hk, ek⟩ := op_nat h5.1
  refine ⟨k, ns, by omega, ⟨h1.1, h1.2.1, h1.2.2, he⟩, h2.trans ek, ek, h3, ?_, ?_, h7, h8⟩
  · rw [← ek]; exact h5
  · rw [← ek]; exact h6
theorem TT_Rt (h : TT L μ0 e p u n k ns) : RtT L μ0 p (u + n - 1) k := by
  obtain ⟨h1, h2, h3, h4, h5, h6, h7, h8⟩ := h
  exact ⟨by omega, by omega, h2, h3, h4, h5⟩
theorem RX_RB (hd : 1 ≤ dr) (h : TT L μ0 e p u n k ns) (hf : f < 60) (hB : RB X dr μ0 p k 0 K vs s b t B E f o vs' s1) : RX X dr μ0 p vs s b t B E f o vs' s1 := by
  intro μ hs hR hF P hP
  have hop : μ 27 p = nI k := by rw [hs.2.2.2.1]; exact h.2.1
  refine m_iter (G := HB X dr P) (by omega) hR (by omega) (m_one0 hR (by omega) (by have := h.1; omega) hF hop ?_) (fun μ' q => q)
  have hfr : RFr f μ (zm_up μ 52 f (nI 1)) := RFr_row (c := 52) (j := f) (by omega) (by omega)
  refine hB _ (SA_R hs hfr) (RE_row (by omega) hR) ?_ (fun i hi => by omega) (fun hi => by omega) P (fun μ' q1 q2 => hP μ' (RFr_tr hfr q1) q2)
  obtain ⟨f1, f2, f3, f4⟩ := hF
  refine ⟨?_, ?_, ?_, ?_⟩
  · rw [zm_up_row (by decide)]; exact f1
  · rw [zm_up_at, if_pos ⟨rfl, rfl⟩]
  · rw [zm_up_row (by decide)]; exact f3
  · rw [zm_up_row (by decide)]; exact f4
theorem Tst_ex (h : EPost vs s o vs1 s1) (hq : q ≤ 4) : ∃ oT, Tst vs1 o q oT ∧ EPost vs s oT vs1 s1 := by
  obtain ⟨a1, a2, a3, a4, a5, a6⟩ := h
  rcases a6 with ⟨v, hv, rfl⟩ | rfl | rfl
  · obtain ⟨⟨w, num, ps⟩, hvv⟩ : ∃ z, vs1[v]? = some z := ⟨vs1[v], List.getElem?_eq_getElem hv⟩
    by_cases hw : wn_ok q w
    · exact ⟨nI v, Or.inl ⟨v, w, num, ps, hvv, rfl, Or.inl ⟨hw, rfl⟩⟩, a1, a2, a3, a4, a5, Or.inl ⟨v, hv, rfl⟩⟩
    · exact ⟨-2, Or.inl ⟨v, w, num, ps, hvv, rfl, Or.inr ⟨hw, rfl⟩⟩, a1, a2, a3, a4, a5, Or.inr (Or.inr rfl)⟩
  · exact ⟨-1, Or.inr (Or.inl ⟨rfl, rfl⟩), a1, a2, a3, a4, a5, Or.inr (Or.inl rfl)⟩
  · exact ⟨-2, Or.inr (Or.inr ⟨rfl, rfl⟩), a1, a2, a3, a4, a5, Or.inr (Or.inr rfl)⟩
theorem nI_m1 {v : Nat} (h : v < 1000) : ¬ nI v = -1 := by
  intro z
  have := congrArg Int32.toInt z
  rw [nI_t (by omega), zn_m1] at this
  omega
theorem nI_m2 {v : Nat} (h : v < 1000) : ¬ nI v = -2 := by
  intro z
  have := congrArg Int32.toInt z
  rw [nI_t (by omega), zn_m2] at this
  omega
theorem FD_R (h : FD μ f p st B t) (hf : RFr (f + 1) μ μ') : FD μ' f p st B t := by
  obtain ⟨f1, f2, f3, f4⟩ := h
  obtain ⟨g1, g2, g3, g4⟩ := hf.1 f (by omega)
  exact ⟨g2.trans f1, g1.trans f2, g3.trans f3, g4.trans f4⟩

theorem rb_step (hdr : 8 ≤ dr) (hf : f < 60) (hst : st < 3) (hk : 3 ≤ k ∧ k ≤ 17) (h : TT L μ0 e p u n k ns) (hE : REv X dr μ0 pk vs s b t B E (f + 1) o1 vs1 s1) (hS : RST X dr μ0 p k st pk K vs s b t B E f) (hp : EPost vs s o1 vs1 s1) (hl : vs1.length ≤ 600)
    (hT : Tst vs1 o1 q oT) (hsu : ∀ w, wok w → (su_ok k (st + 1) w ↔ wn_ok q w)) :
    ((oT = -1 ∨ oT = -2) ∧ RB X dr μ0 p k st K vs s b t B E f oT vs1 s1) ∨ ∃ (v w : Nat) (num : Int32) (ps : List Nat), oT = nI v ∧ vs1[v]? = some (w, num, ps) ∧ wok w ∧ wn_ok q w ∧ ∀ o vs' s', RB X dr μ0 p k (st + 1) (fun i => if i = st then v else K i) vs1 s1 b t B E f o vs' s' → RB X dr μ0 p k st K vs s b t B E f o vs' s' := by
  have neg : ∀ x : Int32, (x = -1 ∨ x = -2) → o1 = x → RB X dr μ0 p k st K vs s b t B E f x vs1 s1 := by
    intro x hx ho μ hs hR hF hK hg P hP
    refine hS μ hs hR hF hK hg _ (hE μ hs hR P (fun μ' hfr hro => hP μ' (RFr_le hfr (by omega)) ?_))
    subst ho
    rcases hro with ⟨v, h1, h2, h3⟩ | h1 | h1
    · rcases hx with rfl | rfl
      · exact absurd h2.symm (nI_m1 (by omega))
      · exact absurd h2.symm (nI_m2 (by omega))
    · exact Or.inr (Or.inl h1)
    · exact Or.inr (Or.inr h1)
  rcases hT with ⟨v, w, num, ps, hv, ho, ⟨hw, rfl⟩ | ⟨hw, rfl⟩⟩ | ⟨ho, rfl⟩ | ⟨ho, rfl⟩
  · have hwk := (hp.2.1 v w num ps hv).1
    have hvl := (List.getElem?_eq_some_iff.mp hv).1
    refine Or.inr ⟨v, w, num, ps, rfl, hv, hwk, hw, fun o vs' s' hB => ?_⟩
    intro μ hs hR hF hK hg P hP
    refine hS μ hs hR hF hK hg _ (hE μ hs hR P (fun μ' hfr hro => ?_))
    rcases hro with ⟨v', h1, h2, h3, h4⟩ | h1 | h1
    · have hvv : v' = v := by rw [ho, nI_inj (by omega) (by omega)] at h2; exact h2.symm
      subst hvv
      have hF' := FD_R hF hfr
      have hs' := SA_R hs hfr
      have hop : μ' 27 p = nI k := by rw [hs'.2.2.2.1]; exact h.2.1
      refine m_iter (G := HB X dr P) (by omega) h3 (by omega) (m_one (st := st + 1) (v := v') (by omega) h3 (by omega) (by have := h.1; omega) (by omega) hF' hop hk (by omega) hwk hv h4 (fun _ => ?_) (fun z => absurd ((hsu w hwk).mpr hw) z)) (fun μ' q => q)
      have hr1 : RFr f μ' (zm_up (zm_up μ' 52 f (nI (st + 1 + 1))) 56 (3 * f + (st + 1) - 1) (nI v')) := RFr_tr (RFr_row (c := 52) (j := f) (by omega) (by omega)) (RFr_56 (by omega))
      refine hB _ (SA_R hs' hr1) (RE_row (by omega) (RE_row (by omega) h3)) ?_ (fun i hi => ?_) (fun hi => ?_) P (fun μ2 q1 q2 => hP μ2 (RFr_tr (RFr_le hfr (by omega)) (RFr_tr hr1 q1)) q2)
      · obtain ⟨f1, f2, f3, f4⟩ := hF'
        refine ⟨?_, ?_, ?_, ?_⟩
        · rw [zm_up_row (by decide), zm_up_row (by decide)]; exact f1
        · rw [zm_up_row (by decide), zm_up_at, if_pos ⟨rfl, rfl⟩]
        · rw [zm_up_row (by decide), zm_up_row (by decide)]; exact f3
        · rw [zm_up_row (by decide), zm_up_row (by decide)]; exact f4
      · show _ = nI (if i = st then v' else K i)
        rw [zm_up_at]
        by_cases hi2 : i = st
        · subst hi2
          rw [if_pos ⟨rfl, by omega⟩, if_pos rfl]
        · rw [if_neg (by omega), if_neg hi2, zm_up_row (by decide), hfr.2.1 _ (by omega)]
          exact hK i (by omega)
      · rw [zm_up_row (by decide), zm_up_row (by decide), h4]
        simp
    · rw [ho] at h1
      exact absurd h1.1 (nI_m1 (by omega))
    · rw [ho] at h1
      exact absurd h1.1 (nI_m2 (by omega))
  · have hwk := (hp.2.1 v w num ps hv).1
    have hvl := (List.getElem?_eq_some_iff.mp hv).1
    refine Or.inl ⟨Or.inr rfl, ?_⟩
    intro μ hs hR hF hK hg P hP
    refine hS μ hs hR hF hK hg _ (hE μ hs hR P (fun μ' hfr hro => ?_))
    rcases hro with ⟨v', h1, h2, h3, h4⟩ | h1 | h1
    · have hvv : v' = v := by rw [ho, nI_inj (by omega) (by omega)] at h2; exact h2.symm
      subst hvv
      have hF' := FD_R hF hfr
      have hs' := SA_R hs hfr
      have hop : μ' 27 p = nI k := by rw [hs'.2.2.2.1]; exact h.2.1
      refine m_iter (G := HB X dr P) (by omega) h3 (by omega) (m_one (st := st + 1) (v := v') (by omega) h3 (by omega) (by have := h.1; omega) (by omega) hF' hop hk (by omega) hwk hv h4 (fun z => absurd ((hsu w hwk).mp z) hw) (fun _ => ?_)) (fun μ' q => q)
      refine hP _ (RFr_tr (RFr_le hfr (by omega)) (RFr_tr (RFr_row (c := 52) (j := f) (by omega) (by omega)) (RFr_22 (by omega)))) (Or.inr (Or.inr ⟨rfl, ?_, ?_, ?_⟩))
      · rw [zm_up_at, if_neg (by omega), zm_up_row (by decide)]; exact h3.2.1
      · rw [zm_up_at, if_pos ⟨rfl, rfl⟩]
      · rw [zm_up_at, if_neg (by omega), zm_up_row (by decide)]; exact h3.2.2.2.2.2.2.2.2
    · rw [ho] at h1
      exact absurd h1.1 (nI_m1 (by omega))
    · rw [ho] at h1
      exact absurd h1.1 (nI_m2 (by omega))
  · exact Or.inl ⟨Or.inl rfl, neg _ (Or.inl rfl) ho⟩
  · exact Or.inl ⟨Or.inr rfl, neg _ (Or.inr rfl) ho⟩
theorem st_ok (hdr : 1 ≤ d) (hf : f < 60) (hs : s ≤ 600) (hR : RE μ vs s b t B E (f + 1)) {x : Int32} (hx : x = nI pk) : zO X d 145 [.inr 22, .inl x] μ (fun μ' => μ' = started μ pk (f + 1) s B t) := m_start hdr hs (by omega) hR.2.1 hR.2.2.2.2.2.2.1 hR.2.2.2.1 hR.2.2.2.2.1 hx
theorem rst_gen (hdr : 8 ≤ dr) (hf : f < 60) (hs6 : s ≤ 600) (h : TT L μ0 e p u n k ns) (hk : 3 ≤ k ∧ k ≤ 16 ∧ k ≠ 5 ∧ k ≠ 9) (hst : st < ns.length) (hst3 : st < 100) : RST X dr μ0 p k st (p + 1 + (ns.take st).sum) K vs s b t B E f := by
  intro μ hs hR hF hK hg Q hQ
  obtain ⟨h1, h2, h3, h4, h5, h6, h7, h8⟩ := h
  have e3 : (3 : Int32) = nI 3 := rfl
  have e5 : (5 : Int32) = nI 5 := rfl
  have e9 : (9 : Int32) = nI 9 := rfl
  have e17 : (17 : Int32) = nI 17 := rfl
  have n3 : (3 : Int32) ≤ nI k := by rw [e3, nI_leI (by omega) (by omega)]; omega
  have n5 : ¬ nI k = (5 : Int32) := by rw [e5, nI_inj (by omega) (by omega)]; omega
  have n9 : ¬ nI k = (9 : Int32) := by rw [e9, nI_inj (by omega) (by omega)]; omega
  have n17 : ¬ nI k = (17 : Int32) := by rw [e17, nI_inj (by omega) (by omega)]; omega
  have hak : ns.length ≤ 9 := by rw [h6]; exact ar_le _ _
  refine k149_88 (fun _ _ _ _ => by rw [nI_t (by omega)]; omega) (fun _ _ _ _ => ⟨_, m_arity (by omega) h5.1 (fun z => absurd z n17), fun r μ1 hr => ?_⟩) (fun _ _ _ z => absurd z n17) (fun _ _ z => absurd z n9) (fun _ z => absurd z n5) (fun z => absurd n3 z)
  obtain ⟨rfl, rfl⟩ := hr
  rw [nI_c (by omega), hs.2.2.2.2.1, h4, ← h6]
  refine k149_162 (fun z => absurd z (by rw [nI_leI (by omega) (by omega)]; omega)) (fun _ => ⟨_, m_part (m := 0) (L := L) (e := e) (u := u) (by omega) (by omega) (by omega) (by omega) (Tl_SA hs h8) (by omega), fun r μ2 hr2 => ?_⟩)
  obtain ⟨rfl, rfl⟩ := hr2
  refine k149_173 ⟨_, st_ok (pk := p + 1 + (ns.take st).sum) (by omega) hf hs6 hR rfl, fun μ3 hr3 => ?_⟩
  obtain rfl := hr3
  exact k149_176 (k149_185 hQ)
end EA

section EVM
variable {X : zm_T} {d dr L : Nat} {μ μ' μ0 μ1 : zm_u} {vs : List vE} {v k w : Nat} {x o : Int32} {st : sT}
def MD (L : Nat) (μ0 : zm_u) : Prop := ∃ n e : Nat, n ≤ 40 ∧ e ≤ 6 ∧ μ0 2 7 = nI (520 + n - 1) ∧ Tm L μ0 e 520 520 n
theorem CA_C (h : CFr μ μ') : CA μ μ' := fun c a b q => h.1 c a b (by omega) (by omega) (by omega) (by omega) (by omega)
theorem CA_tr (h1 : CA μ μ1) (h2 : CA μ1 μ') : CA μ μ' := fun c a b q => (h2 c a b q).trans (h1 c a b q)
theorem CA_W (h : WF μ μ') : CA μ μ' := fun c a b q => h.1 c b (by omega) (by omega)
theorem CA_up {c j : Nat} {y : Int32} (hc : c = 4 ∨ c = 5) : CA μ (zm_up μ c j y) := fun q a b _ => zm_up_row (by omega)
theorem RA_R (h : RFr 0 μ μ') : RA μ μ' := ⟨fun c a b => h.2.2.1 c (by omega), fun i a1 a2 a3 a4 a5 a6 a7 a8 a9 a10 a11 => h.2.2.2 i a1 a2 a5 a6 a7 a8 a9 a10 a11⟩
theorem RA_tr (h1 : RA μ μ1) (h2 : RA μ1 μ') : RA μ μ' := ⟨fun c a b => (h2.1 c a b).trans (h1.1 c a b), fun i a1 a2 a3 a4 a5 a6 a7 a8 a9 a10 a11 => (h2.2 i a1 a2 a3 a4 a5 a6 a7 a8 a9 a10 a11).trans (h1.2 i a1 a2 a3 a4 a5 a6 a7 a8 a9 a10 a11)⟩
theorem RA_up {j : Nat} {y : Int32} (hj : j = 27 ∨ j = 37 ∨ j = 41 ∨ j = 42 ∨ j = 43 ∨ j = 50 ∨ j = 51 ∨ j = 52 ∨ j = 53 ∨ j = 54 ∨ j = 55) : RA μ (zm_up μ 22 j y) := ⟨fun c a _ => zm_up_row a, fun i a1 a2 a3 a4 a5 a6 a7 a8 a9 a10 a11 => by rw [zm_up_at, if_neg (by omega)]⟩
theorem SA_CA (h : SA μ0 μ) (hf : CA μ μ') : SA μ0 μ' := by
  obtain ⟨a1, a2, a3, a4, a5, a6⟩ := h
  exact ⟨(hf 9 (by decide) (by decide) (by decide)).trans a1, (hf 10 (by decide) (by decide) (by decide)).trans a2, (hf 11 (by decide) (by decide) (by decide)).trans a3, (hf 27 (by decide) (by decide) (by decide)).trans a4, (hf 28 (by decide) (by decide) (by decide)).trans a5, (hf 2 (by decide) (by decide) (by decide)).trans a6⟩
theorem SA_RA (h : SA μ0 μ) (hf : RA μ μ') : SA μ0 μ' := by
  obtain ⟨a1, a2, a3, a4, a5, a6⟩ := h
  exact ⟨(hf.1 9 (by decide) (by decide)).trans a1, (hf.1 10 (by decide) (by decide)).trans a2, (hf.1 11 (by decide) (by decide)).trans a3, (hf.1 27 (by decide) (by decide)).trans a4, (hf.1 28 (by decide) (by decide)).trans a5, (hf.1 2 (by decide) (by decide)).trans a6⟩
theorem SA_rf : SA μ μ := ⟨rfl, rfl, rfl, rfl, rfl, rfl⟩

theorem ev_main (hB : BD L μ0) (hM : MD L μ0) (hd : 152 ≤ d) (hdr : 11 ≤ dr) : ∃ (o : Int32) (vs : List vE) (s : Nat), EPost [] 0 o vs s ∧
    (∀ μ, SA μ0 μ → zI X d 7 [.inr 0] μ (fun r μ' => r = o_out o ∧ CA μ μ' ∧ μ' 4 6 = nI s ∧ ((o = -1 ∨ o = -2) ∧ μ' 5 7 = 0 ∨ ∃ v, v < vs.length ∧ o = nI v ∧ CV μ' vs ∧ WR μ' (wr vs 200 [v])))) ∧
    (∀ μ, SA μ0 μ → zI X dr 155 [.inr 22] μ (fun r μ' => r = o_out o ∧ RA μ μ' ∧ μ' 22 43 = nI s ∧ μ' 22 41 = o_out o ∧ (∀ v, v < vs.length → o = nI v → RV μ' vs ∧ μ' 22 42 = nI v))) := by
  obtain ⟨n, e, hn, he, h27, hT⟩ := hM
  obtain ⟨o, vs, s, p1, c1, r1⟩ := Jv_all (X := X) (dr := dr - 1) hB (by omega) 34 e 520 520 n 0 [] 0 0 0 0 (fun _ => 0) (by omega) hT ⟨by simp, by omega, by omega, by omega, by omega, by omega, fun i hi => by omega, fun i w num ps hi => by simp at hi⟩
  have hl6 : vs.length ≤ 600 := by have := p1.2.2.1; have := p1.2.2.2.2.1; simp at *; omega
  refine ⟨o, vs, s, p1, fun μ hs => ?_, fun μ hs => ?_⟩
  · refine zI_at [0] (by omega) rfl (k7_0 ⟨_, zI_at [0] (by omega) rfl (k64_0 ⟨fun μ' => μ' = zm_up (zm_up μ 5 6 0) 5 7 0, zO_at [0] (by omega) rfl (k80_0 rfl), fun μ1 hr => ?_⟩), fun r μ1 hr => k7_7 hr⟩)
    subst hr
    have hf0 : CA μ (zm_up (zm_up (zm_up (zm_up (zm_up (zm_up μ 5 6 0) 5 7 0) 4 3 0) 4 4 0) 4 5 0) 4 6 0) := CA_tr (CA_tr (CA_tr (CA_tr (CA_tr (CA_up (Or.inr rfl)) (CA_up (Or.inr rfl))) (CA_up (Or.inl rfl))) (CA_up (Or.inl rfl))) (CA_up (Or.inl rfl))) (CA_up (Or.inl rfl))
    have hc0 : CE (zm_up (zm_up (zm_up (zm_up (zm_up (zm_up μ 5 6 0) 5 7 0) 4 3 0) 4 4 0) 4 5 0) 4 6 0) [] 0 0 0 0 (fun _ => 0) := by
      refine ⟨⟨by simp, ?_, fun i w num ps hi => by simp at hi⟩, ?_, ?_, ?_, ?_, fun i hi => by omega⟩ <;> simp [zm_up_at] <;> rfl
    have h57 : (zm_up (zm_up (zm_up (zm_up (zm_up (zm_up μ 5 6 0) 5 7 0) 4 3 0) 4 4 0) 4 5 0) 4 6 0) 5 7 = 0 := by simp [zm_up_at]
    have hs0 := SA_CA hs hf0
    refine k64_7 ⟨fun r μ' => μ' = zm_up (zm_up (zm_up (zm_up (zm_up (zm_up μ 5 6 0) 5 7 0) 4 3 0) 4 4 0) 4 5 0) 4 6 0 ∧ r = nI (520 + n - 1), zI_at [0] (by omega) rfl (k31_0 ⟨rfl, ?_⟩), fun r μ1 hr => ?_⟩
    · rw [hs0.2.2.2.2.2]; exact h27
    obtain ⟨rfl, rfl⟩ := hr
    refine k64_35 ⟨_, zI_mono (c1 _ hs0 hc0) (by omega) (fun _ _ q => q), fun r μ2 hr => ?_⟩
    obtain ⟨rfl, k1, k2⟩ := hr
    have h572 : μ2 5 7 = 0 := (k2.2 7 (by decide)).trans h57
    have hf2 := CA_tr hf0 (CA_C k2)
    rcases p1.2.2.2.2.2 with ⟨v, hv, rfl⟩ | rfl | rfl
    · have n1 := nI_m1 (v := v) (by omega)
      have n2 := nI_m2 (v := v) (by omega)
      refine k64_38 (fun _ _ => ⟨_, c_write (by omega) p1.2.1 k1.1 hv, fun μ3 hr => k64_62 ?_⟩) (fun _ z => absurd z n2) (fun z => absurd z n1)
      obtain ⟨w1, w2⟩ := hr
      refine ⟨?_, CA_tr hf2 (CA_W w1), ?_, Or.inr ⟨v, hv, rfl, CV_WF k1.1 w1, w2⟩⟩
      · unfold o_out
        rw [if_neg n1, if_neg n2]
      · rw [w1.1 4 (by decide) (by decide) (by decide)]; exact k1.2.2.2.2.1
    · exact k64_38 (fun z => absurd rfl z) (fun z => absurd rfl z) (fun _ => ⟨rfl, hf2, k1.2.2.2.2.1, Or.inl ⟨Or.inl rfl, h572⟩⟩)
    · exact k64_38 (fun _ z => absurd rfl z) (fun _ _ => ⟨rfl, hf2, k1.2.2.2.2.1, Or.inl ⟨Or.inr rfl, h572⟩⟩) (fun z => absurd z (by decide))
  · refine zI_at [0] (by omega) rfl (k155_0 (Or.inl rfl) (Or.inl rfl) ?_)
    have hf0 : RA μ (zm_up (zm_up (zm_up (zm_up (zm_up (zm_up (zm_up (zm_up μ 22 37 0) 22 43 0) 22 27 0) 22 50 0) 22 51 0) 22 52 0) 22 54 0) 22 55 0) :=
      RA_tr (RA_tr (RA_tr (RA_tr (RA_tr (RA_tr (RA_tr (RA_up (by omega)) (RA_up (by omega))) (RA_up (by omega))) (RA_up (by omega))) (RA_up (by omega))) (RA_up (by omega))) (RA_up (by omega))) (RA_up (by omega))
    have hR0 : RE (zm_up (zm_up (zm_up (zm_up (zm_up (zm_up (zm_up (zm_up μ 22 37 0) 22 43 0) 22 27 0) 22 50 0) 22 51 0) 22 52 0) 22 54 0) 22 55 0) [] 0 0 0 0 (fun _ => 0) 0 := by
      refine ⟨⟨?_, fun i w num ps hi => by simp at hi⟩, ?_, ?_, ?_, ?_, fun i hi => by omega, ?_, ?_, ?_⟩ <;> simp [zm_up_at] <;> rfl
    generalize (zm_up (zm_up (zm_up (zm_up (zm_up (zm_up (zm_up (zm_up μ 22 37 0) 22 43 0) 22 27 0) 22 50 0) 22 51 0) 22 52 0) 22 54 0) 22 55 0) = μ1 at hf0 hR0 ⊢
    have hs1 := SA_RA hs hf0
    refine ⟨_, m_start (p := 520) (f := 0) (s := 0) (B := 0) (t := 0) (by omega) (by omega) (by omega) hR0.2.1 hR0.2.2.2.2.2.2.1 hR0.2.2.2.1 hR0.2.2.2.2.1 rfl, fun μ2 hr => ?_⟩
    obtain rfl := hr
    refine r1 μ1 hs1 hR0 _ (fun μ3 hfr hro => ?_)
    have hf3 := RA_tr hf0 (RA_R hfr)
    have fin : ∀ q : Int32, μ3 22 43 = nI s → o_out o = q → (∀ v, v < vs.length → o = nI v → RV μ3 vs ∧ μ3 22 53 = nI v) → zV X (dr - 1) 155 107 [(0, .inr 22)] [.inl q, .inr 22] (zm_up μ3 22 42 (μ3 22 53)) (zpi (fun r μ' => r = o_out o ∧ RA μ μ' ∧ μ' 22 43 = nI s ∧ μ' 22 41 = o_out o ∧ (∀ v, v < vs.length → o = nI v → RV μ' vs ∧ μ' 22 42 = nI v))) := by
      intro q h43 hq hv
      refine k155_107 ⟨hq.symm, RA_tr hf3 (RA_tr (RA_up (by omega)) (RA_up (by omega))), ?_, ?_, fun v hvl hov => ⟨⟨?_, fun i w num ps hi => ?_⟩, ?_⟩⟩
      · rw [zm_up_at, if_neg (by omega), zm_up_at, if_neg (by omega)]; exact h43
      · rw [zm_up_at, if_pos ⟨rfl, rfl⟩, hq]
      · rw [zm_up_at, if_neg (by omega), zm_up_at, if_neg (by omega)]; exact (hv v hvl hov).1.1
      · rw [zm_up_row (by decide), zm_up_row (by decide), zm_up_row (by decide), zm_up_row (by decide), zm_up_row (by decide), zm_up_row (by decide)]
        exact (hv v hvl hov).1.2 i w num ps hi
      · rw [zm_up_at, if_neg (by omega), zm_up_at, if_pos ⟨rfl, rfl⟩]; exact (hv v hvl hov).2
    rcases hro with ⟨v, hv, rfl, h3, h4⟩ | ⟨rfl, h1, h2, h3⟩ | ⟨rfl, h1, h2, h3⟩
    · have h0 : μ3 22 27 ≤ 0 := by rw [h3.2.2.2.2.2.2.1]; decide
      have n1 := nI_m1 (v := v) (by omega)
      have n2 := nI_m2 (v := v) (by omega)
      refine k155_47 (fun _ => k155_75 (fun _ _ => fin 0 h3.2.1 ?_ (fun v' hv' hov => ?_)) (fun _ z => absurd h3.2.2.2.2.2.2.2.1 z) (fun z => absurd h3.2.2.2.2.2.2.2.2 z)) (fun z => absurd h0 z) (fun z => absurd h0 z) (fun z => absurd h0 z)
      · unfold o_out
        rw [if_neg n1, if_neg n2]
      · rw [nI_inj (by omega) (by omega)] at hov
        subst hov
        exact ⟨h3.1, h4⟩
    · have g : zV X (dr - 1) 155 75 [(0, .inr 22)] [] μ3 (zpi (fun r μ' => r = o_out (-1) ∧ RA μ μ' ∧ μ' 22 43 = nI s ∧ μ' 22 41 = o_out (-1) ∧ (∀ v, v < vs.length → -1 = nI v → RV μ' vs ∧ μ' 22 42 = nI v))) :=
        k155_75 (fun z => absurd (h2.symm.trans z) zn_10) (fun z => absurd (h2.symm.trans z) zn_10) (fun _ => fin 1 h1 rfl (fun v hv hov => absurd hov.symm (nI_m1 (by omega))))
      exact k155_47 (fun _ => g) (fun _ z => absurd h3 z) (fun _ _ _ => g) (fun _ _ z => absurd (h2.symm.trans z) zn_10)
    · have g : zV X (dr - 1) 155 75 [(0, .inr 22)] [] μ3 (zpi (fun r μ' => r = o_out (-2) ∧ RA μ μ' ∧ μ' 22 43 = nI s ∧ μ' 22 41 = o_out (-2) ∧ (∀ v, v < vs.length → -2 = nI v → RV μ' vs ∧ μ' 22 42 = nI v))) :=
        k155_75 (fun _ z => absurd (h2.symm.trans z) zn_10) (fun _ _ => fin 2 h1 rfl (fun v hv hov => absurd hov.symm (nI_m2 (by omega)))) (fun z => absurd h3 z)
      exact k155_47 (fun _ => g) (fun _ _ => g) (fun _ z => absurd (h2.symm.trans z) zn_10) (fun _ z => absurd (h2.symm.trans z) zn_10)

theorem ev_EvS (p : EPost [] 0 o vs k) (h43 : μ' 22 43 = nI k) (h41 : μ' 22 41 = o_out o) (hv : ∀ v, v < vs.length → o = nI v → RV μ' vs ∧ μ' 22 42 = nI v) (h46 : μ' 4 6 = nI k) (hc : (o = -1 ∨ o = -2) ∧ μ' 5 7 = 0 ∨ ∃ v, v < vs.length ∧ o = nI v ∧ CV μ' vs ∧ WR μ' (wr vs 200 [v])) : EvS μ' := by
  refine ⟨h46.trans h43.symm, ?_⟩
  rcases hc with ⟨h1, h2⟩ | ⟨v, h1, rfl, h3, h4⟩
  · left
    refine ⟨?_, h2⟩
    rw [h41]
    rcases h1 with rfl | rfl <;> decide
  · right
    have hl := h3.1
    obtain ⟨q1, q2⟩ := hv v h1 rfl
    refine ⟨vs, v, p.2.1, h3, q1, h1, ?_, q2, h4⟩
    rw [h41]
    unfold o_out
    rw [if_neg (nI_m1 (by omega)), if_neg (nI_m2 (by omega))]
end EVM

def CI (X : zm_T) (d : Nat) (μ0 : zm_u) (m : Nat) (as : List zm_v) (vs : List vE) (s b t B : Nat) (E : Nat → Nat) (o : Int32) (vs' : List vE) (s' : Nat) : Prop :=
  ∀ μ, SA μ0 μ → CE μ vs s b t B E → zI X d m as μ (fun r μ' => r = o ∧ CE μ' vs' s' b t B E ∧ CFr μ μ')
def CJ (μ0 μ : zm_u) (vs : List vE) (s b t B : Nat) (E : Nat → Nat) (μ1 : zm_u) : Prop := SA μ0 μ1 ∧ CE μ1 vs s b t B E ∧ CFr μ μ1
section EJ
variable {X : zm_T} {d dc dr L g : Nat} {μ μ' μ0 μ1 : zm_u} {vs vs' vs1 vs2 : List vE} {s s1 s2 b t B f i w p q k st pk e u n j m : Nat} {E K : Nat → Nat} {num o o1 o2 oT x : Int32} {ps ns : List Nat}
theorem EPost_tr (h1 : EPost vs s o1 vs1 s1) (h2 : EPost vs1 s1 o2 vs2 s2) : EPost vs s o2 vs2 s2 := by
  obtain ⟨⟨r1, a1⟩, a2, a3, a4, a5, a6⟩ := h1
  obtain ⟨⟨r2, b1⟩, b2, b3, b4, b5, b6⟩ := h2
  exact ⟨⟨r1 ++ r2, by rw [b1, a1, List.append_assoc]⟩, b2, by omega, by omega, b5, b6⟩
theorem EPost_m (h1 : EPost vs s o1 vs1 s1) : EPost vs (s - 1) o1 vs1 s1 := by
  obtain ⟨a1, a2, a3, a4, a5, a6⟩ := h1
  exact ⟨a1, a2, by omega, by omega, a5, a6⟩
theorem EPost_o (h1 : EPost vs s o1 vs1 s1) (h2 : (∃ v, v < vs1.length ∧ o2 = nI v) ∨ o2 = -1 ∨ o2 = -2) : EPost vs (s - 1) o2 vs1 s1 := by
  obtain ⟨a1, a2, a3, a4, a5, a6⟩ := h1
  exact ⟨a1, a2, by omega, by omega, a5, h2⟩
theorem EPost_put (h1 : EPost vs s o1 vs1 s1) (hlt : vs.length < s) (hw : wok w) (hn : w ≠ 1000 → num = 0) (hl : ps.length = vpn w) (hp : ∀ j ∈ ps, j < vs1.length) : EPost vs (s - 1) (nI vs1.length) (vs1 ++ [(w, num, ps)]) s1 := by
  obtain ⟨⟨r1, a1⟩, a2, a3, a4, a5, a6⟩ := h1
  refine ⟨⟨r1 ++ [(w, num, ps)], by rw [a1, List.append_assoc]⟩, VW_add a2 hw hn hl hp, ?_, by omega, a5, Or.inl ⟨vs1.length, by simp, rfl⟩⟩
  simp only [List.length_append, List.length_singleton]
  omega
theorem EP_get {z : vE} {v : Nat} (h1 : EPost vs s o1 vs1 s1) (hv : vs[v]? = some z) : vs1[v]? = some z := by
  obtain ⟨⟨r1, a1⟩, _⟩ := h1
  have hvl := (List.getElem?_eq_some_iff.mp hv).1
  rw [a1, List.getElem?_append_left hvl]
  exact hv
theorem EP_lt (h1 : EPost vs s o1 vs1 s1) (h : vs.length < s) : vs1.length < s1 ∧ vs.length ≤ vs1.length := by
  obtain ⟨⟨r1, a1⟩, a2, a3, _⟩ := h1
  refine ⟨by omega, ?_⟩
  rw [a1]
  simp
theorem EInv_post (h : EInv e b vs s t B f E) (h1 : EPost vs s o1 vs1 s1) : EInv e b vs1 s1 t B f E := by
  obtain ⟨i1, i2, i3, i4, i5, i6, i7, i8⟩ := h
  obtain ⟨⟨r1, a1⟩, a2, a3, a4, a5, a6⟩ := h1
  refine ⟨by omega, a5, i3, i4, i5, i6, fun i hi => ?_, a2⟩
  have := i7 i hi
  rw [a1]
  simp
  omega
theorem EInv_part (h : EInv (e + 1) b vs s t B f E) : EInv e b vs s t B (f + 1) E := by
  obtain ⟨i1, i2, i3, i4, i5, i6, i7, i8⟩ := h
  exact ⟨i1, i2, i3, i4, by omega, by omega, i7, i8⟩

theorem jpart (hJ : Jv X L μ0 dc dr g) (hg : 7 * (4 - b) + e ≤ g) (hd : dc + 1 ≤ d ∧ 6 ≤ d) (hdr : 8 ≤ dr) (hst : st < 3) (hk : 3 ≤ k ∧ k ≤ 17) (h : TT L μ0 e p u n k ns) (hI : EInv (e + 1) b vs s t B f E) (hj : ns[j]? = some m)
    (hS : RST X dr μ0 p k st (p + 1 + (ns.take j).sum) K vs s b t B E f) (hq : q ≤ 4) (hsu : ∀ w, wok w → (su_ok k (st + 1) w ↔ wn_ok q w)) :
    ∃ (oT : Int32) (vs1 : List vE) (s1 : Nat), EPost vs s oT vs1 s1 ∧ EInv (e + 1) b vs1 s1 t B f E ∧ CI X d μ0 71 [.inr 4, .inl (nI (u + n - 1)), .inl (nI j), .inl (nI q)] vs s b t B E oT vs1 s1 ∧
      (((oT = -1 ∨ oT = -2) ∧ RB X dr μ0 p k st K vs s b t B E f oT vs1 s1) ∨ ∃ (v w : Nat) (num : Int32) (ps : List Nat), oT = nI v ∧ vs1[v]? = some (w, num, ps) ∧ wok w ∧ wn_ok q w ∧ ∀ o vs' s', RB X dr μ0 p k (st + 1) (fun i => if i = st then v else K i) vs1 s1 b t B E f o vs' s' → RB X dr μ0 p k st K vs s b t B E f o vs' s') := by
  have hTm := Tl_at ns (p + 1) u j m h.2.2.2.2.2.2.2 hj
  obtain ⟨o1, vs1, s1, hp, hC, hR⟩ := hJ e _ _ m b vs s t B (f + 1) E hg hTm (EInv_part hI)
  obtain ⟨oT, hT, hpT⟩ := Tst_ex hp hq
  have hi1 := EInv_post hI hp
  have h6 := hI.2.2.2.2.2.1
  refine ⟨oT, vs1, s1, hpT, hi1, fun μ hs hc => ?_, rb_step hdr (by omega) hst hk h hR hS hp (by have := hi1.1; have := hi1.2.1; omega) hT hsu⟩
  obtain ⟨h1, h2, h3, h4, h5, h6, h7, h8⟩ := h
  exact c_runPart (p := p + 1) (e := e) (L := L) (ns := ns) (m := m) hd hs ⟨h1.1, h1.2.1⟩ (by rw [h3]; exact h6) (by rw [h3]; exact h5) h7 h8 hj hC hp hq hT hc
theorem ci_step {as : List zm_v} (h : CI X d μ0 m as vs s b t B E o1 vs1 s1) (hs : SA μ0 μ) (hc : CE μ vs s b t B E) : zI X d m as μ (fun r μ' => r = o1 ∧ CJ μ0 μ vs1 s1 b t B E μ') :=
  zI_mono (h μ hs hc) (Nat.le_refl _) (fun r μ' q => ⟨q.1, SA_C hs q.2.2, q.2.1, q.2.2⟩)
theorem cx_nums (hk : k = 3 ∨ k = 4) (h : CI X d μ0 73 [.inr 4, .inl (nI q)] vs s b t B E o vs' s1) : CX X d μ0 q k vs s b t B E o vs' s1 := by
  intro μ hs hc
  rcases hk with rfl | rfl
  · refine k68_30 ?_ ?_ ?_ (fun _ _ _ _ => ⟨_, h μ hs hc, fun r μ1 hr => k68_179 hr⟩) ?_ ?_ ?_ ?_ ?_ ?_ ?_ ?_ ?_ ?_ ?_ ?_ ?_ ?_ ?_ ?_ ?_ ?_ ?_ ?_ ?_ ?_ ?_ <;> (intros; contradiction)
  · refine k68_30 ?_ ?_ ?_ ?_ (fun _ _ _ _ _ => ⟨_, h μ hs hc, fun r μ1 hr => k68_179 hr⟩) ?_ ?_ ?_ ?_ ?_ ?_ ?_ ?_ ?_ ?_ ?_ ?_ ?_ ?_ ?_ ?_ ?_ ?_ ?_ ?_ ?_ ?_ <;> (intros; contradiction)
theorem cx_if (h : CI X d μ0 74 [.inr 4, .inl (nI q)] vs s b t B E o vs' s1) : CX X d μ0 q 5 vs s b t B E o vs' s1 := by
  intro μ hs hc
  refine k68_30 ?_ ?_ ?_ ?_ ?_ (fun _ _ _ _ _ _ => ⟨_, h μ hs hc, fun r μ1 hr => k68_185 hr⟩) ?_ ?_ ?_ ?_ ?_ ?_ ?_ ?_ ?_ ?_ ?_ ?_ ?_ ?_ ?_ ?_ ?_ ?_ ?_ ?_ ?_ <;> (intros; contradiction)
theorem cx_first (h : CI X d μ0 75 [.inr 4, .inl (nI q), .inl 0] vs s b t B E o vs' s1) : CX X d μ0 q 7 vs s b t B E o vs' s1 := by
  intro μ hs hc
  refine k68_30 ?_ ?_ ?_ ?_ ?_ ?_ ?_ ?_ (fun _ _ _ _ _ _ _ _ => ⟨_, h μ hs hc, fun r μ1 hr => k68_192 hr⟩) ?_ ?_ ?_ ?_ ?_ ?_ ?_ ?_ ?_ ?_ ?_ ?_ ?_ ?_ ?_ ?_ ?_ ?_ <;> (intros; contradiction)
theorem cx_second (h : CI X d μ0 75 [.inr 4, .inl (nI q), .inl 1] vs s b t B E o vs' s1) : CX X d μ0 q 8 vs s b t B E o vs' s1 := by
  intro μ hs hc
  refine k68_30 ?_ ?_ ?_ ?_ ?_ ?_ ?_ ?_ ?_ (fun _ _ _ _ _ _ _ _ _ => ⟨_, h μ hs hc, fun r μ1 hr => k68_199 hr⟩) ?_ ?_ ?_ ?_ ?_ ?_ ?_ ?_ ?_ ?_ ?_ ?_ ?_ ?_ ?_ ?_ ?_ <;> (intros; contradiction)
theorem cx_call (h : CI X d μ0 77 [.inr 4, .inl (nI q)] vs s b t B E o vs' s1) : CX X d μ0 q 9 vs s b t B E o vs' s1 := by
  intro μ hs hc
  refine k68_30 ?_ ?_ ?_ ?_ ?_ ?_ ?_ ?_ ?_ ?_ (fun _ _ _ _ _ _ _ _ _ _ => ⟨_, h μ hs hc, fun r μ1 hr => k68_205 hr⟩) ?_ ?_ ?_ ?_ ?_ ?_ ?_ ?_ ?_ ?_ ?_ ?_ ?_ ?_ ?_ ?_ <;> (intros; contradiction)
theorem cx_as (h : CI X d μ0 71 [.inr 4, .inl (nI q), .inl 0, .inl 0] vs s b t B E o vs' s1) : CX X d μ0 q 10 vs s b t B E o vs' s1 := by
  intro μ hs hc
  refine k68_30 ?_ ?_ ?_ ?_ ?_ ?_ ?_ ?_ ?_ ?_ ?_ (fun _ _ _ _ _ _ _ _ _ _ _ => ⟨_, h μ hs hc, fun r μ1 hr => k68_213 hr⟩) ?_ ?_ ?_ ?_ ?_ ?_ ?_ ?_ ?_ ?_ ?_ ?_ ?_ ?_ ?_ <;> (intros; contradiction)
theorem cx_cases (h : CI X d μ0 78 [.inr 4, .inl (nI q)] vs s b t B E o vs' s1) : CX X d μ0 q 17 vs s b t B E o vs' s1 := by
  intro μ hs hc
  refine k68_30 ?_ ?_ ?_ ?_ ?_ ?_ ?_ ?_ ?_ ?_ ?_ ?_ ?_ ?_ ?_ ?_ ?_ ?_ ?_ ?_ ?_ ?_ ?_ ?_ (fun _ _ _ _ _ _ _ _ _ _ _ _ _ _ _ _ _ _ => ⟨_, h μ hs hc, fun r μ1 hr => k68_219 hr⟩) ?_ ?_ <;> (intros; contradiction)

theorem rb_comb (hdr : 8 ≤ dr) (hf : f < 60) (h : TT L μ0 e p u n k ns) (hk : 3 ≤ k ∧ k ≤ 16 ∧ k ≠ 5 ∧ k ≠ 9) (hst : st = ns.length)
    (hC : ∀ μ, SA μ0 μ → RE μ vs s b t B E (f + 1) → FD μ f p (st + 1) B t → (∀ i, i < st → μ 56 (3 * f + i) = nI (K i)) → ∀ P : Int32 → zm_u → Prop, (∀ μ', RFr f μ μ' → RO μ' o vs' s1 b t B E f → HB X dr P μ') → zV X (dr - 2) 154 0 [(0, .inr 22), (1, .inl (nI f)), (2, .inl (nI k))] [] μ (zpo (HB X dr P))) : RB X dr μ0 p k st K vs s b t B E f o vs' s1 := by
  intro μ hs hR hF hK hg P hP
  obtain ⟨h1, h2, h3, h4, h5, h6, h7, h8⟩ := h
  have e3 : (3 : Int32) = nI 3 := rfl
  have e5 : (5 : Int32) = nI 5 := rfl
  have e9 : (9 : Int32) = nI 9 := rfl
  have e17 : (17 : Int32) = nI 17 := rfl
  have n3 : (3 : Int32) ≤ nI k := by rw [e3, nI_leI (by omega) (by omega)]; omega
  have n5 : ¬ nI k = (5 : Int32) := by rw [e5, nI_inj (by omega) (by omega)]; omega
  have n9 : ¬ nI k = (9 : Int32) := by rw [e9, nI_inj (by omega) (by omega)]; omega
  have n17 : ¬ nI k = (17 : Int32) := by rw [e17, nI_inj (by omega) (by omega)]; omega
  have hak : ns.length ≤ 9 := by rw [h6]; exact ar_le _ _
  refine k149_88 (fun _ _ _ _ => by rw [nI_t (by omega)]; omega) (fun _ _ _ _ => ⟨_, m_arity (by omega) h5.1 (fun z => absurd z n17), fun r μ1 hr => ?_⟩) (fun _ _ _ z => absurd z n17) (fun _ _ z => absurd z n9) (fun _ z => absurd z n5) (fun z => absurd n3 z)
  obtain ⟨rfl, rfl⟩ := hr
  rw [nI_c (by omega), hs.2.2.2.2.1, h4, ← h6]
  refine k149_162 (fun _ => ⟨HB X dr P, zO_at [0, 1, 2] (by omega) rfl (hC _ hs hR hF hK P hP), fun μ1 hq => k149_185 hq⟩) (fun z => absurd (by rw [nI_leI (by omega) (by omega)]; omega) z)
theorem gv_ok (hd : 1 ≤ d) (hf : f < 60) {v : Int32} (hR : μ 22 27 = nI (f + 1)) (h4 : μ 54 f = nI B) (h5 : μ 55 f = nI t) : zO X d 146 [.inr 22, .inl v] μ (fun μ' => μ' = gv_mem μ v f B t) := m_give hd (by omega) hR h4 h5
end EJ

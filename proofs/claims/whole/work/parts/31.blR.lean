theorem k0_0 {X : zm_T} {d : Nat} {v1 v2 v3 : Int32} {μ : zm_u} {P : Int32 → zm_u → Prop}
    (h0 : ∃ G : Int32 → zm_u → Prop, zI X d 19 [.inr 1, .inl v1, .inl v2, .inl v3] μ G ∧ ∀ (r : Int32) (μ1 : zm_u), G r μ1 → zV X d 0 10 [(0, .inr 0), (1, .inl v1), (2, .inl v2), (3, .inl v3)] [.inl r] μ1 (zpi P)) :
    zV X d 0 0 [(0, .inr 0), (1, .inl v1), (2, .inl v2), (3, .inl v3)] [] μ (zpi P) :=
  (zm_run [(0, 1, 27, 0, 0, 0, []), (1, 4, 4, 0, 0, 0, []), (4, 5, 1, 1, 0, 0, []), (5, 6, 1, 2, 0, 0, []), (6, 7, 1, 3, 0, 0, [])] _ _ _ _ [] 7 [(0, .inr 0), (1, .inl v1), (2, .inl v2), (3, .inl v3)] [.inl v3, .inl v2, .inl v1, .inr 1] μ (by decide +kernel) rfl rfl (by obtain ⟨G, he, hk⟩ := h0; exact zm_callV (as := [.inr 1, .inl v1, .inl v2, .inl v3]) (rest := []) (P := zpi G) (nx := 10) (a := 19) (b := 4) (k := 1) (sw := []) (zq_of (by decide +kernel)) rfl rfl rfl he (fun _ μ1 hp => by obtain ⟨v, rfl, hp⟩ := hp; exact (zm_V_pick [0, 1, 2, 3] rfl (hk v μ1 hp)))))

theorem k0_10 {X : zm_T} {d : Nat} {s0 v1 v2 v3 : Int32} {μ : zm_u} {P : Int32 → zm_u → Prop}
    (h0 : ¬ s0 = 0 → ¬ v1 = 0 → zV X d 0 24 [(0, .inr 0), (1, .inl v1), (2, .inl v2)] [.inl (0 : Int32)] μ (zpi P))
    (h1 : ¬ s0 = 0 → v1 = 0 → zV X d 0 24 [(0, .inr 0), (1, .inl v1), (2, .inl v2)] [.inl v3] μ (zpi P))
    (h2 : s0 = 0 → P (-1 : Int32) μ) :
    zV X d 0 10 [(0, .inr 0), (1, .inl v1), (2, .inl v2), (3, .inl v3)] [.inl s0] μ (zpi P) :=
  (zm_if (nx := 13) (a := 15) (b := 1) (k := 0) (sw := []) (zq_of (by decide +kernel)) (fun z1 => (zm_run [(15, 16, 1, 1, 0, 0, [])] _ _ _ _ [] 16 [(0, .inr 0), (1, .inl v1), (2, .inl v2), (3, .inl v3)] [.inl v1] μ (by decide +kernel) rfl rfl (zm_if (nx := 19) (a := 23) (b := 1) (k := 0) (sw := []) (zq_of (by decide +kernel)) (fun z2 => (zm_run [(23, 24, 0, 0, 0, 0, [])] _ _ _ _ [] 24 [(0, .inr 0), (1, .inl v1), (2, .inl v2), (3, .inl v3)] [.inl (0 : Int32)] μ (by decide +kernel) rfl rfl (zm_V_pick [0, 1, 2] rfl (h0 (of_decide_eq_true z1) (of_decide_eq_true z2))))) (fun z2 => (zm_run [(19, 20, 1, 3, 0, 0, []), (20, 23, 19, 24, 0, 0, [])] _ _ _ _ [] 24 [(0, .inr 0), (1, .inl v1), (2, .inl v2), (3, .inl v3)] [.inl v3] μ (by decide +kernel) rfl rfl (zm_V_pick [0, 1, 2] rfl (h1 (of_decide_eq_true z1) (Classical.byContradiction fun w => (of_decide_eq_false z2) w)))))))) (fun z1 => (zm_run [(13, 14, 0, 0, 0, (-1), [])] _ _ _ _ [] 14 [(0, .inr 0), (1, .inl v1), (2, .inl v2), (3, .inl v3)] [.inl (-1 : Int32)] μ (by decide +kernel) rfl rfl (zm_iret (nx := 15) (a := 0) (b := 0) (k := 0) (sw := []) (zq_of (by decide +kernel)) ⟨_, rfl, (h2 (Classical.byContradiction fun w => (of_decide_eq_false z1) w))⟩))))

theorem k0_24 {X : zm_T} {d : Nat} {s0 v1 v2 : Int32} {μ : zm_u} {P : Int32 → zm_u → Prop}
    (h0 : ∃ G : Int32 → zm_u → Prop, zI X d 22 [.inr 1, .inl v1, .inl v2, .inl s0] μ G ∧ ∀ (r : Int32) (μ1 : zm_u), G r μ1 → zV X d 0 37 [(0, .inr 0), (1, .inl v1), (2, .inl v2), (4, .inl s0)] [.inl r] μ1 (zpi P)) :
    zV X d 0 24 [(0, .inr 0), (1, .inl v1), (2, .inl v2)] [.inl s0] μ (zpi P) :=
  (zm_run [(24, 26, 2, 4, 0, 0, []), (26, 27, 27, 0, 0, 0, []), (27, 30, 4, 0, 0, 0, []), (30, 31, 1, 1, 0, 0, []), (31, 32, 1, 2, 0, 0, []), (32, 34, 1, 4, 0, 0, [])] _ _ _ _ [] 34 [(0, .inr 0), (1, .inl v1), (2, .inl v2), (4, .inl s0)] [.inl s0, .inl v2, .inl v1, .inr 1] μ (by decide +kernel) rfl rfl (by obtain ⟨G, he, hk⟩ := h0; exact zm_callV (as := [.inr 1, .inl v1, .inl v2, .inl s0]) (rest := []) (P := zpi G) (nx := 37) (a := 22) (b := 4) (k := 1) (sw := []) (zq_of (by decide +kernel)) rfl rfl rfl he (fun _ μ1 hp => by obtain ⟨v, rfl, hp⟩ := hp; exact (zm_V_pick [0, 1, 2, 4] rfl (hk v μ1 hp)))))

theorem k0_37 {X : zm_T} {d : Nat} {s0 v1 v2 v4 : Int32} {μ : zm_u} {P : Int32 → zm_u → Prop}
    (h0 : s0 = (-1 : Int32) → ∃ G : Int32 → zm_u → Prop, zI X d 14 [.inr 1] μ G ∧ ∀ (r : Int32) (μ1 : zm_u), G r μ1 → zV X d 0 55 [(0, .inr 0), (1, .inl v1), (2, .inl v2), (4, .inl v4)] [.inl r] μ1 (zpi P))
    (h1 : ¬ (s0 = (-1 : Int32)) → P s0 μ) :
    zV X d 0 37 [(0, .inr 0), (1, .inl v1), (2, .inl v2), (4, .inl v4)] [.inl s0] μ (zpi P) :=
  (zm_run [(37, 39, 2, 5, 0, 0, []), (39, 41, 1, 5, 0, 0, []), (41, 42, 0, 0, 0, (-1), [])] _ _ _ _ [] 42 [(0, .inr 0), (1, .inl v1), (2, .inl v2), (4, .inl v4), (5, .inl s0)] [.inl (-1 : Int32), .inl s0] μ (by decide +kernel) rfl rfl (zm_icmp (nx := 45) (a := 48) (b := 0) (k := 0) (sw := []) (zq_of (by decide +kernel)) (fun z1 => (zm_run [(48, 49, 27, 0, 0, 0, []), (49, 52, 4, 0, 0, 0, [])] _ _ _ _ [] 52 [(0, .inr 0), (1, .inl v1), (2, .inl v2), (4, .inl v4), (5, .inl s0)] [.inr 1] μ (by decide +kernel) rfl rfl (by obtain ⟨G, he, hk⟩ := (h0 (of_decide_eq_true z1)); exact zm_callV (as := [.inr 1]) (rest := []) (P := zpi G) (nx := 55) (a := 14) (b := 1) (k := 1) (sw := []) (zq_of (by decide +kernel)) rfl rfl rfl he (fun _ μ1 hp => by obtain ⟨v, rfl, hp⟩ := hp; exact (zm_V_pick [0, 1, 2, 4] rfl (hk v μ1 hp)))))) (fun z1 => (zm_run [(45, 47, 1, 5, 0, 0, [])] _ _ _ _ [] 47 [(0, .inr 0), (1, .inl v1), (2, .inl v2), (4, .inl v4), (5, .inl s0)] [.inl s0] μ (by decide +kernel) rfl rfl (zm_iret (nx := 48) (a := 0) (b := 0) (k := 0) (sw := []) (zq_of (by decide +kernel)) ⟨_, rfl, (h1 (of_decide_eq_false z1))⟩)))))

theorem k0_55 {X : zm_T} {d : Nat} {s0 v1 v2 v4 : Int32} {μ : zm_u} {P : Int32 → zm_u → Prop}
    (h0 : (24 : Int32) ≤ s0 → P (-2 : Int32) μ)
    (h1 : ¬ ((24 : Int32) ≤ s0) → ∃ G : Int32 → zm_u → Prop, zI X d 20 [.inr 1, .inl v1, .inl v2, .inl v4] μ G ∧ ∀ (r : Int32) (μ1 : zm_u), G r μ1 → zV X d 0 71 [(0, .inr 0), (1, .inl v1), (2, .inl v2), (4, .inl v4)] [.inl r] μ1 (zpi P)) :
    zV X d 0 55 [(0, .inr 0), (1, .inl v1), (2, .inl v2), (4, .inl v4)] [.inl s0] μ (zpi P) :=
  (zm_run [(55, 57, 0, 0, 0, 24, [])] _ _ _ _ [] 57 [(0, .inr 0), (1, .inl v1), (2, .inl v2), (4, .inl v4)] [.inl (24 : Int32), .inl s0] μ (by decide +kernel) rfl rfl (zm_icmp (nx := 60) (a := 75) (b := 3) (k := 0) (sw := []) (zq_of (by decide +kernel)) (fun z1 => (zm_run [(75, 77, 0, 0, 0, (-2), [])] _ _ _ _ [] 77 [(0, .inr 0), (1, .inl v1), (2, .inl v2), (4, .inl v4)] [.inl (-2 : Int32)] μ (by decide +kernel) rfl rfl (zm_iret (nx := 78) (a := 0) (b := 0) (k := 0) (sw := []) (zq_of (by decide +kernel)) ⟨_, rfl, (h0 (of_decide_eq_true z1))⟩))) (fun z1 => (zm_run [(60, 61, 27, 0, 0, 0, []), (61, 64, 4, 0, 0, 0, []), (64, 65, 1, 1, 0, 0, []), (65, 66, 1, 2, 0, 0, []), (66, 68, 1, 4, 0, 0, [])] _ _ _ _ [] 68 [(0, .inr 0), (1, .inl v1), (2, .inl v2), (4, .inl v4)] [.inl v4, .inl v2, .inl v1, .inr 1] μ (by decide +kernel) rfl rfl (by obtain ⟨G, he, hk⟩ := (h1 (of_decide_eq_false z1)); exact zm_callV (as := [.inr 1, .inl v1, .inl v2, .inl v4]) (rest := []) (P := zpi G) (nx := 71) (a := 20) (b := 4) (k := 1) (sw := []) (zq_of (by decide +kernel)) rfl rfl rfl he (fun _ μ1 hp => by obtain ⟨v, rfl, hp⟩ := hp; exact (zm_V_pick [0, 1, 2, 4] rfl (hk v μ1 hp))))))))

theorem k0_71 {X : zm_T} {d : Nat} {s0 v1 v2 v4 : Int32} {μ : zm_u} {P : Int32 → zm_u → Prop}
    (h0 : s0 ≤ (4 : Int32) → ∃ G : Int32 → zm_u → Prop, zI X d 23 [.inr 1, .inl v1, .inl v2, .inl v4] μ G ∧ ∀ (r : Int32) (μ1 : zm_u), G r μ1 → zV X d 0 89 [] [.inl r] μ1 (zpi P))
    (h1 : ¬ (s0 ≤ (4 : Int32)) → P (-2 : Int32) μ) :
    zV X d 0 71 [(0, .inr 0), (1, .inl v1), (2, .inl v2), (4, .inl v4)] [.inl s0] μ (zpi P) :=
  (zm_run [(71, 72, 0, 0, 0, 4, [])] _ _ _ _ [] 72 [(0, .inr 0), (1, .inl v1), (2, .inl v2), (4, .inl v4)] [.inl (4 : Int32), .inl s0] μ (by decide +kernel) rfl rfl (zm_icmp (nx := 75) (a := 78) (b := 5) (k := 0) (sw := []) (zq_of (by decide +kernel)) (fun z1 => (zm_run [(78, 79, 27, 0, 0, 0, []), (79, 82, 4, 0, 0, 0, []), (82, 83, 1, 1, 0, 0, []), (83, 84, 1, 2, 0, 0, []), (84, 86, 1, 4, 0, 0, [])] _ _ _ _ [] 86 [(0, .inr 0), (1, .inl v1), (2, .inl v2), (4, .inl v4)] [.inl v4, .inl v2, .inl v1, .inr 1] μ (by decide +kernel) rfl rfl (by obtain ⟨G, he, hk⟩ := (h0 (of_decide_eq_true z1)); exact zm_callV (as := [.inr 1, .inl v1, .inl v2, .inl v4]) (rest := []) (P := zpi G) (nx := 89) (a := 23) (b := 4) (k := 1) (sw := []) (zq_of (by decide +kernel)) rfl rfl rfl he (fun _ μ1 hp => by obtain ⟨v, rfl, hp⟩ := hp; exact (zm_V_pick [] rfl (hk v μ1 hp)))))) (fun z1 => (zm_run [(75, 77, 0, 0, 0, (-2), [])] _ _ _ _ [] 77 [(0, .inr 0), (1, .inl v1), (2, .inl v2), (4, .inl v4)] [.inl (-2 : Int32)] μ (by decide +kernel) rfl rfl (zm_iret (nx := 78) (a := 0) (b := 0) (k := 0) (sw := []) (zq_of (by decide +kernel)) ⟨_, rfl, (h1 (of_decide_eq_false z1))⟩)))))

theorem k0_89 {X : zm_T} {d : Nat} {s0 : Int32} {μ : zm_u} {P : Int32 → zm_u → Prop}
    (h0 : P s0 μ) :
    zV X d 0 89 [] [.inl s0] μ (zpi P) :=
  (zm_iret (nx := 90) (a := 0) (b := 0) (k := 0) (sw := []) (zq_of (by decide +kernel)) ⟨_, rfl, h0⟩)

theorem k1_0 {X : zm_T} {d : Nat} {v1 v2 : Int32} {μ : zm_u} {P : Int32 → zm_u → Prop}
    (h0 : v1 < 0 → P (-1 : Int32) μ)
    (h1 : ¬ (v1 < 0) → (17 : Int32) < v1 → P (-1 : Int32) μ)
    (h2 : ¬ (v1 < 0) → ¬ ((17 : Int32) < v1) → ∃ G : Int32 → zm_u → Prop, zI X d 11 [.inr 0, .inl v1, .inl v2] μ G ∧ ∀ (r : Int32) (μ1 : zm_u), G r μ1 → zV X d 1 16 [(0, .inr 0), (1, .inl v1), (2, .inl v2)] [.inl r] μ1 (zpi P)) :
    zV X d 1 0 [(0, .inr 0), (1, .inl v1), (2, .inl v2)] [] μ (zpi P) :=
  (zm_run [(0, 1, 1, 1, 0, 0, [])] _ _ _ _ [] 1 [(0, .inr 0), (1, .inl v1), (2, .inl v2)] [.inl v1] μ (by decide +kernel) rfl rfl (zm_if (nx := 4) (a := 34) (b := 2) (k := 0) (sw := []) (zq_of (by decide +kernel)) (fun z1 => (zm_run [(34, 35, 0, 0, 0, (-1), [])] _ _ _ _ [] 35 [(0, .inr 0), (1, .inl v1), (2, .inl v2)] [.inl (-1 : Int32)] μ (by decide +kernel) rfl rfl (zm_iret (nx := 36) (a := 0) (b := 0) (k := 0) (sw := []) (zq_of (by decide +kernel)) ⟨_, rfl, (h0 (of_decide_eq_true z1))⟩))) (fun z1 => (zm_run [(4, 5, 1, 1, 0, 0, []), (5, 7, 0, 0, 0, 17, [])] _ _ _ _ [] 7 [(0, .inr 0), (1, .inl v1), (2, .inl v2)] [.inl (17 : Int32), .inl v1] μ (by decide +kernel) rfl rfl (zm_icmp (nx := 10) (a := 34) (b := 4) (k := 0) (sw := []) (zq_of (by decide +kernel)) (fun z2 => (zm_run [(34, 35, 0, 0, 0, (-1), [])] _ _ _ _ [] 35 [(0, .inr 0), (1, .inl v1), (2, .inl v2)] [.inl (-1 : Int32)] μ (by decide +kernel) rfl rfl (zm_iret (nx := 36) (a := 0) (b := 0) (k := 0) (sw := []) (zq_of (by decide +kernel)) ⟨_, rfl, (h1 (of_decide_eq_false z1) (of_decide_eq_true z2))⟩))) (fun z2 => (zm_run [(10, 11, 27, 0, 0, 0, []), (11, 12, 1, 1, 0, 0, []), (12, 13, 1, 2, 0, 0, [])] _ _ _ _ [] 13 [(0, .inr 0), (1, .inl v1), (2, .inl v2)] [.inl v2, .inl v1, .inr 0] μ (by decide +kernel) rfl rfl (by obtain ⟨G, he, hk⟩ := (h2 (of_decide_eq_false z1) (of_decide_eq_false z2)); exact zm_callV (as := [.inr 0, .inl v1, .inl v2]) (rest := []) (P := zpi G) (nx := 16) (a := 11) (b := 3) (k := 0) (sw := []) (zq_of (by decide +kernel)) rfl rfl rfl he (fun _ μ1 hp => by obtain ⟨v, rfl, hp⟩ := hp; exact (zm_V_pick [0, 1, 2] rfl (hk v μ1 hp)))))))))))

theorem k1_16 {X : zm_T} {d : Nat} {s0 v1 v2 : Int32} {μ : zm_u} {P : Int32 → zm_u → Prop}
    (h0 : s0 = 0 → P (-1 : Int32) μ)
    (h1 : ¬ (s0 = 0) → ∃ G : Int32 → zm_u → Prop, zI X d 29 [.inr 2] μ G ∧ ∀ (r : Int32) (μ1 : zm_u), G r μ1 → zV X d 1 26 [(0, .inr 0), (1, .inl v1), (2, .inl v2)] [.inl r] μ1 (zpi P)) :
    zV X d 1 16 [(0, .inr 0), (1, .inl v1), (2, .inl v2)] [.inl s0] μ (zpi P) :=
  (zm_if (nx := 19) (a := 34) (b := 0) (k := 0) (sw := []) (zq_of (by decide +kernel)) (fun z1 => (zm_run [(34, 35, 0, 0, 0, (-1), [])] _ _ _ _ [] 35 [(0, .inr 0), (1, .inl v1), (2, .inl v2)] [.inl (-1 : Int32)] μ (by decide +kernel) rfl rfl (zm_iret (nx := 36) (a := 0) (b := 0) (k := 0) (sw := []) (zq_of (by decide +kernel)) ⟨_, rfl, (h0 (of_decide_eq_true z1))⟩))) (fun z1 => (zm_run [(19, 20, 27, 0, 0, 0, []), (20, 23, 4, 1, 0, 0, [])] _ _ _ _ [] 23 [(0, .inr 0), (1, .inl v1), (2, .inl v2)] [.inr 2] μ (by decide +kernel) rfl rfl (by obtain ⟨G, he, hk⟩ := (h1 (of_decide_eq_false z1)); exact zm_callV (as := [.inr 2]) (rest := []) (P := zpi G) (nx := 26) (a := 29) (b := 1) (k := 2) (sw := []) (zq_of (by decide +kernel)) rfl rfl rfl he (fun _ μ1 hp => by obtain ⟨v, rfl, hp⟩ := hp; exact (zm_V_pick [0, 1, 2] rfl (hk v μ1 hp)))))))

theorem k1_26 {X : zm_T} {d : Nat} {s0 v1 v2 : Int32} {μ : zm_u} {P : Int32 → zm_u → Prop}
    (h0 : ∃ G : Int32 → zm_u → Prop, zI X d 12 [.inl v1, .inl v2] μ G ∧ ∀ (r : Int32) (μ1 : zm_u), G r μ1 → zV X d 1 31 [(0, .inr 0), (1, .inl v1), (2, .inl v2)] [.inl r, .inl s0] μ1 (zpi P)) :
    zV X d 1 26 [(0, .inr 0), (1, .inl v1), (2, .inl v2)] [.inl s0] μ (zpi P) :=
  (zm_run [(26, 27, 1, 1, 0, 0, []), (27, 28, 1, 2, 0, 0, [])] _ _ _ _ [] 28 [(0, .inr 0), (1, .inl v1), (2, .inl v2)] [.inl v2, .inl v1, .inl s0] μ (by decide +kernel) rfl rfl (by obtain ⟨G, he, hk⟩ := h0; exact zm_callS (as := [.inl v1, .inl v2]) (rest := [.inl s0]) (P := zpi G) (nx := 31) (a := 12) (b := 2) (k := 0) (sw := []) (zq_of (by decide +kernel)) rfl rfl rfl he (fun _ μ1 hp => by obtain ⟨v, rfl, hp⟩ := hp; exact (zm_V_pick [0, 1, 2] rfl (hk v μ1 hp)))))

theorem k1_31 {X : zm_T} {d : Nat} {s0 s1 v1 v2 : Int32} {μ : zm_u} {P : Int32 → zm_u → Prop}
    (h0 : s1 ≤ s0 → ∃ G : Int32 → zm_u → Prop, zI X d 36 [.inr 2, .inl v1, .inl v2] μ G ∧ ∀ (r : Int32) (μ1 : zm_u), G r μ1 → zV X d 1 45 [] [.inl r] μ1 (zpi P))
    (h1 : ¬ (s1 ≤ s0) → P (-1 : Int32) μ) :
    zV X d 1 31 [(0, .inr 0), (1, .inl v1), (2, .inl v2)] [.inl s1, .inl s0] μ (zpi P) :=
  (zm_icmp (nx := 34) (a := 36) (b := 3) (k := 0) (sw := []) (zq_of (by decide +kernel)) (fun z1 => (zm_run [(36, 37, 27, 0, 0, 0, []), (37, 40, 4, 1, 0, 0, []), (40, 41, 1, 1, 0, 0, []), (41, 42, 1, 2, 0, 0, [])] _ _ _ _ [] 42 [(0, .inr 0), (1, .inl v1), (2, .inl v2)] [.inl v2, .inl v1, .inr 2] μ (by decide +kernel) rfl rfl (by obtain ⟨G, he, hk⟩ := (h0 (of_decide_eq_true z1)); exact zm_callV (as := [.inr 2, .inl v1, .inl v2]) (rest := []) (P := zpi G) (nx := 45) (a := 36) (b := 3) (k := 2) (sw := []) (zq_of (by decide +kernel)) rfl rfl rfl he (fun _ μ1 hp => by obtain ⟨v, rfl, hp⟩ := hp; exact (zm_V_pick [] rfl (hk v μ1 hp)))))) (fun z1 => (zm_run [(34, 35, 0, 0, 0, (-1), [])] _ _ _ _ [] 35 [(0, .inr 0), (1, .inl v1), (2, .inl v2)] [.inl (-1 : Int32)] μ (by decide +kernel) rfl rfl (zm_iret (nx := 36) (a := 0) (b := 0) (k := 0) (sw := []) (zq_of (by decide +kernel)) ⟨_, rfl, (h1 (of_decide_eq_false z1))⟩))))

theorem k1_45 {X : zm_T} {d : Nat} {s0 : Int32} {μ : zm_u} {P : Int32 → zm_u → Prop}
    (h0 : P s0 μ) :
    zV X d 1 45 [] [.inl s0] μ (zpi P) :=
  (zm_iret (nx := 46) (a := 0) (b := 0) (k := 0) (sw := []) (zq_of (by decide +kernel)) ⟨_, rfl, h0⟩)

theorem k2_0 {X : zm_T} {d : Nat} {μ : zm_u} {P : Int32 → zm_u → Prop}
    (h0 : ∃ G : Int32 → zm_u → Prop, zI X d 29 [.inr 2] μ G ∧ ∀ (r : Int32) (μ1 : zm_u), G r μ1 → zV X d 2 7 [] [.inl r] μ1 (zpi P)) :
    zV X d 2 0 [(0, .inr 0)] [] μ (zpi P) :=
  (zm_run [(0, 1, 27, 0, 0, 0, []), (1, 4, 4, 1, 0, 0, [])] _ _ _ _ [] 4 [(0, .inr 0)] [.inr 2] μ (by decide +kernel) rfl rfl (by obtain ⟨G, he, hk⟩ := h0; exact zm_callV (as := [.inr 2]) (rest := []) (P := zpi G) (nx := 7) (a := 29) (b := 1) (k := 2) (sw := []) (zq_of (by decide +kernel)) rfl rfl rfl he (fun _ μ1 hp => by obtain ⟨v, rfl, hp⟩ := hp; exact (zm_V_pick [] rfl (hk v μ1 hp)))))

theorem k2_7 {X : zm_T} {d : Nat} {s0 : Int32} {μ : zm_u} {P : Int32 → zm_u → Prop}
    (h0 : P s0 μ) :
    zV X d 2 7 [] [.inl s0] μ (zpi P) :=
  (zm_iret (nx := 8) (a := 0) (b := 0) (k := 0) (sw := []) (zq_of (by decide +kernel)) ⟨_, rfl, h0⟩)

theorem k3_0 {X : zm_T} {d : Nat} {μ : zm_u} {P : Int32 → zm_u → Prop}
    (h0 : ∃ G : Int32 → zm_u → Prop, zI X d 29 [.inr 2] μ G ∧ ∀ (r : Int32) (μ1 : zm_u), G r μ1 → zV X d 3 7 [(0, .inr 0)] [.inl r] μ1 (zpi P)) :
    zV X d 3 0 [(0, .inr 0)] [] μ (zpi P) :=
  (zm_run [(0, 1, 27, 0, 0, 0, []), (1, 4, 4, 1, 0, 0, [])] _ _ _ _ [] 4 [(0, .inr 0)] [.inr 2] μ (by decide +kernel) rfl rfl (by obtain ⟨G, he, hk⟩ := h0; exact zm_callV (as := [.inr 2]) (rest := []) (P := zpi G) (nx := 7) (a := 29) (b := 1) (k := 2) (sw := []) (zq_of (by decide +kernel)) rfl rfl rfl he (fun _ μ1 hp => by obtain ⟨v, rfl, hp⟩ := hp; exact (zm_V_pick [0] rfl (hk v μ1 hp)))))

theorem k3_7 {X : zm_T} {d : Nat} {s0 : Int32} {μ : zm_u} {P : Int32 → zm_u → Prop}
    (h0 : ¬ s0 = 0 → ∃ G : zm_u → Prop, zO X d 38 [.inr 2] μ G ∧ ∀ μ1 : zm_u, G μ1 → zV X d 3 19 [(0, .inr 0)] [] μ1 (zpi P))
    (h1 : s0 = 0 → P (-1 : Int32) μ) :
    zV X d 3 7 [(0, .inr 0)] [.inl s0] μ (zpi P) :=
  (zm_if (nx := 10) (a := 12) (b := 1) (k := 0) (sw := []) (zq_of (by decide +kernel)) (fun z1 => (zm_run [(12, 13, 27, 0, 0, 0, []), (13, 16, 4, 1, 0, 0, [])] _ _ _ _ [] 16 [(0, .inr 0)] [.inr 2] μ (by decide +kernel) rfl rfl (by obtain ⟨G, he, hk⟩ := (h0 (of_decide_eq_true z1)); exact zm_callV (as := [.inr 2]) (rest := []) (P := zpo G) (nx := 19) (a := 38) (b := 1) (k := 2) (sw := []) (zq_of (by decide +kernel)) rfl rfl rfl he (fun _ μ1 hp => by obtain ⟨rfl, hp⟩ := hp; exact (zm_V_pick [0] rfl (hk μ1 hp)))))) (fun z1 => (zm_run [(10, 11, 0, 0, 0, (-1), [])] _ _ _ _ [] 11 [(0, .inr 0)] [.inl (-1 : Int32)] μ (by decide +kernel) rfl rfl (zm_iret (nx := 12) (a := 0) (b := 0) (k := 0) (sw := []) (zq_of (by decide +kernel)) ⟨_, rfl, (h1 (Classical.byContradiction fun w => (of_decide_eq_false z1) w))⟩))))

theorem k3_19 {X : zm_T} {d : Nat} {μ : zm_u} {P : Int32 → zm_u → Prop}
    (h0 : ∃ G : Int32 → zm_u → Prop, zI X d 29 [.inr 2] μ G ∧ ∀ (r : Int32) (μ1 : zm_u), G r μ1 → zV X d 3 26 [] [.inl r] μ1 (zpi P)) :
    zV X d 3 19 [(0, .inr 0)] [] μ (zpi P) :=
  (zm_run [(19, 20, 27, 0, 0, 0, []), (20, 23, 4, 1, 0, 0, [])] _ _ _ _ [] 23 [(0, .inr 0)] [.inr 2] μ (by decide +kernel) rfl rfl (by obtain ⟨G, he, hk⟩ := h0; exact zm_callV (as := [.inr 2]) (rest := []) (P := zpi G) (nx := 26) (a := 29) (b := 1) (k := 2) (sw := []) (zq_of (by decide +kernel)) rfl rfl rfl he (fun _ μ1 hp => by obtain ⟨v, rfl, hp⟩ := hp; exact (zm_V_pick [] rfl (hk v μ1 hp)))))

theorem k3_26 {X : zm_T} {d : Nat} {s0 : Int32} {μ : zm_u} {P : Int32 → zm_u → Prop}
    (h0 : P s0 μ) :
    zV X d 3 26 [] [.inl s0] μ (zpi P) :=
  (zm_iret (nx := 27) (a := 0) (b := 0) (k := 0) (sw := []) (zq_of (by decide +kernel)) ⟨_, rfl, h0⟩)

theorem k4_0 {X : zm_T} {d : Nat} {v1 : Int32} {μ : zm_u} {P : Int32 → zm_u → Prop}
    (h0 : ∃ G : Int32 → zm_u → Prop, zI X d 29 [.inr 2] μ G ∧ ∀ (r : Int32) (μ1 : zm_u), G r μ1 → zV X d 4 7 [(0, .inr 0), (1, .inl v1)] [.inl r] μ1 (zpi P)) :
    zV X d 4 0 [(0, .inr 0), (1, .inl v1)] [] μ (zpi P) :=
  (zm_run [(0, 1, 27, 0, 0, 0, []), (1, 4, 4, 1, 0, 0, [])] _ _ _ _ [] 4 [(0, .inr 0), (1, .inl v1)] [.inr 2] μ (by decide +kernel) rfl rfl (by obtain ⟨G, he, hk⟩ := h0; exact zm_callV (as := [.inr 2]) (rest := []) (P := zpi G) (nx := 7) (a := 29) (b := 1) (k := 2) (sw := []) (zq_of (by decide +kernel)) rfl rfl rfl he (fun _ μ1 hp => by obtain ⟨v, rfl, hp⟩ := hp; exact (zm_V_pick [0, 1] rfl (hk v μ1 hp)))))

theorem k4_7 {X : zm_T} {d : Nat} {s0 v1 : Int32} {μ : zm_u} {P : Int32 → zm_u → Prop}
    (h0 : s0 = 0 → P (0 : Int32) μ)
    (h1 : ¬ (s0 = 0) → ∃ G : Int32 → zm_u → Prop, zI X d 15 [.inr 1, .inl v1] μ G ∧ ∀ (r : Int32) (μ1 : zm_u), G r μ1 → zV X d 4 18 [(0, .inr 0), (1, .inl v1)] [.inl r] μ1 (zpi P)) :
    zV X d 4 7 [(0, .inr 0), (1, .inl v1)] [.inl s0] μ (zpi P) :=
  (zm_if (nx := 10) (a := 21) (b := 0) (k := 0) (sw := []) (zq_of (by decide +kernel)) (fun z1 => (zm_run [(21, 22, 0, 0, 0, 0, [])] _ _ _ _ [] 22 [(0, .inr 0), (1, .inl v1)] [.inl (0 : Int32)] μ (by decide +kernel) rfl rfl (zm_zret (nx := 23) (a := 0) (b := 0) (k := 0) (sw := []) (zq_of (by decide +kernel)) (Or.inl rfl) ⟨_, rfl, (h0 (of_decide_eq_true z1))⟩))) (fun z1 => (zm_run [(10, 11, 27, 0, 0, 0, []), (11, 14, 4, 0, 0, 0, []), (14, 15, 1, 1, 0, 0, [])] _ _ _ _ [] 15 [(0, .inr 0), (1, .inl v1)] [.inl v1, .inr 1] μ (by decide +kernel) rfl rfl (by obtain ⟨G, he, hk⟩ := (h1 (of_decide_eq_false z1)); exact zm_callV (as := [.inr 1, .inl v1]) (rest := []) (P := zpi G) (nx := 18) (a := 15) (b := 2) (k := 1) (sw := []) (zq_of (by decide +kernel)) rfl rfl rfl he (fun _ μ1 hp => by obtain ⟨v, rfl, hp⟩ := hp; exact (zm_V_pick [0, 1] rfl (hk v μ1 hp)))))))

theorem k4_18 {X : zm_T} {d : Nat} {s0 v1 : Int32} {μ : zm_u} {P : Int32 → zm_u → Prop}
    (h0 : ¬ s0 = 0 → ∃ G : zm_u → Prop, zO X d 39 [.inr 2] μ G ∧ ∀ μ1 : zm_u, G μ1 → zV X d 4 30 [(0, .inr 0), (1, .inl v1)] [] μ1 (zpi P))
    (h1 : s0 = 0 → P (0 : Int32) μ) :
    zV X d 4 18 [(0, .inr 0), (1, .inl v1)] [.inl s0] μ (zpi P) :=
  (zm_if (nx := 21) (a := 23) (b := 1) (k := 0) (sw := []) (zq_of (by decide +kernel)) (fun z1 => (zm_run [(23, 24, 27, 0, 0, 0, []), (24, 27, 4, 1, 0, 0, [])] _ _ _ _ [] 27 [(0, .inr 0), (1, .inl v1)] [.inr 2] μ (by decide +kernel) rfl rfl (by obtain ⟨G, he, hk⟩ := (h0 (of_decide_eq_true z1)); exact zm_callV (as := [.inr 2]) (rest := []) (P := zpo G) (nx := 30) (a := 39) (b := 1) (k := 2) (sw := []) (zq_of (by decide +kernel)) rfl rfl rfl he (fun _ μ1 hp => by obtain ⟨rfl, hp⟩ := hp; exact (zm_V_pick [0, 1] rfl (hk μ1 hp)))))) (fun z1 => (zm_run [(21, 22, 0, 0, 0, 0, [])] _ _ _ _ [] 22 [(0, .inr 0), (1, .inl v1)] [.inl (0 : Int32)] μ (by decide +kernel) rfl rfl (zm_zret (nx := 23) (a := 0) (b := 0) (k := 0) (sw := []) (zq_of (by decide +kernel)) (Or.inl rfl) ⟨_, rfl, (h1 (Classical.byContradiction fun w => (of_decide_eq_false z1) w))⟩))))

theorem k4_30 {X : zm_T} {d : Nat} {v1 : Int32} {μ : zm_u} {P : Int32 → zm_u → Prop}
    (h0 : P (1 : Int32) (zm_up μ 0 4 v1)) :
    zV X d 4 30 [(0, .inr 0), (1, .inl v1)] [] μ (zpi P) :=
  (zm_run [(30, 31, 27, 0, 0, 0, []), (31, 32, 1, 1, 0, 0, []), (32, 35, 5, 4, 0, 0, []), (35, 36, 0, 0, 0, 1, [])] _ _ _ _ [] 36 [(0, .inr 0), (1, .inl v1)] [.inl (1 : Int32)] (zm_up μ 0 4 v1) (by decide +kernel) rfl rfl (zm_zret (nx := 37) (a := 0) (b := 0) (k := 0) (sw := []) (zq_of (by decide +kernel)) (Or.inr rfl) ⟨_, rfl, h0⟩))

theorem k5_0 {X : zm_T} {d : Nat} {v1 : Int32} {μ : zm_u} {P : Int32 → zm_u → Prop}
    (h0 : ∃ G : Int32 → zm_u → Prop, zI X d 29 [.inr 2] μ G ∧ ∀ (r : Int32) (μ1 : zm_u), G r μ1 → zV X d 5 7 [(0, .inr 0), (1, .inl v1)] [.inl r] μ1 (zpi P)) :
    zV X d 5 0 [(0, .inr 0), (1, .inl v1)] [] μ (zpi P) :=
  (zm_run [(0, 1, 27, 0, 0, 0, []), (1, 4, 4, 1, 0, 0, [])] _ _ _ _ [] 4 [(0, .inr 0), (1, .inl v1)] [.inr 2] μ (by decide +kernel) rfl rfl (by obtain ⟨G, he, hk⟩ := h0; exact zm_callV (as := [.inr 2]) (rest := []) (P := zpi G) (nx := 7) (a := 29) (b := 1) (k := 2) (sw := []) (zq_of (by decide +kernel)) rfl rfl rfl he (fun _ μ1 hp => by obtain ⟨v, rfl, hp⟩ := hp; exact (zm_V_pick [0, 1] rfl (hk v μ1 hp)))))

theorem k5_7 {X : zm_T} {d : Nat} {s0 v1 : Int32} {μ : zm_u} {P : Int32 → zm_u → Prop}
    (h0 : s0 = 0 → P (0 : Int32) μ)
    (h1 : ¬ (s0 = 0) → ∃ G : Int32 → zm_u → Prop, zI X d 15 [.inr 1, .inl v1] μ G ∧ ∀ (r : Int32) (μ1 : zm_u), G r μ1 → zV X d 5 18 [(0, .inr 0), (1, .inl v1)] [.inl r] μ1 (zpi P)) :
    zV X d 5 7 [(0, .inr 0), (1, .inl v1)] [.inl s0] μ (zpi P) :=
  (zm_if (nx := 10) (a := 21) (b := 0) (k := 0) (sw := []) (zq_of (by decide +kernel)) (fun z1 => (zm_run [(21, 22, 0, 0, 0, 0, [])] _ _ _ _ [] 22 [(0, .inr 0), (1, .inl v1)] [.inl (0 : Int32)] μ (by decide +kernel) rfl rfl (zm_zret (nx := 23) (a := 0) (b := 0) (k := 0) (sw := []) (zq_of (by decide +kernel)) (Or.inl rfl) ⟨_, rfl, (h0 (of_decide_eq_true z1))⟩))) (fun z1 => (zm_run [(10, 11, 27, 0, 0, 0, []), (11, 14, 4, 0, 0, 0, []), (14, 15, 1, 1, 0, 0, [])] _ _ _ _ [] 15 [(0, .inr 0), (1, .inl v1)] [.inl v1, .inr 1] μ (by decide +kernel) rfl rfl (by obtain ⟨G, he, hk⟩ := (h1 (of_decide_eq_false z1)); exact zm_callV (as := [.inr 1, .inl v1]) (rest := []) (P := zpi G) (nx := 18) (a := 15) (b := 2) (k := 1) (sw := []) (zq_of (by decide +kernel)) rfl rfl rfl he (fun _ μ1 hp => by obtain ⟨v, rfl, hp⟩ := hp; exact (zm_V_pick [0, 1] rfl (hk v μ1 hp)))))))

theorem k5_18 {X : zm_T} {d : Nat} {s0 v1 : Int32} {μ : zm_u} {P : Int32 → zm_u → Prop}
    (h0 : ¬ s0 = 0 → ∃ G : zm_u → Prop, zO X d 40 [.inr 2] μ G ∧ ∀ μ1 : zm_u, G μ1 → zV X d 5 30 [(0, .inr 0), (1, .inl v1)] [] μ1 (zpi P))
    (h1 : s0 = 0 → P (0 : Int32) μ) :
    zV X d 5 18 [(0, .inr 0), (1, .inl v1)] [.inl s0] μ (zpi P) :=
  (zm_if (nx := 21) (a := 23) (b := 1) (k := 0) (sw := []) (zq_of (by decide +kernel)) (fun z1 => (zm_run [(23, 24, 27, 0, 0, 0, []), (24, 27, 4, 1, 0, 0, [])] _ _ _ _ [] 27 [(0, .inr 0), (1, .inl v1)] [.inr 2] μ (by decide +kernel) rfl rfl (by obtain ⟨G, he, hk⟩ := (h0 (of_decide_eq_true z1)); exact zm_callV (as := [.inr 2]) (rest := []) (P := zpo G) (nx := 30) (a := 40) (b := 1) (k := 2) (sw := []) (zq_of (by decide +kernel)) rfl rfl rfl he (fun _ μ1 hp => by obtain ⟨rfl, hp⟩ := hp; exact (zm_V_pick [0, 1] rfl (hk μ1 hp)))))) (fun z1 => (zm_run [(21, 22, 0, 0, 0, 0, [])] _ _ _ _ [] 22 [(0, .inr 0), (1, .inl v1)] [.inl (0 : Int32)] μ (by decide +kernel) rfl rfl (zm_zret (nx := 23) (a := 0) (b := 0) (k := 0) (sw := []) (zq_of (by decide +kernel)) (Or.inl rfl) ⟨_, rfl, (h1 (Classical.byContradiction fun w => (of_decide_eq_false z1) w))⟩))))

theorem k5_30 {X : zm_T} {d : Nat} {v1 : Int32} {μ : zm_u} {P : Int32 → zm_u → Prop}
    (h0 : P (1 : Int32) (zm_up μ 0 5 v1)) :
    zV X d 5 30 [(0, .inr 0), (1, .inl v1)] [] μ (zpi P) :=
  (zm_run [(30, 31, 27, 0, 0, 0, []), (31, 32, 1, 1, 0, 0, []), (32, 35, 5, 5, 0, 0, []), (35, 36, 0, 0, 0, 1, [])] _ _ _ _ [] 36 [(0, .inr 0), (1, .inl v1)] [.inl (1 : Int32)] (zm_up μ 0 5 v1) (by decide +kernel) rfl rfl (zm_zret (nx := 37) (a := 0) (b := 0) (k := 0) (sw := []) (zq_of (by decide +kernel)) (Or.inr rfl) ⟨_, rfl, h0⟩))

theorem k6_0 {X : zm_T} {d : Nat} {μ : zm_u} {P : Int32 → zm_u → Prop}
    (h0 : ∃ G : Int32 → zm_u → Prop, zI X d 44 [.inr 3, .inl (μ 0 4)] μ G ∧ ∀ (r : Int32) (μ1 : zm_u), G r μ1 → zV X d 6 11 [(0, .inr 0)] [.inl r] μ1 (zpi P)) :
    zV X d 6 0 [(0, .inr 0)] [] μ (zpi P) :=
  (zm_run [(0, 1, 27, 0, 0, 0, []), (1, 4, 4, 2, 0, 0, []), (4, 5, 27, 0, 0, 0, []), (5, 8, 4, 4, 0, 0, [])] _ _ _ _ [] 8 [(0, .inr 0)] [.inl (μ 0 4), .inr 3] μ (by decide +kernel) rfl rfl (by obtain ⟨G, he, hk⟩ := h0; exact zm_callV (as := [.inr 3, .inl (μ 0 4)]) (rest := []) (P := zpi G) (nx := 11) (a := 44) (b := 2) (k := 3) (sw := []) (zq_of (by decide +kernel)) rfl rfl rfl he (fun _ μ1 hp => by obtain ⟨v, rfl, hp⟩ := hp; exact (zm_V_pick [0] rfl (hk v μ1 hp)))))

theorem k6_11 {X : zm_T} {d : Nat} {s0 : Int32} {μ : zm_u} {P : Int32 → zm_u → Prop}
    (h0 : ¬ s0 = 0 → ∃ G : Int32 → zm_u → Prop, zI X d 45 [.inr 3, .inl (μ 0 5), .inl (μ 0 4)] μ G ∧ ∀ (r : Int32) (μ1 : zm_u), G r μ1 → zV X d 6 31 [] [.inl r] μ1 (zpi P))
    (h1 : s0 = 0 → P (1 : Int32) μ) :
    zV X d 6 11 [(0, .inr 0)] [.inl s0] μ (zpi P) :=
  (zm_if (nx := 14) (a := 16) (b := 1) (k := 0) (sw := []) (zq_of (by decide +kernel)) (fun z1 => (zm_run [(16, 17, 27, 0, 0, 0, []), (17, 20, 4, 2, 0, 0, []), (20, 21, 27, 0, 0, 0, []), (21, 24, 4, 5, 0, 0, []), (24, 25, 27, 0, 0, 0, []), (25, 28, 4, 4, 0, 0, [])] _ _ _ _ [] 28 [(0, .inr 0)] [.inl (μ 0 4), .inl (μ 0 5), .inr 3] μ (by decide +kernel) rfl rfl (by obtain ⟨G, he, hk⟩ := (h0 (of_decide_eq_true z1)); exact zm_callV (as := [.inr 3, .inl (μ 0 5), .inl (μ 0 4)]) (rest := []) (P := zpi G) (nx := 31) (a := 45) (b := 3) (k := 3) (sw := []) (zq_of (by decide +kernel)) rfl rfl rfl he (fun _ μ1 hp => by obtain ⟨v, rfl, hp⟩ := hp; exact (zm_V_pick [] rfl (hk v μ1 hp)))))) (fun z1 => (zm_run [(14, 15, 0, 0, 0, 1, [])] _ _ _ _ [] 15 [(0, .inr 0)] [.inl (1 : Int32)] μ (by decide +kernel) rfl rfl (zm_iret (nx := 16) (a := 0) (b := 0) (k := 0) (sw := []) (zq_of (by decide +kernel)) ⟨_, rfl, (h1 (Classical.byContradiction fun w => (of_decide_eq_false z1) w))⟩))))

theorem k6_31 {X : zm_T} {d : Nat} {s0 : Int32} {μ : zm_u} {P : Int32 → zm_u → Prop}
    (h0 : s0 = 0 → P (2 : Int32) μ)
    (h1 : ¬ (s0 = 0) → P (0 : Int32) μ) :
    zV X d 6 31 [] [.inl s0] μ (zpi P) :=
  (zm_if (nx := 34) (a := 38) (b := 0) (k := 0) (sw := []) (zq_of (by decide +kernel)) (fun z1 => (zm_run [(38, 39, 0, 0, 0, 2, [])] _ _ _ _ [] 39 [] [.inl (2 : Int32)] μ (by decide +kernel) rfl rfl (zm_iret (nx := 40) (a := 0) (b := 0) (k := 0) (sw := []) (zq_of (by decide +kernel)) ⟨_, rfl, (h0 (of_decide_eq_true z1))⟩))) (fun z1 => (zm_run [(34, 35, 0, 0, 0, 0, []), (35, 38, 19, 39, 0, 0, [])] _ _ _ _ [] 39 [] [.inl (0 : Int32)] μ (by decide +kernel) rfl rfl (zm_iret (nx := 40) (a := 0) (b := 0) (k := 0) (sw := []) (zq_of (by decide +kernel)) ⟨_, rfl, (h1 (of_decide_eq_false z1))⟩))))

theorem k7_0 {X : zm_T} {d : Nat} {μ : zm_u} {P : Int32 → zm_u → Prop}
    (h0 : ∃ G : Int32 → zm_u → Prop, zI X d 64 [.inr 4] μ G ∧ ∀ (r : Int32) (μ1 : zm_u), G r μ1 → zV X d 7 7 [] [.inl r] μ1 (zpi P)) :
    zV X d 7 0 [(0, .inr 0)] [] μ (zpi P) :=
  (zm_run [(0, 1, 27, 0, 0, 0, []), (1, 4, 4, 3, 0, 0, [])] _ _ _ _ [] 4 [(0, .inr 0)] [.inr 4] μ (by decide +kernel) rfl rfl (by obtain ⟨G, he, hk⟩ := h0; exact zm_callV (as := [.inr 4]) (rest := []) (P := zpi G) (nx := 7) (a := 64) (b := 1) (k := 4) (sw := []) (zq_of (by decide +kernel)) rfl rfl rfl he (fun _ μ1 hp => by obtain ⟨v, rfl, hp⟩ := hp; exact (zm_V_pick [] rfl (hk v μ1 hp)))))

theorem k7_7 {X : zm_T} {d : Nat} {s0 : Int32} {μ : zm_u} {P : Int32 → zm_u → Prop}
    (h0 : P s0 μ) :
    zV X d 7 7 [] [.inl s0] μ (zpi P) :=
  (zm_iret (nx := 8) (a := 0) (b := 0) (k := 0) (sw := []) (zq_of (by decide +kernel)) ⟨_, rfl, h0⟩)

theorem k8_0 {X : zm_T} {d : Nat} {μ : zm_u} {P : Int32 → zm_u → Prop}
    (h0 : ∃ G : Int32 → zm_u → Prop, zI X d 65 [.inr 4] μ G ∧ ∀ (r : Int32) (μ1 : zm_u), G r μ1 → zV X d 8 7 [] [.inl r] μ1 (zpi P)) :
    zV X d 8 0 [(0, .inr 0)] [] μ (zpi P) :=
  (zm_run [(0, 1, 27, 0, 0, 0, []), (1, 4, 4, 3, 0, 0, [])] _ _ _ _ [] 4 [(0, .inr 0)] [.inr 4] μ (by decide +kernel) rfl rfl (by obtain ⟨G, he, hk⟩ := h0; exact zm_callV (as := [.inr 4]) (rest := []) (P := zpi G) (nx := 7) (a := 65) (b := 1) (k := 4) (sw := []) (zq_of (by decide +kernel)) rfl rfl rfl he (fun _ μ1 hp => by obtain ⟨v, rfl, hp⟩ := hp; exact (zm_V_pick [] rfl (hk v μ1 hp)))))

theorem k8_7 {X : zm_T} {d : Nat} {s0 : Int32} {μ : zm_u} {P : Int32 → zm_u → Prop}
    (h0 : P s0 μ) :
    zV X d 8 7 [] [.inl s0] μ (zpi P) :=
  (zm_iret (nx := 8) (a := 0) (b := 0) (k := 0) (sw := []) (zq_of (by decide +kernel)) ⟨_, rfl, h0⟩)

theorem k9_0 {X : zm_T} {d : Nat} {v1 : Int32} {μ : zm_u} {P : Int32 → zm_u → Prop}
    (h0 : ∃ G : Int32 → zm_u → Prop, zI X d 66 [.inr 4, .inl v1] μ G ∧ ∀ (r : Int32) (μ1 : zm_u), G r μ1 → zV X d 9 8 [] [.inl r] μ1 (zpi P)) :
    zV X d 9 0 [(0, .inr 0), (1, .inl v1)] [] μ (zpi P) :=
  (zm_run [(0, 1, 27, 0, 0, 0, []), (1, 4, 4, 3, 0, 0, []), (4, 5, 1, 1, 0, 0, [])] _ _ _ _ [] 5 [(0, .inr 0), (1, .inl v1)] [.inl v1, .inr 4] μ (by decide +kernel) rfl rfl (by obtain ⟨G, he, hk⟩ := h0; exact zm_callV (as := [.inr 4, .inl v1]) (rest := []) (P := zpi G) (nx := 8) (a := 66) (b := 2) (k := 4) (sw := []) (zq_of (by decide +kernel)) rfl rfl rfl he (fun _ μ1 hp => by obtain ⟨v, rfl, hp⟩ := hp; exact (zm_V_pick [] rfl (hk v μ1 hp)))))

theorem k9_8 {X : zm_T} {d : Nat} {s0 : Int32} {μ : zm_u} {P : Int32 → zm_u → Prop}
    (h0 : P s0 μ) :
    zV X d 9 8 [] [.inl s0] μ (zpi P) :=
  (zm_iret (nx := 9) (a := 0) (b := 0) (k := 0) (sw := []) (zq_of (by decide +kernel)) ⟨_, rfl, h0⟩)

theorem k10_0 {X : zm_T} {d : Nat} {v1 : Int32} {μ : zm_u} {P : Int32 → zm_u → Prop}
    (h0 : ∃ G : Int32 → zm_u → Prop, zI X d 67 [.inr 4, .inl v1] μ G ∧ ∀ (r : Int32) (μ1 : zm_u), G r μ1 → zV X d 10 8 [] [.inl r] μ1 (zpi P)) :
    zV X d 10 0 [(0, .inr 0), (1, .inl v1)] [] μ (zpi P) :=
  (zm_run [(0, 1, 27, 0, 0, 0, []), (1, 4, 4, 3, 0, 0, []), (4, 5, 1, 1, 0, 0, [])] _ _ _ _ [] 5 [(0, .inr 0), (1, .inl v1)] [.inl v1, .inr 4] μ (by decide +kernel) rfl rfl (by obtain ⟨G, he, hk⟩ := h0; exact zm_callV (as := [.inr 4, .inl v1]) (rest := []) (P := zpi G) (nx := 8) (a := 67) (b := 2) (k := 4) (sw := []) (zq_of (by decide +kernel)) rfl rfl rfl he (fun _ μ1 hp => by obtain ⟨v, rfl, hp⟩ := hp; exact (zm_V_pick [] rfl (hk v μ1 hp)))))

theorem k10_8 {X : zm_T} {d : Nat} {s0 : Int32} {μ : zm_u} {P : Int32 → zm_u → Prop}
    (h0 : P s0 μ) :
    zV X d 10 8 [] [.inl s0] μ (zpi P) :=
  (zm_iret (nx := 9) (a := 0) (b := 0) (k := 0) (sw := []) (zq_of (by decide +kernel)) ⟨_, rfl, h0⟩)

set_option maxRecDepth 100000 in
theorem k11_0 {X : zm_T} {d : Nat} {v1 v2 : Int32} {μ : zm_u} {P : Int32 → zm_u → Prop}
    (h0 : v1 = 1 → v2 = 0 → P (1 : Int32) μ)
    (h1 : v1 = 1 → ¬ (v2 = 0) → ¬ v2 = (1 : Int32) → P (0 : Int32) μ)
    (h2 : v1 = 1 → ¬ (v2 = 0) → v2 = (1 : Int32) → P (1 : Int32) μ)
    (h3 : ¬ v1 = 1 → v1 = 2 → v2 < 0 → P (0 : Int32) μ)
    (h4 : ¬ v1 = 1 → v1 = 2 → ¬ (v2 < 0) → (12 : Int32) ≤ v2 → P (0 : Int32) μ)
    (h5 : ¬ v1 = 1 → v1 = 2 → ¬ (v2 < 0) → ¬ ((12 : Int32) ≤ v2) → P (1 : Int32) μ)
    (h6 : ¬ v1 = 1 → ¬ v1 = 2 → v1 = 10 → ∃ G : Int32 → zm_u → Prop, zI X d 15 [.inr 1, .inl v2] μ G ∧ ∀ (r : Int32) (μ1 : zm_u), G r μ1 → zV X d 11 83 [] [.inl r] μ1 (zpi P))
    (h7 : ¬ v1 = 1 → ¬ v1 = 2 → ¬ v1 = 10 → v1 = 17 → v2 < (1 : Int32) → P (0 : Int32) μ)
    (h8 : ¬ v1 = 1 → ¬ v1 = 2 → ¬ v1 = 10 → v1 = 17 → ¬ (v2 < (1 : Int32)) → (63 : Int32) < v2 → P (0 : Int32) μ)
    (h9 : ¬ v1 = 1 → ¬ v1 = 2 → ¬ v1 = 10 → v1 = 17 → ¬ (v2 < (1 : Int32)) → ¬ ((63 : Int32) < v2) → P (1 : Int32) μ)
    (h10 : ¬ v1 = 1 → ¬ v1 = 2 → ¬ v1 = 10 → ¬ v1 = 17 → P (1 : Int32) μ) :
    zV X d 11 0 [(0, .inr 0), (1, .inl v1), (2, .inl v2)] [] μ (zpi P) :=
  (zm_run [(0, 1, 1, 1, 0, 0, [])] _ _ _ _ [] 1 [(0, .inr 0), (1, .inl v1), (2, .inl v2)] [.inl v1] μ (by decide +kernel) rfl rfl (zm_switch (nx := 44) (a := 101) (b := 0) (k := 0) (sw := [(1, 44), (2, 59), (10, 75), (17, 84)]) (zq_of (by decide +kernel)) (zsw_e (fun z1 => (zm_run [(44, 45, 1, 2, 0, 0, [])] _ _ _ _ [] 45 [(0, .inr 0), (1, .inl v1), (2, .inl v2)] [.inl v2] μ (by decide +kernel) rfl rfl (zm_if (nx := 48) (a := 53) (b := 0) (k := 0) (sw := []) (zq_of (by decide +kernel)) (fun z2 => (zm_run [(53, 54, 0, 0, 0, 1, []), (54, 57, 19, 58, 0, 0, [])] _ _ _ _ [] 58 [(0, .inr 0), (1, .inl v1), (2, .inl v2)] [.inl (1 : Int32)] μ (by decide +kernel) rfl rfl (zm_zret (nx := 59) (a := 0) (b := 0) (k := 0) (sw := []) (zq_of (by decide +kernel)) (Or.inr rfl) ⟨_, rfl, (h0 z1 (of_decide_eq_true z2))⟩))) (fun z2 => (zm_run [(48, 49, 1, 2, 0, 0, []), (49, 50, 0, 0, 0, 1, [])] _ _ _ _ [] 50 [(0, .inr 0), (1, .inl v1), (2, .inl v2)] [.inl (1 : Int32), .inl v2] μ (by decide +kernel) rfl rfl (zm_icmp (nx := 53) (a := 57) (b := 1) (k := 0) (sw := []) (zq_of (by decide +kernel)) (fun z3 => (zm_run [(57, 58, 0, 0, 0, 0, [])] _ _ _ _ [] 58 [(0, .inr 0), (1, .inl v1), (2, .inl v2)] [.inl (0 : Int32)] μ (by decide +kernel) rfl rfl (zm_zret (nx := 59) (a := 0) (b := 0) (k := 0) (sw := []) (zq_of (by decide +kernel)) (Or.inl rfl) ⟨_, rfl, (h1 z1 (of_decide_eq_false z2) (of_decide_eq_true z3))⟩))) (fun z3 => (zm_run [(53, 54, 0, 0, 0, 1, []), (54, 57, 19, 58, 0, 0, [])] _ _ _ _ [] 58 [(0, .inr 0), (1, .inl v1), (2, .inl v2)] [.inl (1 : Int32)] μ (by decide +kernel) rfl rfl (zm_zret (nx := 59) (a := 0) (b := 0) (k := 0) (sw := []) (zq_of (by decide +kernel)) (Or.inr rfl) ⟨_, rfl, (h2 z1 (of_decide_eq_false z2) (Classical.byContradiction fun w => (of_decide_eq_false z3) w))⟩))))))))) (fun z1 => (zsw_e (fun z4 => (zm_run [(59, 60, 1, 2, 0, 0, [])] _ _ _ _ [] 60 [(0, .inr 0), (1, .inl v1), (2, .inl v2)] [.inl v2] μ (by decide +kernel) rfl rfl (zm_if (nx := 63) (a := 73) (b := 2) (k := 0) (sw := []) (zq_of (by decide +kernel)) (fun z5 => (zm_run [(73, 74, 0, 0, 0, 0, [])] _ _ _ _ [] 74 [(0, .inr 0), (1, .inl v1), (2, .inl v2)] [.inl (0 : Int32)] μ (by decide +kernel) rfl rfl (zm_zret (nx := 75) (a := 0) (b := 0) (k := 0) (sw := []) (zq_of (by decide +kernel)) (Or.inl rfl) ⟨_, rfl, (h3 z1 z4 (of_decide_eq_true z5))⟩))) (fun z5 => (zm_run [(63, 64, 1, 2, 0, 0, []), (64, 66, 0, 0, 0, 12, [])] _ _ _ _ [] 66 [(0, .inr 0), (1, .inl v1), (2, .inl v2)] [.inl (12 : Int32), .inl v2] μ (by decide +kernel) rfl rfl (zm_icmp (nx := 69) (a := 73) (b := 3) (k := 0) (sw := []) (zq_of (by decide +kernel)) (fun z6 => (zm_run [(73, 74, 0, 0, 0, 0, [])] _ _ _ _ [] 74 [(0, .inr 0), (1, .inl v1), (2, .inl v2)] [.inl (0 : Int32)] μ (by decide +kernel) rfl rfl (zm_zret (nx := 75) (a := 0) (b := 0) (k := 0) (sw := []) (zq_of (by decide +kernel)) (Or.inl rfl) ⟨_, rfl, (h4 z1 z4 (of_decide_eq_false z5) (of_decide_eq_true z6))⟩))) (fun z6 => (zm_run [(69, 70, 0, 0, 0, 1, []), (70, 73, 19, 74, 0, 0, [])] _ _ _ _ [] 74 [(0, .inr 0), (1, .inl v1), (2, .inl v2)] [.inl (1 : Int32)] μ (by decide +kernel) rfl rfl (zm_zret (nx := 75) (a := 0) (b := 0) (k := 0) (sw := []) (zq_of (by decide +kernel)) (Or.inr rfl) ⟨_, rfl, (h5 z1 z4 (of_decide_eq_false z5) (of_decide_eq_false z6))⟩))))))))) (fun z4 => (zsw_e (fun z7 => (zm_run [(75, 76, 27, 0, 0, 0, []), (76, 79, 4, 0, 0, 0, []), (79, 80, 1, 2, 0, 0, [])] _ _ _ _ [] 80 [(0, .inr 0), (1, .inl v1), (2, .inl v2)] [.inl v2, .inr 1] μ (by decide +kernel) rfl rfl (by obtain ⟨G, he, hk⟩ := (h6 z1 z4 z7); exact zm_callV (as := [.inr 1, .inl v2]) (rest := []) (P := zpi G) (nx := 83) (a := 15) (b := 2) (k := 1) (sw := []) (zq_of (by decide +kernel)) rfl rfl rfl he (fun _ μ1 hp => by obtain ⟨v, rfl, hp⟩ := hp; exact (zm_V_pick [] rfl (hk v μ1 hp)))))) (fun z7 => (zsw_e (fun z8 => (zm_run [(84, 85, 1, 2, 0, 0, []), (85, 86, 0, 0, 0, 1, [])] _ _ _ _ [] 86 [(0, .inr 0), (1, .inl v1), (2, .inl v2)] [.inl (1 : Int32), .inl v2] μ (by decide +kernel) rfl rfl (zm_icmp (nx := 89) (a := 99) (b := 2) (k := 0) (sw := []) (zq_of (by decide +kernel)) (fun z9 => (zm_run [(99, 100, 0, 0, 0, 0, [])] _ _ _ _ [] 100 [(0, .inr 0), (1, .inl v1), (2, .inl v2)] [.inl (0 : Int32)] μ (by decide +kernel) rfl rfl (zm_zret (nx := 101) (a := 0) (b := 0) (k := 0) (sw := []) (zq_of (by decide +kernel)) (Or.inl rfl) ⟨_, rfl, (h7 z1 z4 z7 z8 (of_decide_eq_true z9))⟩))) (fun z9 => (zm_run [(89, 90, 1, 2, 0, 0, []), (90, 92, 0, 0, 0, 63, [])] _ _ _ _ [] 92 [(0, .inr 0), (1, .inl v1), (2, .inl v2)] [.inl (63 : Int32), .inl v2] μ (by decide +kernel) rfl rfl (zm_icmp (nx := 95) (a := 99) (b := 4) (k := 0) (sw := []) (zq_of (by decide +kernel)) (fun z10 => (zm_run [(99, 100, 0, 0, 0, 0, [])] _ _ _ _ [] 100 [(0, .inr 0), (1, .inl v1), (2, .inl v2)] [.inl (0 : Int32)] μ (by decide +kernel) rfl rfl (zm_zret (nx := 101) (a := 0) (b := 0) (k := 0) (sw := []) (zq_of (by decide +kernel)) (Or.inl rfl) ⟨_, rfl, (h8 z1 z4 z7 z8 (of_decide_eq_false z9) (of_decide_eq_true z10))⟩))) (fun z10 => (zm_run [(95, 96, 0, 0, 0, 1, []), (96, 99, 19, 100, 0, 0, [])] _ _ _ _ [] 100 [(0, .inr 0), (1, .inl v1), (2, .inl v2)] [.inl (1 : Int32)] μ (by decide +kernel) rfl rfl (zm_zret (nx := 101) (a := 0) (b := 0) (k := 0) (sw := []) (zq_of (by decide +kernel)) (Or.inr rfl) ⟨_, rfl, (h9 z1 z4 z7 z8 (of_decide_eq_false z9) (of_decide_eq_false z10))⟩))))))))) (fun z8 => (zm_run [(101, 102, 0, 0, 0, 1, [])] _ _ _ _ [] 102 [(0, .inr 0), (1, .inl v1), (2, .inl v2)] [.inl (1 : Int32)] μ (by decide +kernel) rfl rfl (zm_zret (nx := 103) (a := 0) (b := 0) (k := 0) (sw := []) (zq_of (by decide +kernel)) (Or.inr rfl) ⟨_, rfl, (h10 z1 z4 z7 z8)⟩))))))))))))

theorem k11_83 {X : zm_T} {d : Nat} {s0 : Int32} {μ : zm_u} {P : Int32 → zm_u → Prop}
    (h0 : s0 = 0 ∨ s0 = 1)
    (h1 : P s0 μ) :
    zV X d 11 83 [] [.inl s0] μ (zpi P) :=
  (zm_zret (nx := 84) (a := 0) (b := 0) (k := 0) (sw := []) (zq_of (by decide +kernel)) h0 ⟨_, rfl, h1⟩)

set_option maxRecDepth 100000 in
theorem k12_0 {X : zm_T} {d : Nat} {v0 v1 : Int32} {μ : zm_u} {P : Int32 → zm_u → Prop}
    (h0 : v0 < 0 → P (0 : Int32) μ)
    (h1 : ¬ (v0 < 0) → v0 ≤ (17 : Int32) → ¬ v0 = (17 : Int32) → 0 ≤ (v0).toInt ∧ (v0).toInt < 18)
    (h2 : ¬ (v0 < 0) → v0 ≤ (17 : Int32) → ¬ v0 = (17 : Int32) → P (zm_pt (v0).toNatClampNeg) μ)
    (h3 : ¬ (v0 < 0) → v0 ≤ (17 : Int32) → v0 = (17 : Int32) → 0 ≤ (v0).toInt ∧ (v0).toInt < 18)
    (h4 : ¬ (v0 < 0) → v0 ≤ (17 : Int32) → v0 = (17 : Int32) → ∃ G : Int32 → zm_u → Prop, zI X d 161 [.inl v1] μ G ∧ ∀ (r : Int32) (μ1 : zm_u), G r μ1 → zV X d 12 27 [] [.inl r, .inl (zm_pt (v0).toNatClampNeg)] μ1 (zpi P))
    (h5 : ¬ (v0 < 0) → ¬ (v0 ≤ (17 : Int32)) → P (0 : Int32) μ) :
    zV X d 12 0 [(0, .inl v0), (1, .inl v1)] [] μ (zpi P) :=
  (zm_run [(0, 1, 1, 0, 0, 0, [])] _ _ _ _ [] 1 [(0, .inl v0), (1, .inl v1)] [.inl v0] μ (by decide +kernel) rfl rfl (zm_if (nx := 4) (a := 10) (b := 2) (k := 0) (sw := []) (zq_of (by decide +kernel)) (fun z1 => (zm_run [(10, 11, 0, 0, 0, 0, [])] _ _ _ _ [] 11 [(0, .inl v0), (1, .inl v1)] [.inl (0 : Int32)] μ (by decide +kernel) rfl rfl (zm_iret (nx := 12) (a := 0) (b := 0) (k := 0) (sw := []) (zq_of (by decide +kernel)) ⟨_, rfl, (h0 (of_decide_eq_true z1))⟩))) (fun z1 => (zm_run [(4, 5, 1, 0, 0, 0, []), (5, 7, 0, 0, 0, 17, [])] _ _ _ _ [] 7 [(0, .inl v0), (1, .inl v1)] [.inl (17 : Int32), .inl v0] μ (by decide +kernel) rfl rfl (zm_icmp (nx := 10) (a := 12) (b := 5) (k := 0) (sw := []) (zq_of (by decide +kernel)) (fun z2 => (zm_run [(12, 13, 1, 0, 0, 0, []), (13, 15, 0, 0, 0, 17, [])] _ _ _ _ [] 15 [(0, .inl v0), (1, .inl v1)] [.inl (17 : Int32), .inl v0] μ (by decide +kernel) rfl rfl (zm_icmp (nx := 18) (a := 31) (b := 1) (k := 0) (sw := []) (zq_of (by decide +kernel)) (fun z3 => (zm_run [(31, 34, 21, 0, 0, 0, []), (34, 35, 1, 0, 0, 0, []), (35, 36, 20, 0, 0, 0, [])] _ _ _ _ [decide (0 ≤ (v0).toInt ∧ (v0).toInt < 18)] 36 [(0, .inl v0), (1, .inl v1)] [.inl (zm_pt (v0).toNatClampNeg)] μ (by decide +kernel) rfl (zm_bc (h1 (of_decide_eq_false z1) (of_decide_eq_true z2) (of_decide_eq_true z3)) rfl) (zm_iret (nx := 37) (a := 0) (b := 0) (k := 0) (sw := []) (zq_of (by decide +kernel)) ⟨_, rfl, (h2 (of_decide_eq_false z1) (of_decide_eq_true z2) (of_decide_eq_true z3))⟩))) (fun z3 => (zm_run [(18, 21, 21, 0, 0, 0, []), (21, 22, 1, 0, 0, 0, []), (22, 23, 20, 0, 0, 0, []), (23, 24, 1, 1, 0, 0, [])] _ _ _ _ [decide (0 ≤ (v0).toInt ∧ (v0).toInt < 18)] 24 [(0, .inl v0), (1, .inl v1)] [.inl v1, .inl (zm_pt (v0).toNatClampNeg)] μ (by decide +kernel) rfl (zm_bc (h3 (of_decide_eq_false z1) (of_decide_eq_true z2) (Classical.byContradiction fun w => (of_decide_eq_false z3) w)) rfl) (by obtain ⟨G, he, hk⟩ := (h4 (of_decide_eq_false z1) (of_decide_eq_true z2) (Classical.byContradiction fun w => (of_decide_eq_false z3) w)); exact zm_callS (as := [.inl v1]) (rest := [.inl (zm_pt (v0).toNatClampNeg)]) (P := zpi G) (nx := 27) (a := 161) (b := 1) (k := 0) (sw := []) (zq_of (by decide +kernel)) rfl rfl rfl he (fun _ μ1 hp => by obtain ⟨v, rfl, hp⟩ := hp; exact (zm_V_pick [] rfl (hk v μ1 hp))))))))) (fun z2 => (zm_run [(10, 11, 0, 0, 0, 0, [])] _ _ _ _ [] 11 [(0, .inl v0), (1, .inl v1)] [.inl (0 : Int32)] μ (by decide +kernel) rfl rfl (zm_iret (nx := 12) (a := 0) (b := 0) (k := 0) (sw := []) (zq_of (by decide +kernel)) ⟨_, rfl, (h5 (of_decide_eq_false z1) (of_decide_eq_false z2))⟩))))))))

theorem k12_27 {X : zm_T} {d : Nat} {s0 s1 : Int32} {μ : zm_u} {P : Int32 → zm_u → Prop}
    (h0 : P (s0 + s1) μ) :
    zV X d 12 27 [] [.inl s1, .inl s0] μ (zpi P) :=
  (zm_run [(27, 28, 10, 0, 0, 0, []), (28, 31, 19, 36, 0, 0, [])] _ _ _ _ [] 36 [] [.inl (s0 + s1)] μ (by decide +kernel) rfl rfl (zm_iret (nx := 37) (a := 0) (b := 0) (k := 0) (sw := []) (zq_of (by decide +kernel)) ⟨_, rfl, h0⟩))

theorem k13_0 {X : zm_T} {d : Nat} {v0 : Int32} {μ : zm_u} {P : Int32 → zm_u → Prop}
    (h0 : v0 < (11 : Int32) → P (0 : Int32) μ)
    (h1 : ¬ (v0 < (11 : Int32)) → (16 : Int32) < v0 → P (0 : Int32) μ)
    (h2 : ¬ (v0 < (11 : Int32)) → ¬ ((16 : Int32) < v0) → P (1 : Int32) μ) :
    zV X d 13 0 [(0, .inl v0)] [] μ (zpi P) :=
  (zm_run [(0, 1, 1, 0, 0, 0, []), (1, 3, 0, 0, 0, 11, [])] _ _ _ _ [] 3 [(0, .inl v0)] [.inl (11 : Int32), .inl v0] μ (by decide +kernel) rfl rfl (zm_icmp (nx := 6) (a := 16) (b := 2) (k := 0) (sw := []) (zq_of (by decide +kernel)) (fun z1 => (zm_run [(16, 17, 0, 0, 0, 0, [])] _ _ _ _ [] 17 [(0, .inl v0)] [.inl (0 : Int32)] μ (by decide +kernel) rfl rfl (zm_zret (nx := 18) (a := 0) (b := 0) (k := 0) (sw := []) (zq_of (by decide +kernel)) (Or.inl rfl) ⟨_, rfl, (h0 (of_decide_eq_true z1))⟩))) (fun z1 => (zm_run [(6, 7, 1, 0, 0, 0, []), (7, 9, 0, 0, 0, 16, [])] _ _ _ _ [] 9 [(0, .inl v0)] [.inl (16 : Int32), .inl v0] μ (by decide +kernel) rfl rfl (zm_icmp (nx := 12) (a := 16) (b := 4) (k := 0) (sw := []) (zq_of (by decide +kernel)) (fun z2 => (zm_run [(16, 17, 0, 0, 0, 0, [])] _ _ _ _ [] 17 [(0, .inl v0)] [.inl (0 : Int32)] μ (by decide +kernel) rfl rfl (zm_zret (nx := 18) (a := 0) (b := 0) (k := 0) (sw := []) (zq_of (by decide +kernel)) (Or.inl rfl) ⟨_, rfl, (h1 (of_decide_eq_false z1) (of_decide_eq_true z2))⟩))) (fun z2 => (zm_run [(12, 13, 0, 0, 0, 1, []), (13, 16, 19, 17, 0, 0, [])] _ _ _ _ [] 17 [(0, .inl v0)] [.inl (1 : Int32)] μ (by decide +kernel) rfl rfl (zm_zret (nx := 18) (a := 0) (b := 0) (k := 0) (sw := []) (zq_of (by decide +kernel)) (Or.inr rfl) ⟨_, rfl, (h2 (of_decide_eq_false z1) (of_decide_eq_false z2))⟩))))))))

theorem k14_0 {X : zm_T} {d : Nat} {μ : zm_u} {P : Int32 → zm_u → Prop}
    (h0 : P (μ 1 3) μ) :
    zV X d 14 0 [(0, .inr 1)] [] μ (zpi P) :=
  (zm_run [(0, 1, 27, 0, 0, 0, []), (1, 4, 4, 3, 1, 0, [])] _ _ _ _ [] 4 [(0, .inr 1)] [.inl (μ 1 3)] μ (by decide +kernel) rfl rfl (zm_iret (nx := 5) (a := 0) (b := 0) (k := 0) (sw := []) (zq_of (by decide +kernel)) ⟨_, rfl, h0⟩))

theorem k15_0 {X : zm_T} {d : Nat} {v1 : Int32} {μ : zm_u} {P : Int32 → zm_u → Prop}
    (h0 : v1 < 0 → P (0 : Int32) μ)
    (h1 : ¬ (v1 < 0) → (μ 1 3) ≤ v1 → P (0 : Int32) μ)
    (h2 : ¬ (v1 < 0) → ¬ ((μ 1 3) ≤ v1) → P (1 : Int32) μ) :
    zV X d 15 0 [(0, .inr 1), (1, .inl v1)] [] μ (zpi P) :=
  (zm_run [(0, 1, 1, 1, 0, 0, [])] _ _ _ _ [] 1 [(0, .inr 1), (1, .inl v1)] [.inl v1] μ (by decide +kernel) rfl rfl (zm_if (nx := 4) (a := 16) (b := 2) (k := 0) (sw := []) (zq_of (by decide +kernel)) (fun z1 => (zm_run [(16, 17, 0, 0, 0, 0, [])] _ _ _ _ [] 17 [(0, .inr 1), (1, .inl v1)] [.inl (0 : Int32)] μ (by decide +kernel) rfl rfl (zm_zret (nx := 18) (a := 0) (b := 0) (k := 0) (sw := []) (zq_of (by decide +kernel)) (Or.inl rfl) ⟨_, rfl, (h0 (of_decide_eq_true z1))⟩))) (fun z1 => (zm_run [(4, 5, 1, 1, 0, 0, []), (5, 6, 27, 0, 0, 0, []), (6, 9, 4, 3, 1, 0, [])] _ _ _ _ [] 9 [(0, .inr 1), (1, .inl v1)] [.inl (μ 1 3), .inl v1] μ (by decide +kernel) rfl rfl (zm_icmp (nx := 12) (a := 16) (b := 3) (k := 0) (sw := []) (zq_of (by decide +kernel)) (fun z2 => (zm_run [(16, 17, 0, 0, 0, 0, [])] _ _ _ _ [] 17 [(0, .inr 1), (1, .inl v1)] [.inl (0 : Int32)] μ (by decide +kernel) rfl rfl (zm_zret (nx := 18) (a := 0) (b := 0) (k := 0) (sw := []) (zq_of (by decide +kernel)) (Or.inl rfl) ⟨_, rfl, (h1 (of_decide_eq_false z1) (of_decide_eq_true z2))⟩))) (fun z2 => (zm_run [(12, 13, 0, 0, 0, 1, []), (13, 16, 19, 17, 0, 0, [])] _ _ _ _ [] 17 [(0, .inr 1), (1, .inl v1)] [.inl (1 : Int32)] μ (by decide +kernel) rfl rfl (zm_zret (nx := 18) (a := 0) (b := 0) (k := 0) (sw := []) (zq_of (by decide +kernel)) (Or.inr rfl) ⟨_, rfl, (h2 (of_decide_eq_false z1) (of_decide_eq_false z2))⟩))))))))

theorem k16_0 {X : zm_T} {d : Nat} {v1 : Int32} {μ : zm_u} {P : Int32 → zm_u → Prop}
    (h0 : ∃ G : Int32 → zm_u → Prop, zI X d 15 [.inr 1, .inl v1] μ G ∧ ∀ (r : Int32) (μ1 : zm_u), G r μ1 → zV X d 16 5 [(0, .inr 1), (1, .inl v1)] [.inl r] μ1 (zpi P)) :
    zV X d 16 0 [(0, .inr 1), (1, .inl v1)] [] μ (zpi P) :=
  (zm_run [(0, 1, 27, 0, 0, 0, []), (1, 2, 1, 1, 0, 0, [])] _ _ _ _ [] 2 [(0, .inr 1), (1, .inl v1)] [.inl v1, .inr 1] μ (by decide +kernel) rfl rfl (by obtain ⟨G, he, hk⟩ := h0; exact zm_callV (as := [.inr 1, .inl v1]) (rest := []) (P := zpi G) (nx := 5) (a := 15) (b := 2) (k := 1) (sw := []) (zq_of (by decide +kernel)) rfl rfl rfl he (fun _ μ1 hp => by obtain ⟨v, rfl, hp⟩ := hp; exact (zm_V_pick [0, 1] rfl (hk v μ1 hp)))))

theorem k16_5 {X : zm_T} {d : Nat} {s0 v1 : Int32} {μ : zm_u} {P : Int32 → zm_u → Prop}
    (h0 : s0 = 0 → P (-1 : Int32) μ)
    (h1 : ¬ (s0 = 0) → 0 ≤ (v1).toInt ∧ (v1).toInt < ((466 : Nat) : Int))
    (h2 : ¬ (s0 = 0) → P (μ 6 (v1).toNatClampNeg) μ) :
    zV X d 16 5 [(0, .inr 1), (1, .inl v1)] [.inl s0] μ (zpi P) :=
  (zm_if (nx := 8) (a := 17) (b := 0) (k := 0) (sw := []) (zq_of (by decide +kernel)) (fun z1 => (zm_run [(17, 18, 0, 0, 0, (-1), [])] _ _ _ _ [] 18 [(0, .inr 1), (1, .inl v1)] [.inl (-1 : Int32)] μ (by decide +kernel) rfl rfl (zm_iret (nx := 19) (a := 0) (b := 0) (k := 0) (sw := []) (zq_of (by decide +kernel)) ⟨_, rfl, (h0 (of_decide_eq_true z1))⟩))) (fun z1 => (zm_run [(8, 9, 27, 0, 0, 0, []), (9, 12, 4, 0, 1, 0, []), (12, 13, 1, 1, 0, 0, []), (13, 14, 6, 0, 0, 0, []), (14, 17, 19, 18, 0, 0, [])] _ _ _ _ [decide (0 ≤ (v1).toInt ∧ (v1).toInt < ((466 : Nat) : Int))] 18 [(0, .inr 1), (1, .inl v1)] [.inl (μ 6 (v1).toNatClampNeg)] μ (by decide +kernel) rfl (zm_bc (h1 (of_decide_eq_false z1)) rfl) (zm_iret (nx := 19) (a := 0) (b := 0) (k := 0) (sw := []) (zq_of (by decide +kernel)) ⟨_, rfl, (h2 (of_decide_eq_false z1))⟩))))

theorem k17_0 {X : zm_T} {d : Nat} {v1 : Int32} {μ : zm_u} {P : Int32 → zm_u → Prop}
    (h0 : ∃ G : Int32 → zm_u → Prop, zI X d 15 [.inr 1, .inl v1] μ G ∧ ∀ (r : Int32) (μ1 : zm_u), G r μ1 → zV X d 17 5 [(0, .inr 1), (1, .inl v1)] [.inl r] μ1 (zpi P)) :
    zV X d 17 0 [(0, .inr 1), (1, .inl v1)] [] μ (zpi P) :=
  (zm_run [(0, 1, 27, 0, 0, 0, []), (1, 2, 1, 1, 0, 0, [])] _ _ _ _ [] 2 [(0, .inr 1), (1, .inl v1)] [.inl v1, .inr 1] μ (by decide +kernel) rfl rfl (by obtain ⟨G, he, hk⟩ := h0; exact zm_callV (as := [.inr 1, .inl v1]) (rest := []) (P := zpi G) (nx := 5) (a := 15) (b := 2) (k := 1) (sw := []) (zq_of (by decide +kernel)) rfl rfl rfl he (fun _ μ1 hp => by obtain ⟨v, rfl, hp⟩ := hp; exact (zm_V_pick [0, 1] rfl (hk v μ1 hp)))))

theorem k17_5 {X : zm_T} {d : Nat} {s0 v1 : Int32} {μ : zm_u} {P : Int32 → zm_u → Prop}
    (h0 : s0 = 0 → P (-1 : Int32) μ)
    (h1 : ¬ (s0 = 0) → 0 ≤ (v1).toInt ∧ (v1).toInt < ((466 : Nat) : Int))
    (h2 : ¬ (s0 = 0) → P (μ 7 (v1).toNatClampNeg) μ) :
    zV X d 17 5 [(0, .inr 1), (1, .inl v1)] [.inl s0] μ (zpi P) :=
  (zm_if (nx := 8) (a := 17) (b := 0) (k := 0) (sw := []) (zq_of (by decide +kernel)) (fun z1 => (zm_run [(17, 18, 0, 0, 0, (-1), [])] _ _ _ _ [] 18 [(0, .inr 1), (1, .inl v1)] [.inl (-1 : Int32)] μ (by decide +kernel) rfl rfl (zm_iret (nx := 19) (a := 0) (b := 0) (k := 0) (sw := []) (zq_of (by decide +kernel)) ⟨_, rfl, (h0 (of_decide_eq_true z1))⟩))) (fun z1 => (zm_run [(8, 9, 27, 0, 0, 0, []), (9, 12, 4, 1, 1, 0, []), (12, 13, 1, 1, 0, 0, []), (13, 14, 6, 0, 0, 0, []), (14, 17, 19, 18, 0, 0, [])] _ _ _ _ [decide (0 ≤ (v1).toInt ∧ (v1).toInt < ((466 : Nat) : Int))] 18 [(0, .inr 1), (1, .inl v1)] [.inl (μ 7 (v1).toNatClampNeg)] μ (by decide +kernel) rfl (zm_bc (h1 (of_decide_eq_false z1)) rfl) (zm_iret (nx := 19) (a := 0) (b := 0) (k := 0) (sw := []) (zq_of (by decide +kernel)) ⟨_, rfl, (h2 (of_decide_eq_false z1))⟩))))

theorem k18_0 {X : zm_T} {d : Nat} {v1 : Int32} {μ : zm_u} {P : Int32 → zm_u → Prop}
    (h0 : ∃ G : Int32 → zm_u → Prop, zI X d 15 [.inr 1, .inl v1] μ G ∧ ∀ (r : Int32) (μ1 : zm_u), G r μ1 → zV X d 18 5 [(0, .inr 1), (1, .inl v1)] [.inl r] μ1 (zpi P)) :
    zV X d 18 0 [(0, .inr 1), (1, .inl v1)] [] μ (zpi P) :=
  (zm_run [(0, 1, 27, 0, 0, 0, []), (1, 2, 1, 1, 0, 0, [])] _ _ _ _ [] 2 [(0, .inr 1), (1, .inl v1)] [.inl v1, .inr 1] μ (by decide +kernel) rfl rfl (by obtain ⟨G, he, hk⟩ := h0; exact zm_callV (as := [.inr 1, .inl v1]) (rest := []) (P := zpi G) (nx := 5) (a := 15) (b := 2) (k := 1) (sw := []) (zq_of (by decide +kernel)) rfl rfl rfl he (fun _ μ1 hp => by obtain ⟨v, rfl, hp⟩ := hp; exact (zm_V_pick [0, 1] rfl (hk v μ1 hp)))))

theorem k18_5 {X : zm_T} {d : Nat} {s0 v1 : Int32} {μ : zm_u} {P : Int32 → zm_u → Prop}
    (h0 : s0 = 0 → P (-1 : Int32) μ)
    (h1 : ¬ (s0 = 0) → 0 ≤ (v1).toInt ∧ (v1).toInt < ((466 : Nat) : Int))
    (h2 : ¬ (s0 = 0) → P (μ 8 (v1).toNatClampNeg) μ) :
    zV X d 18 5 [(0, .inr 1), (1, .inl v1)] [.inl s0] μ (zpi P) :=
  (zm_if (nx := 8) (a := 17) (b := 0) (k := 0) (sw := []) (zq_of (by decide +kernel)) (fun z1 => (zm_run [(17, 18, 0, 0, 0, (-1), [])] _ _ _ _ [] 18 [(0, .inr 1), (1, .inl v1)] [.inl (-1 : Int32)] μ (by decide +kernel) rfl rfl (zm_iret (nx := 19) (a := 0) (b := 0) (k := 0) (sw := []) (zq_of (by decide +kernel)) ⟨_, rfl, (h0 (of_decide_eq_true z1))⟩))) (fun z1 => (zm_run [(8, 9, 27, 0, 0, 0, []), (9, 12, 4, 2, 1, 0, []), (12, 13, 1, 1, 0, 0, []), (13, 14, 6, 0, 0, 0, []), (14, 17, 19, 18, 0, 0, [])] _ _ _ _ [decide (0 ≤ (v1).toInt ∧ (v1).toInt < ((466 : Nat) : Int))] 18 [(0, .inr 1), (1, .inl v1)] [.inl (μ 8 (v1).toNatClampNeg)] μ (by decide +kernel) rfl (zm_bc (h1 (of_decide_eq_false z1)) rfl) (zm_iret (nx := 19) (a := 0) (b := 0) (k := 0) (sw := []) (zq_of (by decide +kernel)) ⟨_, rfl, (h2 (of_decide_eq_false z1))⟩))))

set_option maxRecDepth 100000 in
theorem k19_0 {X : zm_T} {d : Nat} {v1 v2 v3 : Int32} {μ : zm_u} {P : Int32 → zm_u → Prop}
    (h0 : v1 = 0 → ∃ G : Int32 → zm_u → Prop, zI X d 15 [.inr 1, .inl v2] μ G ∧ ∀ (r : Int32) (μ1 : zm_u), G r μ1 → zV X d 19 33 [(0, .inr 1), (3, .inl v3)] [.inl r] μ1 (zpi P))
    (h1 : ¬ v1 = 0 → v1 = 1 → ∃ G : Int32 → zm_u → Prop, zI X d 15 [.inr 1, .inl v2] μ G ∧ ∀ (r : Int32) (μ1 : zm_u), G r μ1 → zV X d 19 55 [] [.inl r] μ1 (zpi P))
    (h2 : ¬ v1 = 0 → ¬ v1 = 1 → v1 = 2 → v2 < 0 → P (0 : Int32) μ)
    (h3 : ¬ v1 = 0 → ¬ v1 = 1 → v1 = 2 → ¬ (v2 < 0) → (3 : Int32) ≤ v2 → P (0 : Int32) μ)
    (h4 : ¬ v1 = 0 → ¬ v1 = 1 → v1 = 2 → ¬ (v2 < 0) → ¬ ((3 : Int32) ≤ v2) → P (1 : Int32) μ)
    (h5 : ¬ v1 = 0 → ¬ v1 = 1 → ¬ v1 = 2 → P (0 : Int32) μ) :
    zV X d 19 0 [(0, .inr 1), (1, .inl v1), (2, .inl v2), (3, .inl v3)] [] μ (zpi P) :=
  (zm_run [(0, 1, 1, 1, 0, 0, [])] _ _ _ _ [] 1 [(0, .inr 1), (1, .inl v1), (2, .inl v2), (3, .inl v3)] [.inl v1] μ (by decide +kernel) rfl rfl (zm_switch (nx := 28) (a := 71) (b := 0) (k := 0) (sw := [(0, 28), (1, 50), (2, 56)]) (zq_of (by decide +kernel)) (zsw_e (fun z1 => (zm_run [(28, 29, 27, 0, 0, 0, []), (29, 30, 1, 2, 0, 0, [])] _ _ _ _ [] 30 [(0, .inr 1), (1, .inl v1), (2, .inl v2), (3, .inl v3)] [.inl v2, .inr 1] μ (by decide +kernel) rfl rfl (by obtain ⟨G, he, hk⟩ := (h0 z1); exact zm_callV (as := [.inr 1, .inl v2]) (rest := []) (P := zpi G) (nx := 33) (a := 15) (b := 2) (k := 1) (sw := []) (zq_of (by decide +kernel)) rfl rfl rfl he (fun _ μ1 hp => by obtain ⟨v, rfl, hp⟩ := hp; exact (zm_V_pick [0, 3] rfl (hk v μ1 hp)))))) (fun z1 => (zsw_e (fun z2 => (zm_run [(50, 51, 27, 0, 0, 0, []), (51, 52, 1, 2, 0, 0, [])] _ _ _ _ [] 52 [(0, .inr 1), (1, .inl v1), (2, .inl v2), (3, .inl v3)] [.inl v2, .inr 1] μ (by decide +kernel) rfl rfl (by obtain ⟨G, he, hk⟩ := (h1 z1 z2); exact zm_callV (as := [.inr 1, .inl v2]) (rest := []) (P := zpi G) (nx := 55) (a := 15) (b := 2) (k := 1) (sw := []) (zq_of (by decide +kernel)) rfl rfl rfl he (fun _ μ1 hp => by obtain ⟨v, rfl, hp⟩ := hp; exact (zm_V_pick [] rfl (hk v μ1 hp)))))) (fun z2 => (zsw_e (fun z3 => (zm_run [(56, 57, 1, 2, 0, 0, [])] _ _ _ _ [] 57 [(0, .inr 1), (1, .inl v1), (2, .inl v2), (3, .inl v3)] [.inl v2] μ (by decide +kernel) rfl rfl (zm_if (nx := 60) (a := 69) (b := 2) (k := 0) (sw := []) (zq_of (by decide +kernel)) (fun z4 => (zm_run [(69, 70, 0, 0, 0, 0, [])] _ _ _ _ [] 70 [(0, .inr 1), (1, .inl v1), (2, .inl v2), (3, .inl v3)] [.inl (0 : Int32)] μ (by decide +kernel) rfl rfl (zm_zret (nx := 71) (a := 0) (b := 0) (k := 0) (sw := []) (zq_of (by decide +kernel)) (Or.inl rfl) ⟨_, rfl, (h2 z1 z2 z3 (of_decide_eq_true z4))⟩))) (fun z4 => (zm_run [(60, 61, 1, 2, 0, 0, []), (61, 62, 0, 0, 0, 3, [])] _ _ _ _ [] 62 [(0, .inr 1), (1, .inl v1), (2, .inl v2), (3, .inl v3)] [.inl (3 : Int32), .inl v2] μ (by decide +kernel) rfl rfl (zm_icmp (nx := 65) (a := 69) (b := 3) (k := 0) (sw := []) (zq_of (by decide +kernel)) (fun z5 => (zm_run [(69, 70, 0, 0, 0, 0, [])] _ _ _ _ [] 70 [(0, .inr 1), (1, .inl v1), (2, .inl v2), (3, .inl v3)] [.inl (0 : Int32)] μ (by decide +kernel) rfl rfl (zm_zret (nx := 71) (a := 0) (b := 0) (k := 0) (sw := []) (zq_of (by decide +kernel)) (Or.inl rfl) ⟨_, rfl, (h3 z1 z2 z3 (of_decide_eq_false z4) (of_decide_eq_true z5))⟩))) (fun z5 => (zm_run [(65, 66, 0, 0, 0, 1, []), (66, 69, 19, 70, 0, 0, [])] _ _ _ _ [] 70 [(0, .inr 1), (1, .inl v1), (2, .inl v2), (3, .inl v3)] [.inl (1 : Int32)] μ (by decide +kernel) rfl rfl (zm_zret (nx := 71) (a := 0) (b := 0) (k := 0) (sw := []) (zq_of (by decide +kernel)) (Or.inr rfl) ⟨_, rfl, (h4 z1 z2 z3 (of_decide_eq_false z4) (of_decide_eq_false z5))⟩))))))))) (fun z3 => (zm_run [(71, 72, 0, 0, 0, 0, [])] _ _ _ _ [] 72 [(0, .inr 1), (1, .inl v1), (2, .inl v2), (3, .inl v3)] [.inl (0 : Int32)] μ (by decide +kernel) rfl rfl (zm_zret (nx := 73) (a := 0) (b := 0) (k := 0) (sw := []) (zq_of (by decide +kernel)) (Or.inl rfl) ⟨_, rfl, (h5 z1 z2 z3)⟩))))))))))

theorem k19_33 {X : zm_T} {d : Nat} {s0 v3 : Int32} {μ : zm_u} {P : Int32 → zm_u → Prop}
    (h0 : s0 = 0 → P (0 : Int32) μ)
    (h1 : ¬ (s0 = 0) → ∃ G : Int32 → zm_u → Prop, zI X d 15 [.inr 1, .inl v3] μ G ∧ ∀ (r : Int32) (μ1 : zm_u), G r μ1 → zV X d 19 41 [] [.inl r] μ1 (zpi P)) :
    zV X d 19 33 [(0, .inr 1), (3, .inl v3)] [.inl s0] μ (zpi P) :=
  (zm_if (nx := 36) (a := 48) (b := 0) (k := 0) (sw := []) (zq_of (by decide +kernel)) (fun z1 => (zm_run [(48, 49, 0, 0, 0, 0, [])] _ _ _ _ [] 49 [(0, .inr 1), (3, .inl v3)] [.inl (0 : Int32)] μ (by decide +kernel) rfl rfl (zm_zret (nx := 50) (a := 0) (b := 0) (k := 0) (sw := []) (zq_of (by decide +kernel)) (Or.inl rfl) ⟨_, rfl, (h0 (of_decide_eq_true z1))⟩))) (fun z1 => (zm_run [(36, 37, 27, 0, 0, 0, []), (37, 38, 1, 3, 0, 0, [])] _ _ _ _ [] 38 [(0, .inr 1), (3, .inl v3)] [.inl v3, .inr 1] μ (by decide +kernel) rfl rfl (by obtain ⟨G, he, hk⟩ := (h1 (of_decide_eq_false z1)); exact zm_callV (as := [.inr 1, .inl v3]) (rest := []) (P := zpi G) (nx := 41) (a := 15) (b := 2) (k := 1) (sw := []) (zq_of (by decide +kernel)) rfl rfl rfl he (fun _ μ1 hp => by obtain ⟨v, rfl, hp⟩ := hp; exact (zm_V_pick [] rfl (hk v μ1 hp)))))))

theorem k19_55 {X : zm_T} {d : Nat} {s0 : Int32} {μ : zm_u} {P : Int32 → zm_u → Prop}
    (h0 : s0 = 0 ∨ s0 = 1)
    (h1 : P s0 μ) :
    zV X d 19 55 [] [.inl s0] μ (zpi P) :=
  (zm_zret (nx := 56) (a := 0) (b := 0) (k := 0) (sw := []) (zq_of (by decide +kernel)) h0 ⟨_, rfl, h1⟩)

theorem k19_41 {X : zm_T} {d : Nat} {s0 : Int32} {μ : zm_u} {P : Int32 → zm_u → Prop}
    (h0 : s0 = 0 → P (0 : Int32) μ)
    (h1 : ¬ (s0 = 0) → P (1 : Int32) μ) :
    zV X d 19 41 [] [.inl s0] μ (zpi P) :=
  (zm_if (nx := 44) (a := 48) (b := 0) (k := 0) (sw := []) (zq_of (by decide +kernel)) (fun z1 => (zm_run [(48, 49, 0, 0, 0, 0, [])] _ _ _ _ [] 49 [] [.inl (0 : Int32)] μ (by decide +kernel) rfl rfl (zm_zret (nx := 50) (a := 0) (b := 0) (k := 0) (sw := []) (zq_of (by decide +kernel)) (Or.inl rfl) ⟨_, rfl, (h0 (of_decide_eq_true z1))⟩))) (fun z1 => (zm_run [(44, 45, 0, 0, 0, 1, []), (45, 48, 19, 49, 0, 0, [])] _ _ _ _ [] 49 [] [.inl (1 : Int32)] μ (by decide +kernel) rfl rfl (zm_zret (nx := 50) (a := 0) (b := 0) (k := 0) (sw := []) (zq_of (by decide +kernel)) (Or.inr rfl) ⟨_, rfl, (h1 (of_decide_eq_false z1))⟩))))

theorem k20_0 {X : zm_T} {d : Nat} {v1 v2 v3 : Int32} {μ : zm_u} {P : Int32 → zm_u → Prop}
    (h0 : v1 = 0 → ∃ G : Int32 → zm_u → Prop, zI X d 21 [.inr 1, .inl v2, .inl (4 : Int32)] μ G ∧ ∀ (r : Int32) (μ1 : zm_u), G r μ1 → zV X d 20 35 [(0, .inr 1), (3, .inl v3)] [.inl r, .inl (1 : Int32)] μ1 (zpi P))
    (h1 : ¬ v1 = 0 → v1 = 1 → ∃ G : Int32 → zm_u → Prop, zI X d 21 [.inr 1, .inl v2, .inl (4 : Int32)] μ G ∧ ∀ (r : Int32) (μ1 : zm_u), G r μ1 → zV X d 20 53 [] [.inl r, .inl (1 : Int32)] μ1 (zpi P))
    (h2 : ¬ v1 = 0 → ¬ v1 = 1 → P (1 : Int32) μ) :
    zV X d 20 0 [(0, .inr 1), (1, .inl v1), (2, .inl v2), (3, .inl v3)] [] μ (zpi P) :=
  (zm_run [(0, 1, 1, 1, 0, 0, [])] _ _ _ _ [] 1 [(0, .inr 1), (1, .inl v1), (2, .inl v2), (3, .inl v3)] [.inl v1] μ (by decide +kernel) rfl rfl (zm_switch (nx := 28) (a := 55) (b := 0) (k := 0) (sw := [(0, 28), (1, 46)]) (zq_of (by decide +kernel)) (zsw_e (fun z1 => (zm_run [(28, 29, 0, 0, 0, 1, []), (29, 30, 27, 0, 0, 0, []), (30, 31, 1, 2, 0, 0, []), (31, 32, 0, 0, 0, 4, [])] _ _ _ _ [] 32 [(0, .inr 1), (1, .inl v1), (2, .inl v2), (3, .inl v3)] [.inl (4 : Int32), .inl v2, .inr 1, .inl (1 : Int32)] μ (by decide +kernel) rfl rfl (by obtain ⟨G, he, hk⟩ := (h0 z1); exact zm_callV (as := [.inr 1, .inl v2, .inl (4 : Int32)]) (rest := [.inl (1 : Int32)]) (P := zpi G) (nx := 35) (a := 21) (b := 3) (k := 1) (sw := []) (zq_of (by decide +kernel)) rfl rfl rfl he (fun _ μ1 hp => by obtain ⟨v, rfl, hp⟩ := hp; exact (zm_V_pick [0, 3] rfl (hk v μ1 hp)))))) (fun z1 => (zsw_e (fun z2 => (zm_run [(46, 47, 0, 0, 0, 1, []), (47, 48, 27, 0, 0, 0, []), (48, 49, 1, 2, 0, 0, []), (49, 50, 0, 0, 0, 4, [])] _ _ _ _ [] 50 [(0, .inr 1), (1, .inl v1), (2, .inl v2), (3, .inl v3)] [.inl (4 : Int32), .inl v2, .inr 1, .inl (1 : Int32)] μ (by decide +kernel) rfl rfl (by obtain ⟨G, he, hk⟩ := (h1 z1 z2); exact zm_callV (as := [.inr 1, .inl v2, .inl (4 : Int32)]) (rest := [.inl (1 : Int32)]) (P := zpi G) (nx := 53) (a := 21) (b := 3) (k := 1) (sw := []) (zq_of (by decide +kernel)) rfl rfl rfl he (fun _ μ1 hp => by obtain ⟨v, rfl, hp⟩ := hp; exact (zm_V_pick [] rfl (hk v μ1 hp)))))) (fun z2 => (zm_run [(55, 56, 0, 0, 0, 1, [])] _ _ _ _ [] 56 [(0, .inr 1), (1, .inl v1), (2, .inl v2), (3, .inl v3)] [.inl (1 : Int32)] μ (by decide +kernel) rfl rfl (zm_iret (nx := 57) (a := 0) (b := 0) (k := 0) (sw := []) (zq_of (by decide +kernel)) ⟨_, rfl, (h2 z1 z2)⟩))))))))

theorem k20_35 {X : zm_T} {d : Nat} {s0 s1 v3 : Int32} {μ : zm_u} {P : Int32 → zm_u → Prop}
    (h0 : ∃ G : Int32 → zm_u → Prop, zI X d 21 [.inr 1, .inl v3, .inl (4 : Int32)] μ G ∧ ∀ (r : Int32) (μ1 : zm_u), G r μ1 → zV X d 20 41 [] [.inl r, .inl s1, .inl s0] μ1 (zpi P)) :
    zV X d 20 35 [(0, .inr 1), (3, .inl v3)] [.inl s1, .inl s0] μ (zpi P) :=
  (zm_run [(35, 36, 27, 0, 0, 0, []), (36, 37, 1, 3, 0, 0, []), (37, 38, 0, 0, 0, 4, [])] _ _ _ _ [] 38 [(0, .inr 1), (3, .inl v3)] [.inl (4 : Int32), .inl v3, .inr 1, .inl s1, .inl s0] μ (by decide +kernel) rfl rfl (by obtain ⟨G, he, hk⟩ := h0; exact zm_callV (as := [.inr 1, .inl v3, .inl (4 : Int32)]) (rest := [.inl s1, .inl s0]) (P := zpi G) (nx := 41) (a := 21) (b := 3) (k := 1) (sw := []) (zq_of (by decide +kernel)) rfl rfl rfl he (fun _ μ1 hp => by obtain ⟨v, rfl, hp⟩ := hp; exact (zm_V_pick [] rfl (hk v μ1 hp)))))

theorem k20_53 {X : zm_T} {d : Nat} {s0 s1 : Int32} {μ : zm_u} {P : Int32 → zm_u → Prop}
    (h0 : P (s0 + s1) μ) :
    zV X d 20 53 [] [.inl s1, .inl s0] μ (zpi P) :=
  (zm_run [(53, 54, 10, 0, 0, 0, [])] _ _ _ _ [] 54 [] [.inl (s0 + s1)] μ (by decide +kernel) rfl rfl (zm_iret (nx := 55) (a := 0) (b := 0) (k := 0) (sw := []) (zq_of (by decide +kernel)) ⟨_, rfl, h0⟩))

theorem k20_41 {X : zm_T} {d : Nat} {s0 s1 s2 : Int32} {μ : zm_u} {P : Int32 → zm_u → Prop}
    (h0 : P (s0 + (cond (decide (s1 < s2)) s2 s1)) μ) :
    zV X d 20 41 [] [.inl s2, .inl s1, .inl s0] μ (zpi P) :=
  (zm_run [(41, 44, 25, 0, 0, 0, []), (44, 45, 10, 0, 0, 0, [])] _ _ _ _ [true] 45 [] [.inl (s0 + (cond (decide (s1 < s2)) s2 s1))] μ (by decide +kernel) rfl (zm_bt rfl rfl) (zm_iret (nx := 46) (a := 0) (b := 0) (k := 0) (sw := []) (zq_of (by decide +kernel)) ⟨_, rfl, h0⟩))

theorem k21_0 {X : zm_T} {d : Nat} {v1 v2 : Int32} {μ : zm_u} {P : Int32 → zm_u → Prop}
    (h0 : ¬ v2 = 0 → ∃ G : Int32 → zm_u → Prop, zI X d 16 [.inr 1, .inl v1] μ G ∧ ∀ (r : Int32) (μ1 : zm_u), G r μ1 → zV X d 21 11 [(0, .inr 1), (1, .inl v1), (2, .inl v2)] [.inl r] μ1 (zpi P))
    (h1 : v2 = 0 → P (0 : Int32) μ) :
    zV X d 21 0 [(0, .inr 1), (1, .inl v1), (2, .inl v2)] [] μ (zpi P) :=
  (zm_run [(0, 1, 1, 2, 0, 0, [])] _ _ _ _ [] 1 [(0, .inr 1), (1, .inl v1), (2, .inl v2)] [.inl v2] μ (by decide +kernel) rfl rfl (zm_if (nx := 4) (a := 6) (b := 1) (k := 0) (sw := []) (zq_of (by decide +kernel)) (fun z1 => (zm_run [(6, 7, 27, 0, 0, 0, []), (7, 8, 1, 1, 0, 0, [])] _ _ _ _ [] 8 [(0, .inr 1), (1, .inl v1), (2, .inl v2)] [.inl v1, .inr 1] μ (by decide +kernel) rfl rfl (by obtain ⟨G, he, hk⟩ := (h0 (of_decide_eq_true z1)); exact zm_callV (as := [.inr 1, .inl v1]) (rest := []) (P := zpi G) (nx := 11) (a := 16) (b := 2) (k := 1) (sw := []) (zq_of (by decide +kernel)) rfl rfl rfl he (fun _ μ1 hp => by obtain ⟨v, rfl, hp⟩ := hp; exact (zm_V_pick [0, 1, 2] rfl (hk v μ1 hp)))))) (fun z1 => (zm_run [(4, 5, 0, 0, 0, 0, [])] _ _ _ _ [] 5 [(0, .inr 1), (1, .inl v1), (2, .inl v2)] [.inl (0 : Int32)] μ (by decide +kernel) rfl rfl (zm_iret (nx := 6) (a := 0) (b := 0) (k := 0) (sw := []) (zq_of (by decide +kernel)) ⟨_, rfl, (h1 (Classical.byContradiction fun w => (of_decide_eq_false z1) w))⟩)))))

theorem k21_11 {X : zm_T} {d : Nat} {s0 v1 v2 : Int32} {μ : zm_u} {P : Int32 → zm_u → Prop}
    (h0 : s0 = 0 → ∃ G : Int32 → zm_u → Prop, zI X d 17 [.inr 1, .inl v1] μ G ∧ ∀ (r : Int32) (μ1 : zm_u), G r μ1 → zV X d 21 43 [(0, .inr 1), (1, .inl v1), (2, .inl v2)] [.inl r, .inr 1, .inl (1 : Int32)] μ1 (zpi P))
    (h1 : ¬ s0 = 0 → s0 = 1 → ∃ G : Int32 → zm_u → Prop, zI X d 17 [.inr 1, .inl v1] μ G ∧ ∀ (r : Int32) (μ1 : zm_u), G r μ1 → zV X d 21 73 [(2, .inl v2)] [.inl r, .inr 1, .inl (1 : Int32)] μ1 (zpi P))
    (h2 : ¬ s0 = 0 → ¬ s0 = 1 → P (1 : Int32) μ) :
    zV X d 21 11 [(0, .inr 1), (1, .inl v1), (2, .inl v2)] [.inl s0] μ (zpi P) :=
  (zm_switch (nx := 36) (a := 81) (b := 0) (k := 0) (sw := [(0, 36), (1, 66)]) (zq_of (by decide +kernel)) (zsw_e (fun z1 => (zm_run [(36, 37, 0, 0, 0, 1, []), (37, 38, 27, 0, 0, 0, []), (38, 39, 27, 0, 0, 0, []), (39, 40, 1, 1, 0, 0, [])] _ _ _ _ [] 40 [(0, .inr 1), (1, .inl v1), (2, .inl v2)] [.inl v1, .inr 1, .inr 1, .inl (1 : Int32)] μ (by decide +kernel) rfl rfl (by obtain ⟨G, he, hk⟩ := (h0 z1); exact zm_callV (as := [.inr 1, .inl v1]) (rest := [.inr 1, .inl (1 : Int32)]) (P := zpi G) (nx := 43) (a := 17) (b := 2) (k := 1) (sw := []) (zq_of (by decide +kernel)) rfl rfl rfl he (fun _ μ1 hp => by obtain ⟨v, rfl, hp⟩ := hp; exact (zm_V_pick [0, 1, 2] rfl (hk v μ1 hp)))))) (fun z1 => (zsw_e (fun z2 => (zm_run [(66, 67, 0, 0, 0, 1, []), (67, 68, 27, 0, 0, 0, []), (68, 69, 27, 0, 0, 0, []), (69, 70, 1, 1, 0, 0, [])] _ _ _ _ [] 70 [(0, .inr 1), (1, .inl v1), (2, .inl v2)] [.inl v1, .inr 1, .inr 1, .inl (1 : Int32)] μ (by decide +kernel) rfl rfl (by obtain ⟨G, he, hk⟩ := (h1 z1 z2); exact zm_callV (as := [.inr 1, .inl v1]) (rest := [.inr 1, .inl (1 : Int32)]) (P := zpi G) (nx := 73) (a := 17) (b := 2) (k := 1) (sw := []) (zq_of (by decide +kernel)) rfl rfl rfl he (fun _ μ1 hp => by obtain ⟨v, rfl, hp⟩ := hp; exact (zm_V_pick [2] rfl (hk v μ1 hp)))))) (fun z2 => (zm_run [(81, 82, 0, 0, 0, 1, [])] _ _ _ _ [] 82 [(0, .inr 1), (1, .inl v1), (2, .inl v2)] [.inl (1 : Int32)] μ (by decide +kernel) rfl rfl (zm_iret (nx := 83) (a := 0) (b := 0) (k := 0) (sw := []) (zq_of (by decide +kernel)) ⟨_, rfl, (h2 z1 z2)⟩)))))))

theorem k21_43 {X : zm_T} {d : Nat} {s0 s2 v1 v2 : Int32} {μ : zm_u} {P : Int32 → zm_u → Prop}
    (h0 : ∃ G : Int32 → zm_u → Prop, zI X d 21 [.inr 1, .inl s2, .inl (v2 - (1 : Int32))] μ G ∧ ∀ (r : Int32) (μ1 : zm_u), G r μ1 → zV X d 21 49 [(0, .inr 1), (1, .inl v1), (2, .inl v2)] [.inl r, .inl s0] μ1 (zpi P)) :
    zV X d 21 43 [(0, .inr 1), (1, .inl v1), (2, .inl v2)] [.inl s2, .inr 1, .inl s0] μ (zpi P) :=
  (zm_run [(43, 44, 1, 2, 0, 0, []), (44, 45, 0, 0, 0, 1, []), (45, 46, 11, 0, 0, 0, [])] _ _ _ _ [] 46 [(0, .inr 1), (1, .inl v1), (2, .inl v2)] [.inl (v2 - (1 : Int32)), .inl s2, .inr 1, .inl s0] μ (by decide +kernel) rfl rfl (by obtain ⟨G, he, hk⟩ := h0; exact zm_callV (as := [.inr 1, .inl s2, .inl (v2 - (1 : Int32))]) (rest := [.inl s0]) (P := zpi G) (nx := 49) (a := 21) (b := 3) (k := 1) (sw := []) (zq_of (by decide +kernel)) rfl rfl rfl he (fun _ μ1 hp => by obtain ⟨v, rfl, hp⟩ := hp; exact (zm_V_pick [0, 1, 2] rfl (hk v μ1 hp)))))

theorem k21_73 {X : zm_T} {d : Nat} {s0 s2 v2 : Int32} {μ : zm_u} {P : Int32 → zm_u → Prop}
    (h0 : ∃ G : Int32 → zm_u → Prop, zI X d 21 [.inr 1, .inl s2, .inl (v2 - (1 : Int32))] μ G ∧ ∀ (r : Int32) (μ1 : zm_u), G r μ1 → zV X d 21 79 [] [.inl r, .inl s0] μ1 (zpi P)) :
    zV X d 21 73 [(2, .inl v2)] [.inl s2, .inr 1, .inl s0] μ (zpi P) :=
  (zm_run [(73, 74, 1, 2, 0, 0, []), (74, 75, 0, 0, 0, 1, []), (75, 76, 11, 0, 0, 0, [])] _ _ _ _ [] 76 [(2, .inl v2)] [.inl (v2 - (1 : Int32)), .inl s2, .inr 1, .inl s0] μ (by decide +kernel) rfl rfl (by obtain ⟨G, he, hk⟩ := h0; exact zm_callV (as := [.inr 1, .inl s2, .inl (v2 - (1 : Int32))]) (rest := [.inl s0]) (P := zpi G) (nx := 79) (a := 21) (b := 3) (k := 1) (sw := []) (zq_of (by decide +kernel)) rfl rfl rfl he (fun _ μ1 hp => by obtain ⟨v, rfl, hp⟩ := hp; exact (zm_V_pick [] rfl (hk v μ1 hp)))))

theorem k21_49 {X : zm_T} {d : Nat} {s0 s1 v1 v2 : Int32} {μ : zm_u} {P : Int32 → zm_u → Prop}
    (h0 : ∃ G : Int32 → zm_u → Prop, zI X d 18 [.inr 1, .inl v1] μ G ∧ ∀ (r : Int32) (μ1 : zm_u), G r μ1 → zV X d 21 55 [(2, .inl v2)] [.inl r, .inr 1, .inl s1, .inl s0] μ1 (zpi P)) :
    zV X d 21 49 [(0, .inr 1), (1, .inl v1), (2, .inl v2)] [.inl s1, .inl s0] μ (zpi P) :=
  (zm_run [(49, 50, 27, 0, 0, 0, []), (50, 51, 27, 0, 0, 0, []), (51, 52, 1, 1, 0, 0, [])] _ _ _ _ [] 52 [(0, .inr 1), (1, .inl v1), (2, .inl v2)] [.inl v1, .inr 1, .inr 1, .inl s1, .inl s0] μ (by decide +kernel) rfl rfl (by obtain ⟨G, he, hk⟩ := h0; exact zm_callV (as := [.inr 1, .inl v1]) (rest := [.inr 1, .inl s1, .inl s0]) (P := zpi G) (nx := 55) (a := 18) (b := 2) (k := 1) (sw := []) (zq_of (by decide +kernel)) rfl rfl rfl he (fun _ μ1 hp => by obtain ⟨v, rfl, hp⟩ := hp; exact (zm_V_pick [2] rfl (hk v μ1 hp)))))

theorem k21_79 {X : zm_T} {d : Nat} {s0 s1 : Int32} {μ : zm_u} {P : Int32 → zm_u → Prop}
    (h0 : P (s0 + s1) μ) :
    zV X d 21 79 [] [.inl s1, .inl s0] μ (zpi P) :=
  (zm_run [(79, 80, 10, 0, 0, 0, [])] _ _ _ _ [] 80 [] [.inl (s0 + s1)] μ (by decide +kernel) rfl rfl (zm_iret (nx := 81) (a := 0) (b := 0) (k := 0) (sw := []) (zq_of (by decide +kernel)) ⟨_, rfl, h0⟩))

theorem k21_55 {X : zm_T} {d : Nat} {s0 s1 s3 v2 : Int32} {μ : zm_u} {P : Int32 → zm_u → Prop}
    (h0 : ∃ G : Int32 → zm_u → Prop, zI X d 21 [.inr 1, .inl s3, .inl (v2 - (1 : Int32))] μ G ∧ ∀ (r : Int32) (μ1 : zm_u), G r μ1 → zV X d 21 61 [] [.inl r, .inl s1, .inl s0] μ1 (zpi P)) :
    zV X d 21 55 [(2, .inl v2)] [.inl s3, .inr 1, .inl s1, .inl s0] μ (zpi P) :=
  (zm_run [(55, 56, 1, 2, 0, 0, []), (56, 57, 0, 0, 0, 1, []), (57, 58, 11, 0, 0, 0, [])] _ _ _ _ [] 58 [(2, .inl v2)] [.inl (v2 - (1 : Int32)), .inl s3, .inr 1, .inl s1, .inl s0] μ (by decide +kernel) rfl rfl (by obtain ⟨G, he, hk⟩ := h0; exact zm_callV (as := [.inr 1, .inl s3, .inl (v2 - (1 : Int32))]) (rest := [.inl s1, .inl s0]) (P := zpi G) (nx := 61) (a := 21) (b := 3) (k := 1) (sw := []) (zq_of (by decide +kernel)) rfl rfl rfl he (fun _ μ1 hp => by obtain ⟨v, rfl, hp⟩ := hp; exact (zm_V_pick [] rfl (hk v μ1 hp)))))

theorem k21_61 {X : zm_T} {d : Nat} {s0 s1 s2 : Int32} {μ : zm_u} {P : Int32 → zm_u → Prop}
    (h0 : P (s0 + (cond (decide (s1 < s2)) s2 s1)) μ) :
    zV X d 21 61 [] [.inl s2, .inl s1, .inl s0] μ (zpi P) :=
  (zm_run [(61, 64, 25, 0, 0, 0, []), (64, 65, 10, 0, 0, 0, [])] _ _ _ _ [true] 65 [] [.inl (s0 + (cond (decide (s1 < s2)) s2 s1))] μ (by decide +kernel) rfl (zm_bt rfl rfl) (zm_iret (nx := 66) (a := 0) (b := 0) (k := 0) (sw := []) (zq_of (by decide +kernel)) ⟨_, rfl, h0⟩))

theorem k22_0 {X : zm_T} {d : Nat} {v1 v2 v3 : Int32} {μ : zm_u} {P : Int32 → zm_u → Prop}
    (h0 : zV X d 22 3 [(0, .inr 1), (1, .inl v1), (2, .inl v2), (3, .inl v3), (4, .inl (0 : Int32))] [] μ (zpi P)) :
    zV X d 22 0 [(0, .inr 1), (1, .inl v1), (2, .inl v2), (3, .inl v3)] [] μ (zpi P) :=
  (zm_run [(0, 1, 0, 0, 0, 0, []), (1, 3, 2, 4, 0, 0, [])] _ _ _ _ [] 3 [(0, .inr 1), (1, .inl v1), (2, .inl v2), (3, .inl v3), (4, .inl (0 : Int32))] [] μ (by decide +kernel) rfl rfl (zm_V_pick [0, 1, 2, 3, 4] rfl h0))

set_option maxRecDepth 100000 in
theorem k22_3 {X : zm_T} {d : Nat} {v1 v2 v3 v4 : Int32} {μ : zm_u} {P : Int32 → zm_u → Prop}
    (h0 : (μ 1 3) ≤ v4 → P (-1 : Int32) μ)
    (h1 : ¬ ((μ 1 3) ≤ v4) → 0 ≤ (v4).toInt ∧ (v4).toInt < ((466 : Nat) : Int))
    (h2 : ¬ ((μ 1 3) ≤ v4) → ¬ (μ 6 (v4).toNatClampNeg) = v1 → zV X d 22 48 [(0, .inr 1), (1, .inl v1), (2, .inl v2), (3, .inl v3), (4, .inl v4)] [] μ (zpi P))
    (h3 : ¬ ((μ 1 3) ≤ v4) → (μ 6 (v4).toNatClampNeg) = v1 → 0 ≤ (v4).toInt ∧ (v4).toInt < ((466 : Nat) : Int))
    (h4 : ¬ ((μ 1 3) ≤ v4) → (μ 6 (v4).toNatClampNeg) = v1 → ¬ (μ 7 (v4).toNatClampNeg) = v2 → zV X d 22 48 [(0, .inr 1), (1, .inl v1), (2, .inl v2), (3, .inl v3), (4, .inl v4)] [] μ (zpi P))
    (h5 : ¬ ((μ 1 3) ≤ v4) → (μ 6 (v4).toNatClampNeg) = v1 → (μ 7 (v4).toNatClampNeg) = v2 → 0 ≤ (v4).toInt ∧ (v4).toInt < ((466 : Nat) : Int))
    (h6 : ¬ ((μ 1 3) ≤ v4) → (μ 6 (v4).toNatClampNeg) = v1 → (μ 7 (v4).toNatClampNeg) = v2 → ¬ (μ 8 (v4).toNatClampNeg) = v3 → zV X d 22 48 [(0, .inr 1), (1, .inl v1), (2, .inl v2), (3, .inl v3), (4, .inl v4)] [] μ (zpi P))
    (h7 : ¬ ((μ 1 3) ≤ v4) → (μ 6 (v4).toNatClampNeg) = v1 → (μ 7 (v4).toNatClampNeg) = v2 → (μ 8 (v4).toNatClampNeg) = v3 → P v4 μ) :
    zV X d 22 3 [(0, .inr 1), (1, .inl v1), (2, .inl v2), (3, .inl v3), (4, .inl v4)] [] μ (zpi P) :=
  (zm_run [(3, 5, 1, 4, 0, 0, []), (5, 6, 27, 0, 0, 0, []), (6, 9, 4, 3, 1, 0, [])] _ _ _ _ [] 9 [(0, .inr 1), (1, .inl v1), (2, .inl v2), (3, .inl v3), (4, .inl v4)] [.inl (μ 1 3), .inl v4] μ (by decide +kernel) rfl rfl (zm_icmp (nx := 12) (a := 54) (b := 3) (k := 0) (sw := []) (zq_of (by decide +kernel)) (fun z1 => (zm_run [(54, 55, 0, 0, 0, (-1), [])] _ _ _ _ [] 55 [(0, .inr 1), (1, .inl v1), (2, .inl v2), (3, .inl v3), (4, .inl v4)] [.inl (-1 : Int32)] μ (by decide +kernel) rfl rfl (zm_iret (nx := 56) (a := 0) (b := 0) (k := 0) (sw := []) (zq_of (by decide +kernel)) ⟨_, rfl, (h0 (of_decide_eq_true z1))⟩))) (fun z1 => (zm_run [(12, 13, 27, 0, 0, 0, []), (13, 16, 4, 0, 1, 0, []), (16, 18, 1, 4, 0, 0, []), (18, 19, 6, 0, 0, 0, []), (19, 20, 1, 1, 0, 0, [])] _ _ _ _ [decide (0 ≤ (v4).toInt ∧ (v4).toInt < ((466 : Nat) : Int))] 20 [(0, .inr 1), (1, .inl v1), (2, .inl v2), (3, .inl v3), (4, .inl v4)] [.inl v1, .inl (μ 6 (v4).toNatClampNeg)] μ (by decide +kernel) rfl (zm_bc (h1 (of_decide_eq_false z1)) rfl) (zm_icmp (nx := 23) (a := 48) (b := 1) (k := 0) (sw := []) (zq_of (by decide +kernel)) (fun z2 => (zm_V_pick [0, 1, 2, 3, 4] rfl (h2 (of_decide_eq_false z1) (of_decide_eq_true z2)))) (fun z2 => (zm_run [(23, 24, 27, 0, 0, 0, []), (24, 27, 4, 1, 1, 0, []), (27, 29, 1, 4, 0, 0, []), (29, 30, 6, 0, 0, 0, []), (30, 31, 1, 2, 0, 0, [])] _ _ _ _ [decide (0 ≤ (v4).toInt ∧ (v4).toInt < ((466 : Nat) : Int))] 31 [(0, .inr 1), (1, .inl v1), (2, .inl v2), (3, .inl v3), (4, .inl v4)] [.inl v2, .inl (μ 7 (v4).toNatClampNeg)] μ (by decide +kernel) rfl (zm_bc (h3 (of_decide_eq_false z1) (Classical.byContradiction fun w => (of_decide_eq_false z2) w)) rfl) (zm_icmp (nx := 34) (a := 48) (b := 1) (k := 0) (sw := []) (zq_of (by decide +kernel)) (fun z3 => (zm_V_pick [0, 1, 2, 3, 4] rfl (h4 (of_decide_eq_false z1) (Classical.byContradiction fun w => (of_decide_eq_false z2) w) (of_decide_eq_true z3)))) (fun z3 => (zm_run [(34, 35, 27, 0, 0, 0, []), (35, 38, 4, 2, 1, 0, []), (38, 40, 1, 4, 0, 0, []), (40, 41, 6, 0, 0, 0, []), (41, 42, 1, 3, 0, 0, [])] _ _ _ _ [decide (0 ≤ (v4).toInt ∧ (v4).toInt < ((466 : Nat) : Int))] 42 [(0, .inr 1), (1, .inl v1), (2, .inl v2), (3, .inl v3), (4, .inl v4)] [.inl v3, .inl (μ 8 (v4).toNatClampNeg)] μ (by decide +kernel) rfl (zm_bc (h5 (of_decide_eq_false z1) (Classical.byContradiction fun w => (of_decide_eq_false z2) w) (Classical.byContradiction fun w => (of_decide_eq_false z3) w)) rfl) (zm_icmp (nx := 45) (a := 48) (b := 1) (k := 0) (sw := []) (zq_of (by decide +kernel)) (fun z4 => (zm_V_pick [0, 1, 2, 3, 4] rfl (h6 (of_decide_eq_false z1) (Classical.byContradiction fun w => (of_decide_eq_false z2) w) (Classical.byContradiction fun w => (of_decide_eq_false z3) w) (of_decide_eq_true z4)))) (fun z4 => (zm_run [(45, 47, 1, 4, 0, 0, [])] _ _ _ _ [] 47 [(0, .inr 1), (1, .inl v1), (2, .inl v2), (3, .inl v3), (4, .inl v4)] [.inl v4] μ (by decide +kernel) rfl rfl (zm_iret (nx := 48) (a := 0) (b := 0) (k := 0) (sw := []) (zq_of (by decide +kernel)) ⟨_, rfl, (h7 (of_decide_eq_false z1) (Classical.byContradiction fun w => (of_decide_eq_false z2) w) (Classical.byContradiction fun w => (of_decide_eq_false z3) w) (Classical.byContradiction fun w => (of_decide_eq_false z4) w))⟩))))))))))))))

theorem k22_48 {X : zm_T} {d : Nat} {v1 v2 v3 v4 : Int32} {μ : zm_u} {P : Int32 → zm_u → Prop}
    (h0 : zV X d 22 3 [(0, .inr 1), (1, .inl v1), (2, .inl v2), (3, .inl v3), (4, .inl (v4 + 1))] [] μ (zpi P)) :
    zV X d 22 48 [(0, .inr 1), (1, .inl v1), (2, .inl v2), (3, .inl v3), (4, .inl v4)] [] μ (zpi P) :=
  (zm_run [(48, 51, 3, 4, 0, 1, []), (51, 54, 19, 3, 0, 0, [])] _ _ _ _ [] 3 [(0, .inr 1), (1, .inl v1), (2, .inl v2), (3, .inl v3), (4, .inl (v4 + 1))] [] μ (by decide +kernel) rfl rfl (zm_V_pick [0, 1, 2, 3, 4] rfl h0))

theorem k23_0 {X : zm_T} {d : Nat} {v1 v2 v3 : Int32} {μ : zm_u} {P : Int32 → zm_u → Prop}
    (h0 : ∃ G : Int32 → zm_u → Prop, zI X d 22 [.inr 1, .inl v1, .inl v2, .inl v3] μ G ∧ ∀ (r : Int32) (μ1 : zm_u), G r μ1 → zV X d 23 7 [(0, .inr 1), (1, .inl v1), (2, .inl v2), (3, .inl v3)] [.inl r] μ1 (zpi P)) :
    zV X d 23 0 [(0, .inr 1), (1, .inl v1), (2, .inl v2), (3, .inl v3)] [] μ (zpi P) :=
  (zm_run [(0, 1, 27, 0, 0, 0, []), (1, 2, 1, 1, 0, 0, []), (2, 3, 1, 2, 0, 0, []), (3, 4, 1, 3, 0, 0, [])] _ _ _ _ [] 4 [(0, .inr 1), (1, .inl v1), (2, .inl v2), (3, .inl v3)] [.inl v3, .inl v2, .inl v1, .inr 1] μ (by decide +kernel) rfl rfl (by obtain ⟨G, he, hk⟩ := h0; exact zm_callV (as := [.inr 1, .inl v1, .inl v2, .inl v3]) (rest := []) (P := zpi G) (nx := 7) (a := 22) (b := 4) (k := 1) (sw := []) (zq_of (by decide +kernel)) rfl rfl rfl he (fun _ μ1 hp => by obtain ⟨v, rfl, hp⟩ := hp; exact (zm_V_pick [0, 1, 2, 3] rfl (hk v μ1 hp)))))

set_option maxRecDepth 100000 in
theorem k23_7 {X : zm_T} {d : Nat} {s0 v1 v2 v3 : Int32} {μ : zm_u} {P : Int32 → zm_u → Prop}
    (h0 : ¬ s0 = (-1 : Int32) → P s0 μ)
    (h1 : s0 = (-1 : Int32) → (μ 1 3) < (466 : Int32) → 0 ≤ ((μ 1 3)).toInt ∧ ((μ 1 3)).toInt < ((466 : Nat) : Int))
    (h2 : s0 = (-1 : Int32) → (μ 1 3) < (466 : Int32) → 0 ≤ ((μ 1 3)).toInt ∧ ((μ 1 3)).toInt < ((466 : Nat) : Int))
    (h3 : s0 = (-1 : Int32) → (μ 1 3) < (466 : Int32) → 0 ≤ ((μ 1 3)).toInt ∧ ((μ 1 3)).toInt < ((466 : Nat) : Int))
    (h4 : s0 = (-1 : Int32) → (μ 1 3) < (466 : Int32) → P (((μ 1 3) + (1 : Int32)) - (1 : Int32)) (zm_up (zm_up (zm_up (zm_up μ 6 ((μ 1 3)).toNatClampNeg v1) 7 ((μ 1 3)).toNatClampNeg v2) 8 ((μ 1 3)).toNatClampNeg v3) 1 3 ((μ 1 3) + (1 : Int32))))
    (h5 : s0 = (-1 : Int32) → ¬ ((μ 1 3) < (466 : Int32)) → P s0 μ) :
    zV X d 23 7 [(0, .inr 1), (1, .inl v1), (2, .inl v2), (3, .inl v3)] [.inl s0] μ (zpi P) :=
  (zm_run [(7, 9, 2, 4, 0, 0, []), (9, 11, 1, 4, 0, 0, []), (11, 12, 0, 0, 0, (-1), [])] _ _ _ _ [] 12 [(0, .inr 1), (1, .inl v1), (2, .inl v2), (3, .inl v3), (4, .inl s0)] [.inl (-1 : Int32), .inl s0] μ (by decide +kernel) rfl rfl (zm_icmp (nx := 15) (a := 25) (b := 1) (k := 0) (sw := []) (zq_of (by decide +kernel)) (fun z1 => (zm_run [(25, 27, 1, 4, 0, 0, [])] _ _ _ _ [] 27 [(0, .inr 1), (1, .inl v1), (2, .inl v2), (3, .inl v3), (4, .inl s0)] [.inl s0] μ (by decide +kernel) rfl rfl (zm_iret (nx := 28) (a := 0) (b := 0) (k := 0) (sw := []) (zq_of (by decide +kernel)) ⟨_, rfl, (h0 (of_decide_eq_true z1))⟩))) (fun z1 => (zm_run [(15, 16, 27, 0, 0, 0, []), (16, 19, 4, 3, 1, 0, []), (19, 22, 0, 0, 0, 466, [])] _ _ _ _ [] 22 [(0, .inr 1), (1, .inl v1), (2, .inl v2), (3, .inl v3), (4, .inl s0)] [.inl (466 : Int32), .inl (μ 1 3)] μ (by decide +kernel) rfl rfl (zm_icmp (nx := 25) (a := 28) (b := 2) (k := 0) (sw := []) (zq_of (by decide +kernel)) (fun z2 => (zm_run [(28, 29, 27, 0, 0, 0, []), (29, 32, 4, 0, 1, 0, []), (32, 33, 27, 0, 0, 0, []), (33, 36, 4, 3, 1, 0, []), (36, 37, 1, 1, 0, 0, []), (37, 38, 7, 0, 0, 0, []), (38, 39, 27, 0, 0, 0, []), (39, 42, 4, 1, 1, 0, []), (42, 43, 27, 0, 0, 0, []), (43, 46, 4, 3, 1, 0, []), (46, 47, 1, 2, 0, 0, []), (47, 48, 7, 0, 0, 0, []), (48, 49, 27, 0, 0, 0, []), (49, 52, 4, 2, 1, 0, []), (52, 53, 27, 0, 0, 0, []), (53, 56, 4, 3, 1, 0, []), (56, 57, 1, 3, 0, 0, []), (57, 58, 7, 0, 0, 0, []), (58, 59, 27, 0, 0, 0, []), (59, 60, 16, 0, 0, 0, []), (60, 63, 4, 3, 1, 0, []), (63, 64, 0, 0, 0, 1, []), (64, 65, 10, 0, 0, 0, []), (65, 68, 5, 3, 1, 0, []), (68, 69, 27, 0, 0, 0, []), (69, 72, 4, 3, 1, 0, []), (72, 73, 0, 0, 0, 1, []), (73, 74, 11, 0, 0, 0, [])] _ _ _ _ [decide (0 ≤ ((μ 1 3)).toInt ∧ ((μ 1 3)).toInt < ((466 : Nat) : Int)), decide (0 ≤ ((μ 1 3)).toInt ∧ ((μ 1 3)).toInt < ((466 : Nat) : Int)), decide (0 ≤ ((μ 1 3)).toInt ∧ ((μ 1 3)).toInt < ((466 : Nat) : Int))] 74 [(0, .inr 1), (1, .inl v1), (2, .inl v2), (3, .inl v3), (4, .inl s0)] [.inl (((μ 1 3) + (1 : Int32)) - (1 : Int32))] (zm_up (zm_up (zm_up (zm_up μ 6 ((μ 1 3)).toNatClampNeg v1) 7 ((μ 1 3)).toNatClampNeg v2) 8 ((μ 1 3)).toNatClampNeg v3) 1 3 ((μ 1 3) + (1 : Int32))) (by decide +kernel) rfl (zm_bc (h1 (Classical.byContradiction fun w => (of_decide_eq_false z1) w) (of_decide_eq_true z2)) (zm_bc (h2 (Classical.byContradiction fun w => (of_decide_eq_false z1) w) (of_decide_eq_true z2)) (zm_bc (h3 (Classical.byContradiction fun w => (of_decide_eq_false z1) w) (of_decide_eq_true z2)) rfl))) (zm_iret (nx := 75) (a := 0) (b := 0) (k := 0) (sw := []) (zq_of (by decide +kernel)) ⟨_, rfl, (h4 (Classical.byContradiction fun w => (of_decide_eq_false z1) w) (of_decide_eq_true z2))⟩))) (fun z2 => (zm_run [(25, 27, 1, 4, 0, 0, [])] _ _ _ _ [] 27 [(0, .inr 1), (1, .inl v1), (2, .inl v2), (3, .inl v3), (4, .inl s0)] [.inl s0] μ (by decide +kernel) rfl rfl (zm_iret (nx := 28) (a := 0) (b := 0) (k := 0) (sw := []) (zq_of (by decide +kernel)) ⟨_, rfl, (h5 (Classical.byContradiction fun w => (of_decide_eq_false z1) w) (of_decide_eq_false z2))⟩))))))))

theorem k24_0 {X : zm_T} {d : Nat} {v1 v2 : Int32} {μ : zm_u} {P : Int32 → zm_u → Prop}
    (h0 : ∃ G : Int32 → zm_u → Prop, zI X d 15 [.inr 1, .inl v1] μ G ∧ ∀ (r : Int32) (μ1 : zm_u), G r μ1 → zV X d 24 5 [(0, .inr 1), (1, .inl v1), (2, .inl v2)] [.inl r] μ1 (zpi P)) :
    zV X d 24 0 [(0, .inr 1), (1, .inl v1), (2, .inl v2)] [] μ (zpi P) :=
  (zm_run [(0, 1, 27, 0, 0, 0, []), (1, 2, 1, 1, 0, 0, [])] _ _ _ _ [] 2 [(0, .inr 1), (1, .inl v1), (2, .inl v2)] [.inl v1, .inr 1] μ (by decide +kernel) rfl rfl (by obtain ⟨G, he, hk⟩ := h0; exact zm_callV (as := [.inr 1, .inl v1]) (rest := []) (P := zpi G) (nx := 5) (a := 15) (b := 2) (k := 1) (sw := []) (zq_of (by decide +kernel)) rfl rfl rfl he (fun _ μ1 hp => by obtain ⟨v, rfl, hp⟩ := hp; exact (zm_V_pick [0, 1, 2] rfl (hk v μ1 hp)))))

theorem k24_5 {X : zm_T} {d : Nat} {s0 v1 v2 : Int32} {μ : zm_u} {P : Int32 → zm_u → Prop}
    (h0 : s0 = 0 → P (-1 : Int32) μ)
    (h1 : ¬ (s0 = 0) → ∃ G : Int32 → zm_u → Prop, zI X d 15 [.inr 1, .inl v2] μ G ∧ ∀ (r : Int32) (μ1 : zm_u), G r μ1 → zV X d 24 13 [(0, .inr 1), (1, .inl v1), (2, .inl v2)] [.inl r] μ1 (zpi P)) :
    zV X d 24 5 [(0, .inr 1), (1, .inl v1), (2, .inl v2)] [.inl s0] μ (zpi P) :=
  (zm_if (nx := 8) (a := 26) (b := 0) (k := 0) (sw := []) (zq_of (by decide +kernel)) (fun z1 => (zm_run [(26, 27, 0, 0, 0, (-1), [])] _ _ _ _ [] 27 [(0, .inr 1), (1, .inl v1), (2, .inl v2)] [.inl (-1 : Int32)] μ (by decide +kernel) rfl rfl (zm_iret (nx := 28) (a := 0) (b := 0) (k := 0) (sw := []) (zq_of (by decide +kernel)) ⟨_, rfl, (h0 (of_decide_eq_true z1))⟩))) (fun z1 => (zm_run [(8, 9, 27, 0, 0, 0, []), (9, 10, 1, 2, 0, 0, [])] _ _ _ _ [] 10 [(0, .inr 1), (1, .inl v1), (2, .inl v2)] [.inl v2, .inr 1] μ (by decide +kernel) rfl rfl (by obtain ⟨G, he, hk⟩ := (h1 (of_decide_eq_false z1)); exact zm_callV (as := [.inr 1, .inl v2]) (rest := []) (P := zpi G) (nx := 13) (a := 15) (b := 2) (k := 1) (sw := []) (zq_of (by decide +kernel)) rfl rfl rfl he (fun _ μ1 hp => by obtain ⟨v, rfl, hp⟩ := hp; exact (zm_V_pick [0, 1, 2] rfl (hk v μ1 hp)))))))

theorem k24_13 {X : zm_T} {d : Nat} {s0 v1 v2 : Int32} {μ : zm_u} {P : Int32 → zm_u → Prop}
    (h0 : s0 = 0 → P (-1 : Int32) μ)
    (h1 : ¬ (s0 = 0) → ∃ G : Int32 → zm_u → Prop, zI X d 23 [.inr 1, .inl (0 : Int32), .inl v1, .inl v2] μ G ∧ ∀ (r : Int32) (μ1 : zm_u), G r μ1 → zV X d 24 23 [] [.inl r] μ1 (zpi P)) :
    zV X d 24 13 [(0, .inr 1), (1, .inl v1), (2, .inl v2)] [.inl s0] μ (zpi P) :=
  (zm_if (nx := 16) (a := 26) (b := 0) (k := 0) (sw := []) (zq_of (by decide +kernel)) (fun z1 => (zm_run [(26, 27, 0, 0, 0, (-1), [])] _ _ _ _ [] 27 [(0, .inr 1), (1, .inl v1), (2, .inl v2)] [.inl (-1 : Int32)] μ (by decide +kernel) rfl rfl (zm_iret (nx := 28) (a := 0) (b := 0) (k := 0) (sw := []) (zq_of (by decide +kernel)) ⟨_, rfl, (h0 (of_decide_eq_true z1))⟩))) (fun z1 => (zm_run [(16, 17, 27, 0, 0, 0, []), (17, 18, 0, 0, 0, 0, []), (18, 19, 1, 1, 0, 0, []), (19, 20, 1, 2, 0, 0, [])] _ _ _ _ [] 20 [(0, .inr 1), (1, .inl v1), (2, .inl v2)] [.inl v2, .inl v1, .inl (0 : Int32), .inr 1] μ (by decide +kernel) rfl rfl (by obtain ⟨G, he, hk⟩ := (h1 (of_decide_eq_false z1)); exact zm_callV (as := [.inr 1, .inl (0 : Int32), .inl v1, .inl v2]) (rest := []) (P := zpi G) (nx := 23) (a := 23) (b := 4) (k := 1) (sw := []) (zq_of (by decide +kernel)) rfl rfl rfl he (fun _ μ1 hp => by obtain ⟨v, rfl, hp⟩ := hp; exact (zm_V_pick [] rfl (hk v μ1 hp)))))))

theorem k24_23 {X : zm_T} {d : Nat} {s0 : Int32} {μ : zm_u} {P : Int32 → zm_u → Prop}
    (h0 : P s0 μ) :
    zV X d 24 23 [] [.inl s0] μ (zpi P) :=
  (zm_run [(23, 26, 19, 27, 0, 0, [])] _ _ _ _ [] 27 [] [.inl s0] μ (by decide +kernel) rfl rfl (zm_iret (nx := 28) (a := 0) (b := 0) (k := 0) (sw := []) (zq_of (by decide +kernel)) ⟨_, rfl, h0⟩))

theorem k25_0 {X : zm_T} {d : Nat} {v1 : Int32} {μ : zm_u} {P : Int32 → zm_u → Prop}
    (h0 : ∃ G : Int32 → zm_u → Prop, zI X d 15 [.inr 1, .inl v1] μ G ∧ ∀ (r : Int32) (μ1 : zm_u), G r μ1 → zV X d 25 5 [(0, .inr 1), (1, .inl v1)] [.inl r] μ1 (zpi P)) :
    zV X d 25 0 [(0, .inr 1), (1, .inl v1)] [] μ (zpi P) :=
  (zm_run [(0, 1, 27, 0, 0, 0, []), (1, 2, 1, 1, 0, 0, [])] _ _ _ _ [] 2 [(0, .inr 1), (1, .inl v1)] [.inl v1, .inr 1] μ (by decide +kernel) rfl rfl (by obtain ⟨G, he, hk⟩ := h0; exact zm_callV (as := [.inr 1, .inl v1]) (rest := []) (P := zpi G) (nx := 5) (a := 15) (b := 2) (k := 1) (sw := []) (zq_of (by decide +kernel)) rfl rfl rfl he (fun _ μ1 hp => by obtain ⟨v, rfl, hp⟩ := hp; exact (zm_V_pick [0, 1] rfl (hk v μ1 hp)))))

theorem k25_5 {X : zm_T} {d : Nat} {s0 v1 : Int32} {μ : zm_u} {P : Int32 → zm_u → Prop}
    (h0 : s0 = 0 → P (-1 : Int32) μ)
    (h1 : ¬ (s0 = 0) → ∃ G : Int32 → zm_u → Prop, zI X d 23 [.inr 1, .inl (1 : Int32), .inl v1, .inl (0 : Int32)] μ G ∧ ∀ (r : Int32) (μ1 : zm_u), G r μ1 → zV X d 25 15 [] [.inl r] μ1 (zpi P)) :
    zV X d 25 5 [(0, .inr 1), (1, .inl v1)] [.inl s0] μ (zpi P) :=
  (zm_if (nx := 8) (a := 18) (b := 0) (k := 0) (sw := []) (zq_of (by decide +kernel)) (fun z1 => (zm_run [(18, 19, 0, 0, 0, (-1), [])] _ _ _ _ [] 19 [(0, .inr 1), (1, .inl v1)] [.inl (-1 : Int32)] μ (by decide +kernel) rfl rfl (zm_iret (nx := 20) (a := 0) (b := 0) (k := 0) (sw := []) (zq_of (by decide +kernel)) ⟨_, rfl, (h0 (of_decide_eq_true z1))⟩))) (fun z1 => (zm_run [(8, 9, 27, 0, 0, 0, []), (9, 10, 0, 0, 0, 1, []), (10, 11, 1, 1, 0, 0, []), (11, 12, 0, 0, 0, 0, [])] _ _ _ _ [] 12 [(0, .inr 1), (1, .inl v1)] [.inl (0 : Int32), .inl v1, .inl (1 : Int32), .inr 1] μ (by decide +kernel) rfl rfl (by obtain ⟨G, he, hk⟩ := (h1 (of_decide_eq_false z1)); exact zm_callV (as := [.inr 1, .inl (1 : Int32), .inl v1, .inl (0 : Int32)]) (rest := []) (P := zpi G) (nx := 15) (a := 23) (b := 4) (k := 1) (sw := []) (zq_of (by decide +kernel)) rfl rfl rfl he (fun _ μ1 hp => by obtain ⟨v, rfl, hp⟩ := hp; exact (zm_V_pick [] rfl (hk v μ1 hp)))))))

theorem k25_15 {X : zm_T} {d : Nat} {s0 : Int32} {μ : zm_u} {P : Int32 → zm_u → Prop}
    (h0 : P s0 μ) :
    zV X d 25 15 [] [.inl s0] μ (zpi P) :=
  (zm_run [(15, 18, 19, 19, 0, 0, [])] _ _ _ _ [] 19 [] [.inl s0] μ (by decide +kernel) rfl rfl (zm_iret (nx := 20) (a := 0) (b := 0) (k := 0) (sw := []) (zq_of (by decide +kernel)) ⟨_, rfl, h0⟩))

theorem k26_0 {X : zm_T} {d : Nat} {v1 : Int32} {μ : zm_u} {P : Int32 → zm_u → Prop}
    (h0 : ∃ G : Int32 → zm_u → Prop, zI X d 23 [.inr 1, .inl (2 : Int32), .inl v1, .inl (0 : Int32)] μ G ∧ ∀ (r : Int32) (μ1 : zm_u), G r μ1 → zV X d 26 7 [] [.inl r] μ1 (zpi P)) :
    zV X d 26 0 [(0, .inr 1), (1, .inl v1)] [] μ (zpi P) :=
  (zm_run [(0, 1, 27, 0, 0, 0, []), (1, 2, 0, 0, 0, 2, []), (2, 3, 1, 1, 0, 0, []), (3, 4, 0, 0, 0, 0, [])] _ _ _ _ [] 4 [(0, .inr 1), (1, .inl v1)] [.inl (0 : Int32), .inl v1, .inl (2 : Int32), .inr 1] μ (by decide +kernel) rfl rfl (by obtain ⟨G, he, hk⟩ := h0; exact zm_callV (as := [.inr 1, .inl (2 : Int32), .inl v1, .inl (0 : Int32)]) (rest := []) (P := zpi G) (nx := 7) (a := 23) (b := 4) (k := 1) (sw := []) (zq_of (by decide +kernel)) rfl rfl rfl he (fun _ μ1 hp => by obtain ⟨v, rfl, hp⟩ := hp; exact (zm_V_pick [] rfl (hk v μ1 hp)))))

theorem k26_7 {X : zm_T} {d : Nat} {s0 : Int32} {μ : zm_u} {P : Int32 → zm_u → Prop}
    (h0 : P s0 μ) :
    zV X d 26 7 [] [.inl s0] μ (zpi P) :=
  (zm_iret (nx := 8) (a := 0) (b := 0) (k := 0) (sw := []) (zq_of (by decide +kernel)) ⟨_, rfl, h0⟩)

theorem k27_0 {X : zm_T} {d : Nat} {μ : zm_u} {P : Int32 → zm_u → Prop}
    (h0 : ∃ G : Int32 → zm_u → Prop, zI X d 23 [.inr 1, .inl (2 : Int32), .inl ((3 : Int32) + (μ 1 3)), .inl (0 : Int32)] μ G ∧ ∀ (r : Int32) (μ1 : zm_u), G r μ1 → zV X d 27 12 [] [.inl r] μ1 (zpi P)) :
    zV X d 27 0 [(0, .inr 1)] [] μ (zpi P) :=
  (zm_run [(0, 1, 27, 0, 0, 0, []), (1, 2, 0, 0, 0, 2, []), (2, 3, 0, 0, 0, 3, []), (3, 4, 27, 0, 0, 0, []), (4, 7, 4, 3, 1, 0, []), (7, 8, 10, 0, 0, 0, []), (8, 9, 0, 0, 0, 0, [])] _ _ _ _ [] 9 [(0, .inr 1)] [.inl (0 : Int32), .inl ((3 : Int32) + (μ 1 3)), .inl (2 : Int32), .inr 1] μ (by decide +kernel) rfl rfl (by obtain ⟨G, he, hk⟩ := h0; exact zm_callV (as := [.inr 1, .inl (2 : Int32), .inl ((3 : Int32) + (μ 1 3)), .inl (0 : Int32)]) (rest := []) (P := zpi G) (nx := 12) (a := 23) (b := 4) (k := 1) (sw := []) (zq_of (by decide +kernel)) rfl rfl rfl he (fun _ μ1 hp => by obtain ⟨v, rfl, hp⟩ := hp; exact (zm_V_pick [] rfl (hk v μ1 hp)))))

theorem k27_12 {X : zm_T} {d : Nat} {s0 : Int32} {μ : zm_u} {P : Int32 → zm_u → Prop}
    (h0 : P s0 μ) :
    zV X d 27 12 [] [.inl s0] μ (zpi P) :=
  (zm_iret (nx := 13) (a := 0) (b := 0) (k := 0) (sw := []) (zq_of (by decide +kernel)) ⟨_, rfl, h0⟩)

theorem k28_0 {X : zm_T} {d : Nat} {v1 : Int32} {μ : zm_u} {P : zm_u → Prop}
    (h0 : ∃ G : Int32 → zm_u → Prop, zI X d 15 [.inr 1, .inl v1] μ G ∧ ∀ (r : Int32) (μ1 : zm_u), G r μ1 → zV X d 28 5 [(0, .inr 1), (1, .inl v1)] [.inl r] μ1 (zpo P)) :
    zV X d 28 0 [(0, .inr 1), (1, .inl v1)] [] μ (zpo P) :=
  (zm_run [(0, 1, 27, 0, 0, 0, []), (1, 2, 1, 1, 0, 0, [])] _ _ _ _ [] 2 [(0, .inr 1), (1, .inl v1)] [.inl v1, .inr 1] μ (by decide +kernel) rfl rfl (by obtain ⟨G, he, hk⟩ := h0; exact zm_callV (as := [.inr 1, .inl v1]) (rest := []) (P := zpi G) (nx := 5) (a := 15) (b := 2) (k := 1) (sw := []) (zq_of (by decide +kernel)) rfl rfl rfl he (fun _ μ1 hp => by obtain ⟨v, rfl, hp⟩ := hp; exact (zm_V_pick [0, 1] rfl (hk v μ1 hp)))))

theorem k28_5 {X : zm_T} {d : Nat} {s0 v1 : Int32} {μ : zm_u} {P : zm_u → Prop}
    (h0 : s0 = 0 → P μ)
    (h1 : ¬ (s0 = 0) → P (zm_up μ 1 3 v1)) :
    zV X d 28 5 [(0, .inr 1), (1, .inl v1)] [.inl s0] μ (zpo P) :=
  (zm_if (nx := 8) (a := 13) (b := 0) (k := 0) (sw := []) (zq_of (by decide +kernel)) (fun z1 => (zm_vret (nx := 14) (a := 0) (b := 0) (k := 0) (sw := []) (zq_of (by decide +kernel)) ⟨rfl, (h0 (of_decide_eq_true z1))⟩)) (fun z1 => (zm_run [(8, 9, 27, 0, 0, 0, []), (9, 10, 1, 1, 0, 0, []), (10, 13, 5, 3, 1, 0, [])] _ _ _ _ [] 13 [(0, .inr 1), (1, .inl v1)] [] (zm_up μ 1 3 v1) (by decide +kernel) rfl rfl (zm_vret (nx := 14) (a := 0) (b := 0) (k := 0) (sw := []) (zq_of (by decide +kernel)) ⟨rfl, (h1 (of_decide_eq_false z1))⟩))))

theorem k29_0 {X : zm_T} {d : Nat} {μ : zm_u} {P : Int32 → zm_u → Prop}
    (h0 : P (μ 2 5) μ) :
    zV X d 29 0 [(0, .inr 2)] [] μ (zpi P) :=
  (zm_run [(0, 1, 27, 0, 0, 0, []), (1, 4, 4, 5, 2, 0, [])] _ _ _ _ [] 4 [(0, .inr 2)] [.inl (μ 2 5)] μ (by decide +kernel) rfl rfl (zm_iret (nx := 5) (a := 0) (b := 0) (k := 0) (sw := []) (zq_of (by decide +kernel)) ⟨_, rfl, h0⟩))

theorem k30_0 {X : zm_T} {d : Nat} {μ : zm_u} {P : Int32 → zm_u → Prop}
    (h0 : P (μ 2 6) μ) :
    zV X d 30 0 [(0, .inr 2)] [] μ (zpi P) :=
  (zm_run [(0, 1, 27, 0, 0, 0, []), (1, 4, 4, 6, 2, 0, [])] _ _ _ _ [] 4 [(0, .inr 2)] [.inl (μ 2 6)] μ (by decide +kernel) rfl rfl (zm_iret (nx := 5) (a := 0) (b := 0) (k := 0) (sw := []) (zq_of (by decide +kernel)) ⟨_, rfl, h0⟩))

theorem k31_0 {X : zm_T} {d : Nat} {μ : zm_u} {P : Int32 → zm_u → Prop}
    (h0 : P (μ 2 7) μ) :
    zV X d 31 0 [(0, .inr 2)] [] μ (zpi P) :=
  (zm_run [(0, 1, 27, 0, 0, 0, []), (1, 4, 4, 7, 2, 0, [])] _ _ _ _ [] 4 [(0, .inr 2)] [.inl (μ 2 7)] μ (by decide +kernel) rfl rfl (zm_iret (nx := 5) (a := 0) (b := 0) (k := 0) (sw := []) (zq_of (by decide +kernel)) ⟨_, rfl, h0⟩))

theorem k32_0 {X : zm_T} {d : Nat} {v1 : Int32} {μ : zm_u} {P : Int32 → zm_u → Prop}
    (h0 : ∃ G : Int32 → zm_u → Prop, zI X d 43 [.inl v1] μ G ∧ ∀ (r : Int32) (μ1 : zm_u), G r μ1 → zV X d 32 4 [(0, .inr 2), (1, .inl v1)] [.inl r] μ1 (zpi P)) :
    zV X d 32 0 [(0, .inr 2), (1, .inl v1)] [] μ (zpi P) :=
  (zm_run [(0, 1, 1, 1, 0, 0, [])] _ _ _ _ [] 1 [(0, .inr 2), (1, .inl v1)] [.inl v1] μ (by decide +kernel) rfl rfl (by obtain ⟨G, he, hk⟩ := h0; exact zm_callS (as := [.inl v1]) (rest := []) (P := zpi G) (nx := 4) (a := 43) (b := 1) (k := 0) (sw := []) (zq_of (by decide +kernel)) rfl rfl rfl he (fun _ μ1 hp => by obtain ⟨v, rfl, hp⟩ := hp; exact (zm_V_pick [0, 1] rfl (hk v μ1 hp)))))

theorem k32_4 {X : zm_T} {d : Nat} {s0 v1 : Int32} {μ : zm_u} {P : Int32 → zm_u → Prop}
    (h0 : s0 = 0 → P (-1 : Int32) μ)
    (h1 : ¬ (s0 = 0) → 0 ≤ (v1).toInt ∧ (v1).toInt < ((560 : Nat) : Int))
    (h2 : ¬ (s0 = 0) → P (μ 9 (v1).toNatClampNeg) μ) :
    zV X d 32 4 [(0, .inr 2), (1, .inl v1)] [.inl s0] μ (zpi P) :=
  (zm_if (nx := 7) (a := 16) (b := 0) (k := 0) (sw := []) (zq_of (by decide +kernel)) (fun z1 => (zm_run [(16, 17, 0, 0, 0, (-1), [])] _ _ _ _ [] 17 [(0, .inr 2), (1, .inl v1)] [.inl (-1 : Int32)] μ (by decide +kernel) rfl rfl (zm_iret (nx := 18) (a := 0) (b := 0) (k := 0) (sw := []) (zq_of (by decide +kernel)) ⟨_, rfl, (h0 (of_decide_eq_true z1))⟩))) (fun z1 => (zm_run [(7, 8, 27, 0, 0, 0, []), (8, 11, 4, 0, 2, 0, []), (11, 12, 1, 1, 0, 0, []), (12, 13, 6, 0, 0, 0, []), (13, 16, 19, 17, 0, 0, [])] _ _ _ _ [decide (0 ≤ (v1).toInt ∧ (v1).toInt < ((560 : Nat) : Int))] 17 [(0, .inr 2), (1, .inl v1)] [.inl (μ 9 (v1).toNatClampNeg)] μ (by decide +kernel) rfl (zm_bc (h1 (of_decide_eq_false z1)) rfl) (zm_iret (nx := 18) (a := 0) (b := 0) (k := 0) (sw := []) (zq_of (by decide +kernel)) ⟨_, rfl, (h2 (of_decide_eq_false z1))⟩))))

theorem k33_0 {X : zm_T} {d : Nat} {v1 : Int32} {μ : zm_u} {P : Int32 → zm_u → Prop}
    (h0 : ∃ G : Int32 → zm_u → Prop, zI X d 43 [.inl v1] μ G ∧ ∀ (r : Int32) (μ1 : zm_u), G r μ1 → zV X d 33 4 [(0, .inr 2), (1, .inl v1)] [.inl r] μ1 (zpi P)) :
    zV X d 33 0 [(0, .inr 2), (1, .inl v1)] [] μ (zpi P) :=
  (zm_run [(0, 1, 1, 1, 0, 0, [])] _ _ _ _ [] 1 [(0, .inr 2), (1, .inl v1)] [.inl v1] μ (by decide +kernel) rfl rfl (by obtain ⟨G, he, hk⟩ := h0; exact zm_callS (as := [.inl v1]) (rest := []) (P := zpi G) (nx := 4) (a := 43) (b := 1) (k := 0) (sw := []) (zq_of (by decide +kernel)) rfl rfl rfl he (fun _ μ1 hp => by obtain ⟨v, rfl, hp⟩ := hp; exact (zm_V_pick [0, 1] rfl (hk v μ1 hp)))))

theorem k33_4 {X : zm_T} {d : Nat} {s0 v1 : Int32} {μ : zm_u} {P : Int32 → zm_u → Prop}
    (h0 : s0 = 0 → P (-1 : Int32) μ)
    (h1 : ¬ (s0 = 0) → 0 ≤ (v1).toInt ∧ (v1).toInt < ((560 : Nat) : Int))
    (h2 : ¬ (s0 = 0) → P (μ 10 (v1).toNatClampNeg) μ) :
    zV X d 33 4 [(0, .inr 2), (1, .inl v1)] [.inl s0] μ (zpi P) :=
  (zm_if (nx := 7) (a := 16) (b := 0) (k := 0) (sw := []) (zq_of (by decide +kernel)) (fun z1 => (zm_run [(16, 17, 0, 0, 0, (-1), [])] _ _ _ _ [] 17 [(0, .inr 2), (1, .inl v1)] [.inl (-1 : Int32)] μ (by decide +kernel) rfl rfl (zm_iret (nx := 18) (a := 0) (b := 0) (k := 0) (sw := []) (zq_of (by decide +kernel)) ⟨_, rfl, (h0 (of_decide_eq_true z1))⟩))) (fun z1 => (zm_run [(7, 8, 27, 0, 0, 0, []), (8, 11, 4, 1, 2, 0, []), (11, 12, 1, 1, 0, 0, []), (12, 13, 6, 0, 0, 0, []), (13, 16, 19, 17, 0, 0, [])] _ _ _ _ [decide (0 ≤ (v1).toInt ∧ (v1).toInt < ((560 : Nat) : Int))] 17 [(0, .inr 2), (1, .inl v1)] [.inl (μ 10 (v1).toNatClampNeg)] μ (by decide +kernel) rfl (zm_bc (h1 (of_decide_eq_false z1)) rfl) (zm_iret (nx := 18) (a := 0) (b := 0) (k := 0) (sw := []) (zq_of (by decide +kernel)) ⟨_, rfl, (h2 (of_decide_eq_false z1))⟩))))

theorem k34_0 {X : zm_T} {d : Nat} {v1 v2 : Int32} {μ : zm_u} {P : Int32 → zm_u → Prop}
    (h0 : ∃ G : Int32 → zm_u → Prop, zI X d 32 [.inr 2, .inl v1] μ G ∧ ∀ (r : Int32) (μ1 : zm_u), G r μ1 → zV X d 34 9 [(0, .inr 2), (1, .inl v1), (2, .inl v2), (3, .inl (v1 - (1 : Int32)))] [.inl r] μ1 (zpi P)) :
    zV X d 34 0 [(0, .inr 2), (1, .inl v1), (2, .inl v2)] [] μ (zpi P) :=
  (zm_run [(0, 1, 1, 1, 0, 0, []), (1, 2, 0, 0, 0, 1, []), (2, 3, 11, 0, 0, 0, []), (3, 4, 2, 3, 0, 0, []), (4, 5, 27, 0, 0, 0, []), (5, 6, 1, 1, 0, 0, [])] _ _ _ _ [] 6 [(0, .inr 2), (1, .inl v1), (2, .inl v2), (3, .inl (v1 - (1 : Int32)))] [.inl v1, .inr 2] μ (by decide +kernel) rfl rfl (by obtain ⟨G, he, hk⟩ := h0; exact zm_callV (as := [.inr 2, .inl v1]) (rest := []) (P := zpi G) (nx := 9) (a := 32) (b := 2) (k := 2) (sw := []) (zq_of (by decide +kernel)) rfl rfl rfl he (fun _ μ1 hp => by obtain ⟨v, rfl, hp⟩ := hp; exact (zm_V_pick [0, 1, 2, 3] rfl (hk v μ1 hp)))))

theorem k34_9 {X : zm_T} {d : Nat} {s0 v1 v2 v3 : Int32} {μ : zm_u} {P : Int32 → zm_u → Prop}
    (h0 : ∃ G : Int32 → zm_u → Prop, zI X d 33 [.inr 2, .inl v1] μ G ∧ ∀ (r : Int32) (μ1 : zm_u), G r μ1 → zV X d 34 14 [(0, .inr 2), (2, .inl v2), (3, .inl v3)] [.inl r, .inl s0] μ1 (zpi P)) :
    zV X d 34 9 [(0, .inr 2), (1, .inl v1), (2, .inl v2), (3, .inl v3)] [.inl s0] μ (zpi P) :=
  (zm_run [(9, 10, 27, 0, 0, 0, []), (10, 11, 1, 1, 0, 0, [])] _ _ _ _ [] 11 [(0, .inr 2), (1, .inl v1), (2, .inl v2), (3, .inl v3)] [.inl v1, .inr 2, .inl s0] μ (by decide +kernel) rfl rfl (by obtain ⟨G, he, hk⟩ := h0; exact zm_callV (as := [.inr 2, .inl v1]) (rest := [.inl s0]) (P := zpi G) (nx := 14) (a := 33) (b := 2) (k := 2) (sw := []) (zq_of (by decide +kernel)) rfl rfl rfl he (fun _ μ1 hp => by obtain ⟨v, rfl, hp⟩ := hp; exact (zm_V_pick [0, 2, 3] rfl (hk v μ1 hp)))))

theorem k34_14 {X : zm_T} {d : Nat} {s0 s1 v2 v3 : Int32} {μ : zm_u} {P : Int32 → zm_u → Prop}
    (h0 : ∃ G : Int32 → zm_u → Prop, zI X d 12 [.inl s0, .inl s1] μ G ∧ ∀ (r : Int32) (μ1 : zm_u), G r μ1 → zV X d 34 17 [(0, .inr 2), (2, .inl v2), (3, .inl v3)] [.inl r] μ1 (zpi P)) :
    zV X d 34 14 [(0, .inr 2), (2, .inl v2), (3, .inl v3)] [.inl s1, .inl s0] μ (zpi P) :=
  (by obtain ⟨G, he, hk⟩ := h0; exact zm_callS (as := [.inl s0, .inl s1]) (rest := []) (P := zpi G) (nx := 17) (a := 12) (b := 2) (k := 0) (sw := []) (zq_of (by decide +kernel)) rfl rfl rfl he (fun _ μ1 hp => by obtain ⟨v, rfl, hp⟩ := hp; exact (zm_V_pick [0, 2, 3] rfl (hk v μ1 hp))))

theorem k34_17 {X : zm_T} {d : Nat} {s0 v2 v3 : Int32} {μ : zm_u} {P : Int32 → zm_u → Prop}
    (h0 : zV X d 34 21 [(0, .inr 2), (2, .inl v2), (3, .inl v3), (4, .inl (s0 - (1 : Int32)))] [] μ (zpi P)) :
    zV X d 34 17 [(0, .inr 2), (2, .inl v2), (3, .inl v3)] [.inl s0] μ (zpi P) :=
  (zm_run [(17, 18, 0, 0, 0, 1, []), (18, 19, 11, 0, 0, 0, []), (19, 21, 2, 4, 0, 0, [])] _ _ _ _ [] 21 [(0, .inr 2), (2, .inl v2), (3, .inl v3), (4, .inl (s0 - (1 : Int32)))] [] μ (by decide +kernel) rfl rfl (zm_V_pick [0, 2, 3, 4] rfl h0))

theorem k34_21 {X : zm_T} {d : Nat} {v2 v3 v4 : Int32} {μ : zm_u} {P : Int32 → zm_u → Prop}
    (h0 : v4 ≤ v2 → P v3 μ)
    (h1 : ¬ (v4 ≤ v2) → ∃ G : Int32 → zm_u → Prop, zI X d 42 [.inr 2, .inl v3] μ G ∧ ∀ (r : Int32) (μ1 : zm_u), G r μ1 → zV X d 34 33 [(0, .inr 2), (2, .inl v2), (4, .inl v4)] [.inl r, .inl v3] μ1 (zpi P)) :
    zV X d 34 21 [(0, .inr 2), (2, .inl v2), (3, .inl v3), (4, .inl v4)] [] μ (zpi P) :=
  (zm_run [(21, 23, 1, 4, 0, 0, []), (23, 24, 1, 2, 0, 0, [])] _ _ _ _ [] 24 [(0, .inr 2), (2, .inl v2), (3, .inl v3), (4, .inl v4)] [.inl v2, .inl v4] μ (by decide +kernel) rfl rfl (zm_icmp (nx := 27) (a := 41) (b := 5) (k := 0) (sw := []) (zq_of (by decide +kernel)) (fun z1 => (zm_run [(41, 42, 1, 3, 0, 0, [])] _ _ _ _ [] 42 [(0, .inr 2), (2, .inl v2), (3, .inl v3), (4, .inl v4)] [.inl v3] μ (by decide +kernel) rfl rfl (zm_iret (nx := 43) (a := 0) (b := 0) (k := 0) (sw := []) (zq_of (by decide +kernel)) ⟨_, rfl, (h0 (of_decide_eq_true z1))⟩))) (fun z1 => (zm_run [(27, 28, 1, 3, 0, 0, []), (28, 29, 27, 0, 0, 0, []), (29, 30, 1, 3, 0, 0, [])] _ _ _ _ [] 30 [(0, .inr 2), (2, .inl v2), (3, .inl v3), (4, .inl v4)] [.inl v3, .inr 2, .inl v3] μ (by decide +kernel) rfl rfl (by obtain ⟨G, he, hk⟩ := (h1 (of_decide_eq_false z1)); exact zm_callV (as := [.inr 2, .inl v3]) (rest := [.inl v3]) (P := zpi G) (nx := 33) (a := 42) (b := 2) (k := 2) (sw := []) (zq_of (by decide +kernel)) rfl rfl rfl he (fun _ μ1 hp => by obtain ⟨v, rfl, hp⟩ := hp; exact (zm_V_pick [0, 2, 4] rfl (hk v μ1 hp))))))))

theorem k34_33 {X : zm_T} {d : Nat} {s0 s1 v2 v4 : Int32} {μ : zm_u} {P : Int32 → zm_u → Prop}
    (h0 : zV X d 34 21 [(0, .inr 2), (2, .inl v2), (3, .inl (s0 - s1)), (4, .inl (v4 + (-1)))] [] μ (zpi P)) :
    zV X d 34 33 [(0, .inr 2), (2, .inl v2), (4, .inl v4)] [.inl s1, .inl s0] μ (zpi P) :=
  (zm_run [(33, 34, 11, 0, 0, 0, []), (34, 35, 2, 3, 0, 0, []), (35, 38, 3, 4, 0, (-1), []), (38, 41, 19, 21, 0, 0, [])] _ _ _ _ [] 21 [(0, .inr 2), (2, .inl v2), (3, .inl (s0 - s1)), (4, .inl (v4 + (-1)))] [] μ (by decide +kernel) rfl rfl (zm_V_pick [0, 2, 3, 4] rfl h0))

theorem k35_0 {X : zm_T} {d : Nat} {v1 v2 : Int32} {μ : zm_u} {P : Int32 → zm_u → Prop}
    (h0 : ∃ G : Int32 → zm_u → Prop, zI X d 33 [.inr 2, .inl v1] μ G ∧ ∀ (r : Int32) (μ1 : zm_u), G r μ1 → zV X d 35 5 [(0, .inr 2), (1, .inl v1), (2, .inl v2)] [.inl r] μ1 (zpi P)) :
    zV X d 35 0 [(0, .inr 2), (1, .inl v1), (2, .inl v2)] [] μ (zpi P) :=
  (zm_run [(0, 1, 27, 0, 0, 0, []), (1, 2, 1, 1, 0, 0, [])] _ _ _ _ [] 2 [(0, .inr 2), (1, .inl v1), (2, .inl v2)] [.inl v1, .inr 2] μ (by decide +kernel) rfl rfl (by obtain ⟨G, he, hk⟩ := h0; exact zm_callV (as := [.inr 2, .inl v1]) (rest := []) (P := zpi G) (nx := 5) (a := 33) (b := 2) (k := 2) (sw := []) (zq_of (by decide +kernel)) rfl rfl rfl he (fun _ μ1 hp => by obtain ⟨v, rfl, hp⟩ := hp; exact (zm_V_pick [0, 1, 2] rfl (hk v μ1 hp)))))

theorem k35_5 {X : zm_T} {d : Nat} {s0 v1 v2 : Int32} {μ : zm_u} {P : Int32 → zm_u → Prop}
    (h0 : ∃ G : Int32 → zm_u → Prop, zI X d 13 [.inl v2] μ G ∧ ∀ (r : Int32) (μ1 : zm_u), G r μ1 → zV X d 35 18 [(0, .inr 2), (1, .inl v1), (3, .inl s0), (4, .inl ((1 : Int32) <<< ((v2 - (11 : Int32)) &&& 31)))] [.inl r] μ1 (zpi P)) :
    zV X d 35 5 [(0, .inr 2), (1, .inl v1), (2, .inl v2)] [.inl s0] μ (zpi P) :=
  (zm_run [(5, 6, 2, 3, 0, 0, []), (6, 7, 0, 0, 0, 1, []), (7, 8, 1, 2, 0, 0, []), (8, 10, 0, 0, 0, 11, []), (10, 11, 11, 0, 0, 0, []), (11, 12, 14, 0, 0, 0, []), (12, 14, 2, 4, 0, 0, []), (14, 15, 1, 2, 0, 0, [])] _ _ _ _ [] 15 [(0, .inr 2), (1, .inl v1), (2, .inl v2), (3, .inl s0), (4, .inl ((1 : Int32) <<< ((v2 - (11 : Int32)) &&& 31)))] [.inl v2] μ (by decide +kernel) rfl rfl (by obtain ⟨G, he, hk⟩ := h0; exact zm_callS (as := [.inl v2]) (rest := []) (P := zpi G) (nx := 18) (a := 13) (b := 1) (k := 0) (sw := []) (zq_of (by decide +kernel)) rfl rfl rfl he (fun _ μ1 hp => by obtain ⟨v, rfl, hp⟩ := hp; exact (zm_V_pick [0, 1, 3, 4] rfl (hk v μ1 hp)))))

theorem k35_18 {X : zm_T} {d : Nat} {s0 v1 v3 v4 : Int32} {μ : zm_u} {P : Int32 → zm_u → Prop}
    (h0 : s0 = 0 → P (-1 : Int32) μ)
    (h1 : ¬ (s0 = 0) → ¬ (v3 &&& v4) = 0 → ∃ G : Int32 → zm_u → Prop, zI X d 161 [.inl (v3 &&& (v4 - (1 : Int32)))] μ G ∧ ∀ (r : Int32) (μ1 : zm_u), G r μ1 → zV X d 35 42 [] [.inl r, .inl (1 : Int32), .inl v1, .inr 2] μ1 (zpi P))
    (h2 : ¬ (s0 = 0) → (v3 &&& v4) = 0 → P (-1 : Int32) μ) :
    zV X d 35 18 [(0, .inr 2), (1, .inl v1), (3, .inl v3), (4, .inl v4)] [.inl s0] μ (zpi P) :=
  (zm_if (nx := 21) (a := 28) (b := 0) (k := 0) (sw := []) (zq_of (by decide +kernel)) (fun z1 => (zm_run [(28, 29, 0, 0, 0, (-1), [])] _ _ _ _ [] 29 [(0, .inr 2), (1, .inl v1), (3, .inl v3), (4, .inl v4)] [.inl (-1 : Int32)] μ (by decide +kernel) rfl rfl (zm_iret (nx := 30) (a := 0) (b := 0) (k := 0) (sw := []) (zq_of (by decide +kernel)) ⟨_, rfl, (h0 (of_decide_eq_true z1))⟩))) (fun z1 => (zm_run [(21, 22, 1, 3, 0, 0, []), (22, 24, 1, 4, 0, 0, []), (24, 25, 13, 0, 0, 0, [])] _ _ _ _ [] 25 [(0, .inr 2), (1, .inl v1), (3, .inl v3), (4, .inl v4)] [.inl (v3 &&& v4)] μ (by decide +kernel) rfl rfl (zm_if (nx := 28) (a := 30) (b := 1) (k := 0) (sw := []) (zq_of (by decide +kernel)) (fun z2 => (zm_run [(30, 31, 27, 0, 0, 0, []), (31, 32, 1, 1, 0, 0, []), (32, 33, 0, 0, 0, 1, []), (33, 34, 1, 3, 0, 0, []), (34, 36, 1, 4, 0, 0, []), (36, 37, 0, 0, 0, 1, []), (37, 38, 11, 0, 0, 0, []), (38, 39, 13, 0, 0, 0, [])] _ _ _ _ [] 39 [(0, .inr 2), (1, .inl v1), (3, .inl v3), (4, .inl v4)] [.inl (v3 &&& (v4 - (1 : Int32))), .inl (1 : Int32), .inl v1, .inr 2] μ (by decide +kernel) rfl rfl (by obtain ⟨G, he, hk⟩ := (h1 (of_decide_eq_false z1) (of_decide_eq_true z2)); exact zm_callS (as := [.inl (v3 &&& (v4 - (1 : Int32)))]) (rest := [.inl (1 : Int32), .inl v1, .inr 2]) (P := zpi G) (nx := 42) (a := 161) (b := 1) (k := 0) (sw := []) (zq_of (by decide +kernel)) rfl rfl rfl he (fun _ μ1 hp => by obtain ⟨v, rfl, hp⟩ := hp; exact (zm_V_pick [] rfl (hk v μ1 hp)))))) (fun z2 => (zm_run [(28, 29, 0, 0, 0, (-1), [])] _ _ _ _ [] 29 [(0, .inr 2), (1, .inl v1), (3, .inl v3), (4, .inl v4)] [.inl (-1 : Int32)] μ (by decide +kernel) rfl rfl (zm_iret (nx := 30) (a := 0) (b := 0) (k := 0) (sw := []) (zq_of (by decide +kernel)) ⟨_, rfl, (h2 (of_decide_eq_false z1) (Classical.byContradiction fun w => (of_decide_eq_false z2) w))⟩)))))))

theorem k35_42 {X : zm_T} {d : Nat} {s1 s2 s3 : Int32} {μ : zm_u} {P : Int32 → zm_u → Prop}
    (h0 : ∃ G : Int32 → zm_u → Prop, zI X d 34 [.inr 2, .inl s1, .inl (s2 + s3)] μ G ∧ ∀ (r : Int32) (μ1 : zm_u), G r μ1 → zV X d 35 46 [] [.inl r] μ1 (zpi P)) :
    zV X d 35 42 [] [.inl s3, .inl s2, .inl s1, .inr 2] μ (zpi P) :=
  (zm_run [(42, 43, 10, 0, 0, 0, [])] _ _ _ _ [] 43 [] [.inl (s2 + s3), .inl s1, .inr 2] μ (by decide +kernel) rfl rfl (by obtain ⟨G, he, hk⟩ := h0; exact zm_callV (as := [.inr 2, .inl s1, .inl (s2 + s3)]) (rest := []) (P := zpi G) (nx := 46) (a := 34) (b := 3) (k := 2) (sw := []) (zq_of (by decide +kernel)) rfl rfl rfl he (fun _ μ1 hp => by obtain ⟨v, rfl, hp⟩ := hp; exact (zm_V_pick [] rfl (hk v μ1 hp)))))

theorem k35_46 {X : zm_T} {d : Nat} {s0 : Int32} {μ : zm_u} {P : Int32 → zm_u → Prop}
    (h0 : P s0 μ) :
    zV X d 35 46 [] [.inl s0] μ (zpi P) :=
  (zm_iret (nx := 47) (a := 0) (b := 0) (k := 0) (sw := []) (zq_of (by decide +kernel)) ⟨_, rfl, h0⟩)

theorem k36_0 {X : zm_T} {d : Nat} {v1 v2 : Int32} {μ : zm_u} {P : Int32 → zm_u → Prop}
    (h0 : ∃ G : Int32 → zm_u → Prop, zI X d 12 [.inl v1, .inl v2] μ G ∧ ∀ (r : Int32) (μ1 : zm_u), G r μ1 → zV X d 36 5 [(0, .inr 2), (1, .inl v1), (2, .inl v2)] [.inl r] μ1 (zpi P)) :
    zV X d 36 0 [(0, .inr 2), (1, .inl v1), (2, .inl v2)] [] μ (zpi P) :=
  (zm_run [(0, 1, 1, 1, 0, 0, []), (1, 2, 1, 2, 0, 0, [])] _ _ _ _ [] 2 [(0, .inr 2), (1, .inl v1), (2, .inl v2)] [.inl v2, .inl v1] μ (by decide +kernel) rfl rfl (by obtain ⟨G, he, hk⟩ := h0; exact zm_callS (as := [.inl v1, .inl v2]) (rest := []) (P := zpi G) (nx := 5) (a := 12) (b := 2) (k := 0) (sw := []) (zq_of (by decide +kernel)) rfl rfl rfl he (fun _ μ1 hp => by obtain ⟨v, rfl, hp⟩ := hp; exact (zm_V_pick [0, 1, 2] rfl (hk v μ1 hp)))))

theorem k36_5 {X : zm_T} {d : Nat} {s0 v1 v2 : Int32} {μ : zm_u} {P : Int32 → zm_u → Prop}
    (h0 : zV X d 36 12 [(0, .inr 2), (1, .inl v1), (2, .inl v2), (3, .inl s0), (4, .inl (1 : Int32)), (5, .inl (0 : Int32))] [] μ (zpi P)) :
    zV X d 36 5 [(0, .inr 2), (1, .inl v1), (2, .inl v2)] [.inl s0] μ (zpi P) :=
  (zm_run [(5, 6, 2, 3, 0, 0, []), (6, 7, 0, 0, 0, 1, []), (7, 9, 2, 4, 0, 0, []), (9, 10, 0, 0, 0, 0, []), (10, 12, 2, 5, 0, 0, [])] _ _ _ _ [] 12 [(0, .inr 2), (1, .inl v1), (2, .inl v2), (3, .inl s0), (4, .inl (1 : Int32)), (5, .inl (0 : Int32))] [] μ (by decide +kernel) rfl rfl (zm_V_pick [0, 1, 2, 3, 4, 5] rfl h0))

theorem k36_12 {X : zm_T} {d : Nat} {v1 v2 v3 v4 v5 : Int32} {μ : zm_u} {P : Int32 → zm_u → Prop}
    (h0 : v3 ≤ v5 → ∃ G : Int32 → zm_u → Prop, zI X d 37 [.inr 2, .inl v3] μ G ∧ ∀ (r : Int32) (μ1 : zm_u), G r μ1 → zV X d 36 46 [(0, .inr 2), (1, .inl v1), (2, .inl v2), (3, .inl v3), (4, .inl v4)] [.inl r, .inl (1 : Int32)] μ1 (zpi P))
    (h1 : ¬ (v3 ≤ v5) → ∃ G : Int32 → zm_u → Prop, zI X d 42 [.inr 2, .inl ((μ 2 4) - v4)] μ G ∧ ∀ (r : Int32) (μ1 : zm_u), G r μ1 → zV X d 36 31 [(0, .inr 2), (1, .inl v1), (2, .inl v2), (3, .inl v3), (5, .inl v5)] [.inl r, .inl v4] μ1 (zpi P)) :
    zV X d 36 12 [(0, .inr 2), (1, .inl v1), (2, .inl v2), (3, .inl v3), (4, .inl v4), (5, .inl v5)] [] μ (zpi P) :=
  (zm_run [(12, 14, 1, 5, 0, 0, []), (14, 15, 1, 3, 0, 0, [])] _ _ _ _ [] 15 [(0, .inr 2), (1, .inl v1), (2, .inl v2), (3, .inl v3), (4, .inl v4), (5, .inl v5)] [.inl v3, .inl v5] μ (by decide +kernel) rfl rfl (zm_icmp (nx := 18) (a := 40) (b := 3) (k := 0) (sw := []) (zq_of (by decide +kernel)) (fun z1 => (zm_run [(40, 41, 0, 0, 0, 1, []), (41, 42, 27, 0, 0, 0, []), (42, 43, 1, 3, 0, 0, [])] _ _ _ _ [] 43 [(0, .inr 2), (1, .inl v1), (2, .inl v2), (3, .inl v3), (4, .inl v4), (5, .inl v5)] [.inl v3, .inr 2, .inl (1 : Int32)] μ (by decide +kernel) rfl rfl (by obtain ⟨G, he, hk⟩ := (h0 (of_decide_eq_true z1)); exact zm_callV (as := [.inr 2, .inl v3]) (rest := [.inl (1 : Int32)]) (P := zpi G) (nx := 46) (a := 37) (b := 2) (k := 2) (sw := []) (zq_of (by decide +kernel)) rfl rfl rfl he (fun _ μ1 hp => by obtain ⟨v, rfl, hp⟩ := hp; exact (zm_V_pick [0, 1, 2, 3, 4] rfl (hk v μ1 hp)))))) (fun z1 => (zm_run [(18, 20, 1, 4, 0, 0, []), (20, 21, 27, 0, 0, 0, []), (21, 22, 27, 0, 0, 0, []), (22, 25, 4, 4, 2, 0, []), (25, 27, 1, 4, 0, 0, []), (27, 28, 11, 0, 0, 0, [])] _ _ _ _ [] 28 [(0, .inr 2), (1, .inl v1), (2, .inl v2), (3, .inl v3), (4, .inl v4), (5, .inl v5)] [.inl ((μ 2 4) - v4), .inr 2, .inl v4] μ (by decide +kernel) rfl rfl (by obtain ⟨G, he, hk⟩ := (h1 (of_decide_eq_false z1)); exact zm_callV (as := [.inr 2, .inl ((μ 2 4) - v4)]) (rest := [.inl v4]) (P := zpi G) (nx := 31) (a := 42) (b := 2) (k := 2) (sw := []) (zq_of (by decide +kernel)) rfl rfl rfl he (fun _ μ1 hp => by obtain ⟨v, rfl, hp⟩ := hp; exact (zm_V_pick [0, 1, 2, 3, 5] rfl (hk v μ1 hp))))))))

theorem k36_46 {X : zm_T} {d : Nat} {s0 s1 v1 v2 v3 v4 : Int32} {μ : zm_u} {P : Int32 → zm_u → Prop}
    (h0 : (40 : Int32) < v4 → zV X d 36 85 [(0, .inr 2), (1, .inl v1), (2, .inl v2), (4, .inl v4), (5, .inl (s0 + s1)), (6, .inl ((μ 2 5) - v3))] [] μ (zpi P))
    (h1 : ¬ ((40 : Int32) < v4) → (6 : Int32) < (s0 + s1) → zV X d 36 85 [(0, .inr 2), (1, .inl v1), (2, .inl v2), (4, .inl v4), (5, .inl (s0 + s1)), (6, .inl ((μ 2 5) - v3))] [] μ (zpi P))
    (h2 : ¬ ((40 : Int32) < v4) → ¬ ((6 : Int32) < (s0 + s1)) → (480 : Int32) ≤ (μ 2 4) → zV X d 36 85 [(0, .inr 2), (1, .inl v1), (2, .inl v2), (4, .inl v4), (5, .inl (s0 + s1)), (6, .inl ((μ 2 5) - v3))] [] μ (zpi P))
    (h3 : ¬ ((40 : Int32) < v4) → ¬ ((6 : Int32) < (s0 + s1)) → ¬ ((480 : Int32) ≤ (μ 2 4)) → zV X d 36 86 [(0, .inr 2), (1, .inl v1), (2, .inl v2), (4, .inl v4), (5, .inl (s0 + s1)), (6, .inl ((μ 2 5) - v3))] [.inl (1 : Int32)] μ (zpi P)) :
    zV X d 36 46 [(0, .inr 2), (1, .inl v1), (2, .inl v2), (3, .inl v3), (4, .inl v4)] [.inl s1, .inl s0] μ (zpi P) :=
  (zm_run [(46, 47, 10, 0, 0, 0, []), (47, 49, 2, 5, 0, 0, []), (49, 50, 27, 0, 0, 0, []), (50, 53, 4, 5, 2, 0, []), (53, 54, 1, 3, 0, 0, []), (54, 55, 11, 0, 0, 0, []), (55, 57, 2, 6, 0, 0, []), (57, 59, 1, 4, 0, 0, []), (59, 61, 0, 0, 0, 40, [])] _ _ _ _ [] 61 [(0, .inr 2), (1, .inl v1), (2, .inl v2), (3, .inl v3), (4, .inl v4), (5, .inl (s0 + s1)), (6, .inl ((μ 2 5) - v3))] [.inl (40 : Int32), .inl v4] μ (by decide +kernel) rfl rfl (zm_icmp (nx := 64) (a := 85) (b := 4) (k := 0) (sw := []) (zq_of (by decide +kernel)) (fun z1 => (zm_V_pick [0, 1, 2, 4, 5, 6] rfl (h0 (of_decide_eq_true z1)))) (fun z1 => (zm_run [(64, 66, 1, 5, 0, 0, []), (66, 68, 0, 0, 0, 6, [])] _ _ _ _ [] 68 [(0, .inr 2), (1, .inl v1), (2, .inl v2), (3, .inl v3), (4, .inl v4), (5, .inl (s0 + s1)), (6, .inl ((μ 2 5) - v3))] [.inl (6 : Int32), .inl (s0 + s1)] μ (by decide +kernel) rfl rfl (zm_icmp (nx := 71) (a := 85) (b := 4) (k := 0) (sw := []) (zq_of (by decide +kernel)) (fun z2 => (zm_V_pick [0, 1, 2, 4, 5, 6] rfl (h1 (of_decide_eq_false z1) (of_decide_eq_true z2)))) (fun z2 => (zm_run [(71, 72, 27, 0, 0, 0, []), (72, 75, 4, 4, 2, 0, []), (75, 78, 0, 0, 0, 480, [])] _ _ _ _ [] 78 [(0, .inr 2), (1, .inl v1), (2, .inl v2), (3, .inl v3), (4, .inl v4), (5, .inl (s0 + s1)), (6, .inl ((μ 2 5) - v3))] [.inl (480 : Int32), .inl (μ 2 4)] μ (by decide +kernel) rfl rfl (zm_icmp (nx := 81) (a := 85) (b := 3) (k := 0) (sw := []) (zq_of (by decide +kernel)) (fun z3 => (zm_V_pick [0, 1, 2, 4, 5, 6] rfl (h2 (of_decide_eq_false z1) (of_decide_eq_false z2) (of_decide_eq_true z3)))) (fun z3 => (zm_run [(81, 82, 0, 0, 0, 1, []), (82, 85, 19, 86, 0, 0, [])] _ _ _ _ [] 86 [(0, .inr 2), (1, .inl v1), (2, .inl v2), (3, .inl v3), (4, .inl v4), (5, .inl (s0 + s1)), (6, .inl ((μ 2 5) - v3))] [.inl (1 : Int32)] μ (by decide +kernel) rfl rfl (zm_V_pick [0, 1, 2, 4, 5, 6] rfl (h3 (of_decide_eq_false z1) (of_decide_eq_false z2) (of_decide_eq_false z3)))))))))))))

theorem k36_31 {X : zm_T} {d : Nat} {s0 s1 v1 v2 v3 v5 : Int32} {μ : zm_u} {P : Int32 → zm_u → Prop}
    (h0 : zV X d 36 12 [(0, .inr 2), (1, .inl v1), (2, .inl v2), (3, .inl v3), (4, .inl (s0 + s1)), (5, .inl (v5 + 1))] [] μ (zpi P)) :
    zV X d 36 31 [(0, .inr 2), (1, .inl v1), (2, .inl v2), (3, .inl v3), (5, .inl v5)] [.inl s1, .inl s0] μ (zpi P) :=
  (zm_run [(31, 32, 10, 0, 0, 0, []), (32, 34, 2, 4, 0, 0, []), (34, 37, 3, 5, 0, 1, []), (37, 40, 19, 12, 0, 0, [])] _ _ _ _ [] 12 [(0, .inr 2), (1, .inl v1), (2, .inl v2), (3, .inl v3), (4, .inl (s0 + s1)), (5, .inl (v5 + 1))] [] μ (by decide +kernel) rfl rfl (zm_V_pick [0, 1, 2, 3, 4, 5] rfl h0))

theorem k36_85 {X : zm_T} {d : Nat} {v1 v2 v4 v5 v6 : Int32} {μ : zm_u} {P : Int32 → zm_u → Prop}
    (h0 : zV X d 36 86 [(0, .inr 2), (1, .inl v1), (2, .inl v2), (4, .inl v4), (5, .inl v5), (6, .inl v6)] [.inl (0 : Int32)] μ (zpi P)) :
    zV X d 36 85 [(0, .inr 2), (1, .inl v1), (2, .inl v2), (4, .inl v4), (5, .inl v5), (6, .inl v6)] [] μ (zpi P) :=
  (zm_run [(85, 86, 0, 0, 0, 0, [])] _ _ _ _ [] 86 [(0, .inr 2), (1, .inl v1), (2, .inl v2), (4, .inl v4), (5, .inl v5), (6, .inl v6)] [.inl (0 : Int32)] μ (by decide +kernel) rfl rfl (zm_V_pick [0, 1, 2, 4, 5, 6] rfl h0))

set_option maxRecDepth 100000 in
theorem k36_86 {X : zm_T} {d : Nat} {s0 v1 v2 v4 v5 v6 : Int32} {μ : zm_u} {P : Int32 → zm_u → Prop}
    (h0 : v6 < 0 → P (-2 : Int32) μ)
    (h1 : ¬ (v6 < 0) → (12 : Int32) ≤ v6 → P (-2 : Int32) μ)
    (h2 : ¬ (v6 < 0) → ¬ ((12 : Int32) ≤ v6) → ¬ s0 = 0 → 0 ≤ ((μ 2 4)).toInt ∧ ((μ 2 4)).toInt < ((560 : Nat) : Int))
    (h3 : ¬ (v6 < 0) → ¬ ((12 : Int32) ≤ v6) → ¬ s0 = 0 → 0 ≤ ((μ 2 4)).toInt ∧ ((μ 2 4)).toInt < ((560 : Nat) : Int))
    (h4 : ¬ (v6 < 0) → ¬ ((12 : Int32) ≤ v6) → ¬ s0 = 0 → 0 ≤ ((μ 2 4)).toInt ∧ ((μ 2 4)).toInt < ((560 : Nat) : Int))
    (h5 : ¬ (v6 < 0) → ¬ ((12 : Int32) ≤ v6) → ¬ s0 = 0 → 0 ≤ (v6).toInt ∧ (v6).toInt < ((12 : Nat) : Int))
    (h6 : ¬ (v6 < 0) → ¬ ((12 : Int32) ≤ v6) → ¬ s0 = 0 → P v4 (zm_up (zm_up (zm_up (zm_up (zm_up (zm_up μ 9 ((μ 2 4)).toNatClampNeg v1) 10 ((μ 2 4)).toNatClampNeg v2) 11 ((μ 2 4)).toNatClampNeg v4) 12 (v6).toNatClampNeg v5) 2 4 ((μ 2 4) + (1 : Int32))) 2 5 (v6 + (1 : Int32))))
    (h7 : ¬ (v6 < 0) → ¬ ((12 : Int32) ≤ v6) → s0 = 0 → P (-2 : Int32) μ) :
    zV X d 36 86 [(0, .inr 2), (1, .inl v1), (2, .inl v2), (4, .inl v4), (5, .inl v5), (6, .inl v6)] [.inl s0] μ (zpi P) :=
  (zm_run [(86, 88, 2, 7, 0, 0, []), (88, 90, 1, 6, 0, 0, [])] _ _ _ _ [] 90 [(0, .inr 2), (1, .inl v1), (2, .inl v2), (4, .inl v4), (5, .inl v5), (6, .inl v6), (7, .inl s0)] [.inl v6] μ (by decide +kernel) rfl rfl (zm_if (nx := 93) (a := 105) (b := 2) (k := 0) (sw := []) (zq_of (by decide +kernel)) (fun z1 => (zm_run [(105, 107, 0, 0, 0, (-2), [])] _ _ _ _ [] 107 [(0, .inr 2), (1, .inl v1), (2, .inl v2), (4, .inl v4), (5, .inl v5), (6, .inl v6), (7, .inl s0)] [.inl (-2 : Int32)] μ (by decide +kernel) rfl rfl (zm_iret (nx := 108) (a := 0) (b := 0) (k := 0) (sw := []) (zq_of (by decide +kernel)) ⟨_, rfl, (h0 (of_decide_eq_true z1))⟩))) (fun z1 => (zm_run [(93, 95, 1, 6, 0, 0, []), (95, 97, 0, 0, 0, 12, [])] _ _ _ _ [] 97 [(0, .inr 2), (1, .inl v1), (2, .inl v2), (4, .inl v4), (5, .inl v5), (6, .inl v6), (7, .inl s0)] [.inl (12 : Int32), .inl v6] μ (by decide +kernel) rfl rfl (zm_icmp (nx := 100) (a := 105) (b := 3) (k := 0) (sw := []) (zq_of (by decide +kernel)) (fun z2 => (zm_run [(105, 107, 0, 0, 0, (-2), [])] _ _ _ _ [] 107 [(0, .inr 2), (1, .inl v1), (2, .inl v2), (4, .inl v4), (5, .inl v5), (6, .inl v6), (7, .inl s0)] [.inl (-2 : Int32)] μ (by decide +kernel) rfl rfl (zm_iret (nx := 108) (a := 0) (b := 0) (k := 0) (sw := []) (zq_of (by decide +kernel)) ⟨_, rfl, (h1 (of_decide_eq_false z1) (of_decide_eq_true z2))⟩))) (fun z2 => (zm_run [(100, 102, 1, 7, 0, 0, [])] _ _ _ _ [] 102 [(0, .inr 2), (1, .inl v1), (2, .inl v2), (4, .inl v4), (5, .inl v5), (6, .inl v6), (7, .inl s0)] [.inl s0] μ (by decide +kernel) rfl rfl (zm_if (nx := 105) (a := 108) (b := 1) (k := 0) (sw := []) (zq_of (by decide +kernel)) (fun z3 => (zm_run [(108, 109, 27, 0, 0, 0, []), (109, 112, 4, 0, 2, 0, []), (112, 113, 27, 0, 0, 0, []), (113, 116, 4, 4, 2, 0, []), (116, 117, 1, 1, 0, 0, []), (117, 118, 7, 0, 0, 0, []), (118, 119, 27, 0, 0, 0, []), (119, 122, 4, 1, 2, 0, []), (122, 123, 27, 0, 0, 0, []), (123, 126, 4, 4, 2, 0, []), (126, 127, 1, 2, 0, 0, []), (127, 128, 7, 0, 0, 0, []), (128, 129, 27, 0, 0, 0, []), (129, 132, 4, 2, 2, 0, []), (132, 133, 27, 0, 0, 0, []), (133, 136, 4, 4, 2, 0, []), (136, 138, 1, 4, 0, 0, []), (138, 139, 7, 0, 0, 0, []), (139, 140, 27, 0, 0, 0, []), (140, 143, 4, 3, 2, 0, []), (143, 145, 1, 6, 0, 0, []), (145, 147, 1, 5, 0, 0, []), (147, 148, 7, 0, 0, 0, []), (148, 149, 27, 0, 0, 0, []), (149, 150, 16, 0, 0, 0, []), (150, 153, 4, 4, 2, 0, []), (153, 154, 0, 0, 0, 1, []), (154, 155, 10, 0, 0, 0, []), (155, 158, 5, 4, 2, 0, []), (158, 159, 27, 0, 0, 0, []), (159, 161, 1, 6, 0, 0, []), (161, 162, 0, 0, 0, 1, []), (162, 163, 10, 0, 0, 0, []), (163, 166, 5, 5, 2, 0, []), (166, 168, 1, 4, 0, 0, [])] _ _ _ _ [decide (0 ≤ ((μ 2 4)).toInt ∧ ((μ 2 4)).toInt < ((560 : Nat) : Int)), decide (0 ≤ ((μ 2 4)).toInt ∧ ((μ 2 4)).toInt < ((560 : Nat) : Int)), decide (0 ≤ ((μ 2 4)).toInt ∧ ((μ 2 4)).toInt < ((560 : Nat) : Int)), decide (0 ≤ (v6).toInt ∧ (v6).toInt < ((12 : Nat) : Int))] 168 [(0, .inr 2), (1, .inl v1), (2, .inl v2), (4, .inl v4), (5, .inl v5), (6, .inl v6), (7, .inl s0)] [.inl v4] (zm_up (zm_up (zm_up (zm_up (zm_up (zm_up μ 9 ((μ 2 4)).toNatClampNeg v1) 10 ((μ 2 4)).toNatClampNeg v2) 11 ((μ 2 4)).toNatClampNeg v4) 12 (v6).toNatClampNeg v5) 2 4 ((μ 2 4) + (1 : Int32))) 2 5 (v6 + (1 : Int32))) (by decide +kernel) rfl (zm_bc (h2 (of_decide_eq_false z1) (of_decide_eq_false z2) (of_decide_eq_true z3)) (zm_bc (h3 (of_decide_eq_false z1) (of_decide_eq_false z2) (of_decide_eq_true z3)) (zm_bc (h4 (of_decide_eq_false z1) (of_decide_eq_false z2) (of_decide_eq_true z3)) (zm_bc (h5 (of_decide_eq_false z1) (of_decide_eq_false z2) (of_decide_eq_true z3)) rfl)))) (zm_iret (nx := 169) (a := 0) (b := 0) (k := 0) (sw := []) (zq_of (by decide +kernel)) ⟨_, rfl, (h6 (of_decide_eq_false z1) (of_decide_eq_false z2) (of_decide_eq_true z3))⟩))) (fun z3 => (zm_run [(105, 107, 0, 0, 0, (-2), [])] _ _ _ _ [] 107 [(0, .inr 2), (1, .inl v1), (2, .inl v2), (4, .inl v4), (5, .inl v5), (6, .inl v6), (7, .inl s0)] [.inl (-2 : Int32)] μ (by decide +kernel) rfl rfl (zm_iret (nx := 108) (a := 0) (b := 0) (k := 0) (sw := []) (zq_of (by decide +kernel)) ⟨_, rfl, (h7 (of_decide_eq_false z1) (of_decide_eq_false z2) (Classical.byContradiction fun w => (of_decide_eq_false z3) w))⟩)))))))))))

theorem k37_0 {X : zm_T} {d : Nat} {v1 : Int32} {μ : zm_u} {P : Int32 → zm_u → Prop}
    (h0 : zV X d 37 13 [(0, .inr 2), (2, .inl (0 : Int32)), (3, .inl (cond (decide ((0 : Int32) < ((μ 2 5) - v1))) ((μ 2 5) - v1) (0 : Int32)))] [] μ (zpi P)) :
    zV X d 37 0 [(0, .inr 2), (1, .inl v1)] [] μ (zpi P) :=
  (zm_run [(0, 1, 0, 0, 0, 0, []), (1, 2, 2, 2, 0, 0, []), (2, 3, 0, 0, 0, 0, []), (3, 4, 27, 0, 0, 0, []), (4, 7, 4, 5, 2, 0, []), (7, 8, 1, 1, 0, 0, []), (8, 9, 11, 0, 0, 0, []), (9, 12, 25, 0, 0, 0, []), (12, 13, 2, 3, 0, 0, [])] _ _ _ _ [true] 13 [(0, .inr 2), (1, .inl v1), (2, .inl (0 : Int32)), (3, .inl (cond (decide ((0 : Int32) < ((μ 2 5) - v1))) ((μ 2 5) - v1) (0 : Int32)))] [] μ (by decide +kernel) rfl (zm_bt rfl rfl) (zm_V_pick [0, 2, 3] rfl h0))

theorem k37_13 {X : zm_T} {d : Nat} {v2 v3 : Int32} {μ : zm_u} {P : Int32 → zm_u → Prop}
    (h0 : (μ 2 5) ≤ v3 → P v2 μ)
    (h1 : ¬ ((μ 2 5) ≤ v3) → 0 ≤ (v3).toInt ∧ (v3).toInt < ((12 : Nat) : Int))
    (h2 : ¬ ((μ 2 5) ≤ v3) → zV X d 37 13 [(0, .inr 2), (2, .inl (cond (decide (v2 < (μ 12 (v3).toNatClampNeg))) (μ 12 (v3).toNatClampNeg) v2)), (3, .inl (v3 + 1))] [] μ (zpi P)) :
    zV X d 37 13 [(0, .inr 2), (2, .inl v2), (3, .inl v3)] [] μ (zpi P) :=
  (zm_run [(13, 14, 1, 3, 0, 0, []), (14, 15, 27, 0, 0, 0, []), (15, 18, 4, 5, 2, 0, [])] _ _ _ _ [] 18 [(0, .inr 2), (2, .inl v2), (3, .inl v3)] [.inl (μ 2 5), .inl v3] μ (by decide +kernel) rfl rfl (zm_icmp (nx := 21) (a := 38) (b := 3) (k := 0) (sw := []) (zq_of (by decide +kernel)) (fun z1 => (zm_run [(38, 39, 1, 2, 0, 0, [])] _ _ _ _ [] 39 [(0, .inr 2), (2, .inl v2), (3, .inl v3)] [.inl v2] μ (by decide +kernel) rfl rfl (zm_iret (nx := 40) (a := 0) (b := 0) (k := 0) (sw := []) (zq_of (by decide +kernel)) ⟨_, rfl, (h0 (of_decide_eq_true z1))⟩))) (fun z1 => (zm_run [(21, 22, 1, 2, 0, 0, []), (22, 23, 27, 0, 0, 0, []), (23, 26, 4, 3, 2, 0, []), (26, 27, 1, 3, 0, 0, []), (27, 28, 6, 0, 0, 0, []), (28, 31, 25, 0, 0, 0, []), (31, 32, 2, 2, 0, 0, []), (32, 35, 3, 3, 0, 1, []), (35, 38, 19, 13, 0, 0, [])] _ _ _ _ [decide (0 ≤ (v3).toInt ∧ (v3).toInt < ((12 : Nat) : Int)), true] 13 [(0, .inr 2), (2, .inl (cond (decide (v2 < (μ 12 (v3).toNatClampNeg))) (μ 12 (v3).toNatClampNeg) v2)), (3, .inl (v3 + 1))] [] μ (by decide +kernel) rfl (zm_bc (h1 (of_decide_eq_false z1)) (zm_bt rfl rfl)) (zm_V_pick [0, 2, 3] rfl (h2 (of_decide_eq_false z1)))))))

theorem k38_0 {X : zm_T} {d : Nat} {μ : zm_u} {P : zm_u → Prop}
    (h0 : (μ 2 5) ≤ 0 → P μ)
    (h1 : ¬ ((μ 2 5) ≤ 0) → (μ 2 4) ≤ 0 → P μ)
    (h2 : ¬ ((μ 2 5) ≤ 0) → ¬ ((μ 2 4) ≤ 0) → ∃ G : Int32 → zm_u → Prop, zI X d 42 [.inr 2, .inl ((μ 2 4) - (1 : Int32))] μ G ∧ ∀ (r : Int32) (μ1 : zm_u), G r μ1 → zV X d 38 29 [(0, .inr 2)] [.inl r, .inl (μ 2 4), .inr 2] μ1 (zpo P)) :
    zV X d 38 0 [(0, .inr 2)] [] μ (zpo P) :=
  (zm_run [(0, 1, 27, 0, 0, 0, []), (1, 4, 4, 5, 2, 0, [])] _ _ _ _ [] 4 [(0, .inr 2)] [.inl (μ 2 5)] μ (by decide +kernel) rfl rfl (zm_if (nx := 7) (a := 43) (b := 5) (k := 0) (sw := []) (zq_of (by decide +kernel)) (fun z1 => (zm_vret (nx := 44) (a := 0) (b := 0) (k := 0) (sw := []) (zq_of (by decide +kernel)) ⟨rfl, (h0 (of_decide_eq_true z1))⟩)) (fun z1 => (zm_run [(7, 8, 27, 0, 0, 0, []), (8, 11, 4, 4, 2, 0, [])] _ _ _ _ [] 11 [(0, .inr 2)] [.inl (μ 2 4)] μ (by decide +kernel) rfl rfl (zm_if (nx := 14) (a := 43) (b := 5) (k := 0) (sw := []) (zq_of (by decide +kernel)) (fun z2 => (zm_vret (nx := 44) (a := 0) (b := 0) (k := 0) (sw := []) (zq_of (by decide +kernel)) ⟨rfl, (h1 (of_decide_eq_false z1) (of_decide_eq_true z2))⟩)) (fun z2 => (zm_run [(14, 15, 27, 0, 0, 0, []), (15, 16, 16, 0, 0, 0, []), (16, 19, 4, 4, 2, 0, []), (19, 20, 27, 0, 0, 0, []), (20, 21, 27, 0, 0, 0, []), (21, 24, 4, 4, 2, 0, []), (24, 25, 0, 0, 0, 1, []), (25, 26, 11, 0, 0, 0, [])] _ _ _ _ [] 26 [(0, .inr 2)] [.inl ((μ 2 4) - (1 : Int32)), .inr 2, .inl (μ 2 4), .inr 2] μ (by decide +kernel) rfl rfl (by obtain ⟨G, he, hk⟩ := (h2 (of_decide_eq_false z1) (of_decide_eq_false z2)); exact zm_callV (as := [.inr 2, .inl ((μ 2 4) - (1 : Int32))]) (rest := [.inl (μ 2 4), .inr 2]) (P := zpi G) (nx := 29) (a := 42) (b := 2) (k := 2) (sw := []) (zq_of (by decide +kernel)) rfl rfl rfl he (fun _ μ1 hp => by obtain ⟨v, rfl, hp⟩ := hp; exact (zm_V_pick [0] rfl (hk v μ1 hp)))))))))))

theorem k38_29 {X : zm_T} {d : Nat} {s1 s2 : Int32} {μ : zm_u} {P : zm_u → Prop}
    (h0 : P (zm_up (zm_up μ 2 4 (s1 - s2)) 2 5 ((μ 2 5) - (1 : Int32)))) :
    zV X d 38 29 [(0, .inr 2)] [.inl s2, .inl s1, .inr 2] μ (zpo P) :=
  (zm_run [(29, 30, 11, 0, 0, 0, []), (30, 33, 5, 4, 2, 0, []), (33, 34, 27, 0, 0, 0, []), (34, 35, 16, 0, 0, 0, []), (35, 38, 4, 5, 2, 0, []), (38, 39, 0, 0, 0, 1, []), (39, 40, 11, 0, 0, 0, []), (40, 43, 5, 5, 2, 0, [])] _ _ _ _ [] 43 [(0, .inr 2)] [] (zm_up (zm_up μ 2 4 (s1 - s2)) 2 5 ((μ 2 5) - (1 : Int32))) (by decide +kernel) rfl rfl (zm_vret (nx := 44) (a := 0) (b := 0) (k := 0) (sw := []) (zq_of (by decide +kernel)) ⟨rfl, h0⟩))

theorem k39_0 {X : zm_T} {d : Nat} {μ : zm_u} {P : zm_u → Prop}
    (h0 : ∃ G : Int32 → zm_u → Prop, zI X d 41 [.inr 2, .inl (480 : Int32)] μ G ∧ ∀ (r : Int32) (μ1 : zm_u), G r μ1 → zV X d 39 8 [] [.inl r, .inr 2] μ1 (zpo P)) :
    zV X d 39 0 [(0, .inr 2)] [] μ (zpo P) :=
  (zm_run [(0, 1, 27, 0, 0, 0, []), (1, 2, 27, 0, 0, 0, []), (2, 5, 0, 0, 0, 480, [])] _ _ _ _ [] 5 [(0, .inr 2)] [.inl (480 : Int32), .inr 2, .inr 2] μ (by decide +kernel) rfl rfl (by obtain ⟨G, he, hk⟩ := h0; exact zm_callV (as := [.inr 2, .inl (480 : Int32)]) (rest := [.inr 2]) (P := zpi G) (nx := 8) (a := 41) (b := 2) (k := 2) (sw := []) (zq_of (by decide +kernel)) rfl rfl rfl he (fun _ μ1 hp => by obtain ⟨v, rfl, hp⟩ := hp; exact (zm_V_pick [] rfl (hk v μ1 hp)))))

theorem k39_8 {X : zm_T} {d : Nat} {s1 : Int32} {μ : zm_u} {P : zm_u → Prop}
    (h0 : P (zm_up μ 2 6 s1)) :
    zV X d 39 8 [] [.inl s1, .inr 2] μ (zpo P) :=
  (zm_run [(8, 11, 5, 6, 2, 0, [])] _ _ _ _ [] 11 [] [] (zm_up μ 2 6 s1) (by decide +kernel) rfl rfl (zm_vret (nx := 12) (a := 0) (b := 0) (k := 0) (sw := []) (zq_of (by decide +kernel)) ⟨rfl, h0⟩))

theorem k40_0 {X : zm_T} {d : Nat} {μ : zm_u} {P : zm_u → Prop}
    (h0 : ∃ G : Int32 → zm_u → Prop, zI X d 41 [.inr 2, .inl (520 : Int32)] μ G ∧ ∀ (r : Int32) (μ1 : zm_u), G r μ1 → zV X d 40 8 [] [.inl r, .inr 2] μ1 (zpo P)) :
    zV X d 40 0 [(0, .inr 2)] [] μ (zpo P) :=
  (zm_run [(0, 1, 27, 0, 0, 0, []), (1, 2, 27, 0, 0, 0, []), (2, 5, 0, 0, 0, 520, [])] _ _ _ _ [] 5 [(0, .inr 2)] [.inl (520 : Int32), .inr 2, .inr 2] μ (by decide +kernel) rfl rfl (by obtain ⟨G, he, hk⟩ := h0; exact zm_callV (as := [.inr 2, .inl (520 : Int32)]) (rest := [.inr 2]) (P := zpi G) (nx := 8) (a := 41) (b := 2) (k := 2) (sw := []) (zq_of (by decide +kernel)) rfl rfl rfl he (fun _ μ1 hp => by obtain ⟨v, rfl, hp⟩ := hp; exact (zm_V_pick [] rfl (hk v μ1 hp)))))

theorem k40_8 {X : zm_T} {d : Nat} {s1 : Int32} {μ : zm_u} {P : zm_u → Prop}
    (h0 : P (zm_up μ 2 7 s1)) :
    zV X d 40 8 [] [.inl s1, .inr 2] μ (zpo P) :=
  (zm_run [(8, 11, 5, 7, 2, 0, [])] _ _ _ _ [] 11 [] [] (zm_up μ 2 7 s1) (by decide +kernel) rfl rfl (zm_vret (nx := 12) (a := 0) (b := 0) (k := 0) (sw := []) (zq_of (by decide +kernel)) ⟨rfl, h0⟩))

theorem k41_0 {X : zm_T} {d : Nat} {v1 : Int32} {μ : zm_u} {P : Int32 → zm_u → Prop}
    (h0 : ∃ G : Int32 → zm_u → Prop, zI X d 42 [.inr 2, .inl ((μ 2 4) - (1 : Int32))] μ G ∧ ∀ (r : Int32) (μ1 : zm_u), G r μ1 → zV X d 41 10 [(0, .inr 2), (1, .inl v1)] [.inl r] μ1 (zpi P)) :
    zV X d 41 0 [(0, .inr 2), (1, .inl v1)] [] μ (zpi P) :=
  (zm_run [(0, 1, 27, 0, 0, 0, []), (1, 2, 27, 0, 0, 0, []), (2, 5, 4, 4, 2, 0, []), (5, 6, 0, 0, 0, 1, []), (6, 7, 11, 0, 0, 0, [])] _ _ _ _ [] 7 [(0, .inr 2), (1, .inl v1)] [.inl ((μ 2 4) - (1 : Int32)), .inr 2] μ (by decide +kernel) rfl rfl (by obtain ⟨G, he, hk⟩ := h0; exact zm_callV (as := [.inr 2, .inl ((μ 2 4) - (1 : Int32))]) (rest := []) (P := zpi G) (nx := 10) (a := 42) (b := 2) (k := 2) (sw := []) (zq_of (by decide +kernel)) rfl rfl rfl he (fun _ μ1 hp => by obtain ⟨v, rfl, hp⟩ := hp; exact (zm_V_pick [0, 1] rfl (hk v μ1 hp)))))

theorem k41_10 {X : zm_T} {d : Nat} {s0 v1 : Int32} {μ : zm_u} {P : Int32 → zm_u → Prop}
    (h0 : 0 ≤ (s0).toInt ∧ 0 ≤ (v1).toInt ∧ 0 ≤ (((μ 2 4) - s0)).toInt ∧ (((μ 2 4) - s0)).toInt + (s0).toInt ≤ ((560 : Nat) : Int) ∧ (v1).toInt + (s0).toInt ≤ ((560 : Nat) : Int))
    (h1 : 0 ≤ (s0).toInt ∧ 0 ≤ (v1).toInt ∧ 0 ≤ (((μ 2 4) - s0)).toInt ∧ (((μ 2 4) - s0)).toInt + (s0).toInt ≤ ((560 : Nat) : Int) ∧ (v1).toInt + (s0).toInt ≤ ((560 : Nat) : Int))
    (h2 : 0 ≤ (s0).toInt ∧ 0 ≤ (v1).toInt ∧ 0 ≤ (((μ 2 4) - s0)).toInt ∧ (((μ 2 4) - s0)).toInt + (s0).toInt ≤ ((560 : Nat) : Int) ∧ (v1).toInt + (s0).toInt ≤ ((560 : Nat) : Int))
    (h3 : ∃ G : zm_u → Prop, zO X d 38 [.inr 2] (zm_cp (zm_cp (zm_cp μ 9 9 ((μ 2 4) - s0) v1 s0) 10 10 ((μ 2 4) - s0) v1 s0) 11 11 ((μ 2 4) - s0) v1 s0) G ∧ ∀ μ1 : zm_u, G μ1 → zV X d 41 64 [(1, .inl v1), (2, .inl s0)] [] μ1 (zpi P)) :
    zV X d 41 10 [(0, .inr 2), (1, .inl v1)] [.inl s0] μ (zpi P) :=
  (zm_run [(10, 11, 2, 2, 0, 0, []), (11, 12, 27, 0, 0, 0, []), (12, 15, 4, 4, 2, 0, []), (15, 16, 1, 2, 0, 0, []), (16, 17, 11, 0, 0, 0, []), (17, 18, 2, 3, 0, 0, []), (18, 19, 27, 0, 0, 0, []), (19, 22, 4, 0, 2, 0, []), (22, 23, 1, 3, 0, 0, []), (23, 24, 27, 0, 0, 0, []), (24, 27, 4, 0, 2, 0, []), (27, 28, 1, 1, 0, 0, []), (28, 29, 1, 2, 0, 0, []), (29, 32, 26, 0, 0, 0, []), (32, 33, 27, 0, 0, 0, []), (33, 36, 4, 1, 2, 0, []), (36, 37, 1, 3, 0, 0, []), (37, 38, 27, 0, 0, 0, []), (38, 41, 4, 1, 2, 0, []), (41, 42, 1, 1, 0, 0, []), (42, 43, 1, 2, 0, 0, []), (43, 46, 26, 0, 0, 0, []), (46, 47, 27, 0, 0, 0, []), (47, 50, 4, 2, 2, 0, []), (50, 51, 1, 3, 0, 0, []), (51, 52, 27, 0, 0, 0, []), (52, 55, 4, 2, 2, 0, []), (55, 56, 1, 1, 0, 0, []), (56, 57, 1, 2, 0, 0, []), (57, 60, 26, 0, 0, 0, []), (60, 61, 27, 0, 0, 0, [])] _ _ _ _ [true, decide (0 ≤ (s0).toInt ∧ 0 ≤ (v1).toInt ∧ 0 ≤ (((μ 2 4) - s0)).toInt ∧ (((μ 2 4) - s0)).toInt + (s0).toInt ≤ ((560 : Nat) : Int) ∧ (v1).toInt + (s0).toInt ≤ ((560 : Nat) : Int)), true, decide (0 ≤ (s0).toInt ∧ 0 ≤ (v1).toInt ∧ 0 ≤ (((μ 2 4) - s0)).toInt ∧ (((μ 2 4) - s0)).toInt + (s0).toInt ≤ ((560 : Nat) : Int) ∧ (v1).toInt + (s0).toInt ≤ ((560 : Nat) : Int)), true, decide (0 ≤ (s0).toInt ∧ 0 ≤ (v1).toInt ∧ 0 ≤ (((μ 2 4) - s0)).toInt ∧ (((μ 2 4) - s0)).toInt + (s0).toInt ≤ ((560 : Nat) : Int) ∧ (v1).toInt + (s0).toInt ≤ ((560 : Nat) : Int))] 61 [(0, .inr 2), (1, .inl v1), (2, .inl s0), (3, .inl ((μ 2 4) - s0))] [.inr 2] (zm_cp (zm_cp (zm_cp μ 9 9 ((μ 2 4) - s0) v1 s0) 10 10 ((μ 2 4) - s0) v1 s0) 11 11 ((μ 2 4) - s0) v1 s0) (by decide +kernel) rfl (zm_bt rfl (zm_bc h0 (zm_bt rfl (zm_bc h1 (zm_bt rfl (zm_bc h2 rfl)))))) (by obtain ⟨G, he, hk⟩ := h3; exact zm_callV (as := [.inr 2]) (rest := []) (P := zpo G) (nx := 64) (a := 38) (b := 1) (k := 2) (sw := []) (zq_of (by decide +kernel)) rfl rfl rfl he (fun _ μ1 hp => by obtain ⟨rfl, hp⟩ := hp; exact (zm_V_pick [1, 2] rfl (hk μ1 hp)))))

theorem k41_64 {X : zm_T} {d : Nat} {v1 v2 : Int32} {μ : zm_u} {P : Int32 → zm_u → Prop}
    (h0 : P ((v1 + v2) - (1 : Int32)) μ) :
    zV X d 41 64 [(1, .inl v1), (2, .inl v2)] [] μ (zpi P) :=
  (zm_run [(64, 65, 1, 1, 0, 0, []), (65, 66, 1, 2, 0, 0, []), (66, 67, 10, 0, 0, 0, []), (67, 68, 0, 0, 0, 1, []), (68, 69, 11, 0, 0, 0, [])] _ _ _ _ [] 69 [(1, .inl v1), (2, .inl v2)] [.inl ((v1 + v2) - (1 : Int32))] μ (by decide +kernel) rfl rfl (zm_iret (nx := 70) (a := 0) (b := 0) (k := 0) (sw := []) (zq_of (by decide +kernel)) ⟨_, rfl, h0⟩))

theorem k42_0 {X : zm_T} {d : Nat} {v1 : Int32} {μ : zm_u} {P : Int32 → zm_u → Prop}
    (h0 : ∃ G : Int32 → zm_u → Prop, zI X d 43 [.inl v1] μ G ∧ ∀ (r : Int32) (μ1 : zm_u), G r μ1 → zV X d 42 4 [(0, .inr 2), (1, .inl v1)] [.inl r] μ1 (zpi P)) :
    zV X d 42 0 [(0, .inr 2), (1, .inl v1)] [] μ (zpi P) :=
  (zm_run [(0, 1, 1, 1, 0, 0, [])] _ _ _ _ [] 1 [(0, .inr 2), (1, .inl v1)] [.inl v1] μ (by decide +kernel) rfl rfl (by obtain ⟨G, he, hk⟩ := h0; exact zm_callS (as := [.inl v1]) (rest := []) (P := zpi G) (nx := 4) (a := 43) (b := 1) (k := 0) (sw := []) (zq_of (by decide +kernel)) rfl rfl rfl he (fun _ μ1 hp => by obtain ⟨v, rfl, hp⟩ := hp; exact (zm_V_pick [0, 1] rfl (hk v μ1 hp)))))

theorem k42_4 {X : zm_T} {d : Nat} {s0 v1 : Int32} {μ : zm_u} {P : Int32 → zm_u → Prop}
    (h0 : s0 = 0 → P (0 : Int32) μ)
    (h1 : ¬ (s0 = 0) → 0 ≤ (v1).toInt ∧ (v1).toInt < ((560 : Nat) : Int))
    (h2 : ¬ (s0 = 0) → P (μ 11 (v1).toNatClampNeg) μ) :
    zV X d 42 4 [(0, .inr 2), (1, .inl v1)] [.inl s0] μ (zpi P) :=
  (zm_if (nx := 7) (a := 16) (b := 0) (k := 0) (sw := []) (zq_of (by decide +kernel)) (fun z1 => (zm_run [(16, 17, 0, 0, 0, 0, [])] _ _ _ _ [] 17 [(0, .inr 2), (1, .inl v1)] [.inl (0 : Int32)] μ (by decide +kernel) rfl rfl (zm_iret (nx := 18) (a := 0) (b := 0) (k := 0) (sw := []) (zq_of (by decide +kernel)) ⟨_, rfl, (h0 (of_decide_eq_true z1))⟩))) (fun z1 => (zm_run [(7, 8, 27, 0, 0, 0, []), (8, 11, 4, 2, 2, 0, []), (11, 12, 1, 1, 0, 0, []), (12, 13, 6, 0, 0, 0, []), (13, 16, 19, 17, 0, 0, [])] _ _ _ _ [decide (0 ≤ (v1).toInt ∧ (v1).toInt < ((560 : Nat) : Int))] 17 [(0, .inr 2), (1, .inl v1)] [.inl (μ 11 (v1).toNatClampNeg)] μ (by decide +kernel) rfl (zm_bc (h1 (of_decide_eq_false z1)) rfl) (zm_iret (nx := 18) (a := 0) (b := 0) (k := 0) (sw := []) (zq_of (by decide +kernel)) ⟨_, rfl, (h2 (of_decide_eq_false z1))⟩))))

theorem k43_0 {X : zm_T} {d : Nat} {v0 : Int32} {μ : zm_u} {P : Int32 → zm_u → Prop}
    (h0 : v0 < 0 → P (0 : Int32) μ)
    (h1 : ¬ (v0 < 0) → (560 : Int32) ≤ v0 → P (0 : Int32) μ)
    (h2 : ¬ (v0 < 0) → ¬ ((560 : Int32) ≤ v0) → P (1 : Int32) μ) :
    zV X d 43 0 [(0, .inl v0)] [] μ (zpi P) :=
  (zm_run [(0, 1, 1, 0, 0, 0, [])] _ _ _ _ [] 1 [(0, .inl v0)] [.inl v0] μ (by decide +kernel) rfl rfl (zm_if (nx := 4) (a := 15) (b := 2) (k := 0) (sw := []) (zq_of (by decide +kernel)) (fun z1 => (zm_run [(15, 16, 0, 0, 0, 0, [])] _ _ _ _ [] 16 [(0, .inl v0)] [.inl (0 : Int32)] μ (by decide +kernel) rfl rfl (zm_zret (nx := 17) (a := 0) (b := 0) (k := 0) (sw := []) (zq_of (by decide +kernel)) (Or.inl rfl) ⟨_, rfl, (h0 (of_decide_eq_true z1))⟩))) (fun z1 => (zm_run [(4, 5, 1, 0, 0, 0, []), (5, 8, 0, 0, 0, 560, [])] _ _ _ _ [] 8 [(0, .inl v0)] [.inl (560 : Int32), .inl v0] μ (by decide +kernel) rfl rfl (zm_icmp (nx := 11) (a := 15) (b := 3) (k := 0) (sw := []) (zq_of (by decide +kernel)) (fun z2 => (zm_run [(15, 16, 0, 0, 0, 0, [])] _ _ _ _ [] 16 [(0, .inl v0)] [.inl (0 : Int32)] μ (by decide +kernel) rfl rfl (zm_zret (nx := 17) (a := 0) (b := 0) (k := 0) (sw := []) (zq_of (by decide +kernel)) (Or.inl rfl) ⟨_, rfl, (h1 (of_decide_eq_false z1) (of_decide_eq_true z2))⟩))) (fun z2 => (zm_run [(11, 12, 0, 0, 0, 1, []), (12, 15, 19, 16, 0, 0, [])] _ _ _ _ [] 16 [(0, .inl v0)] [.inl (1 : Int32)] μ (by decide +kernel) rfl rfl (zm_zret (nx := 17) (a := 0) (b := 0) (k := 0) (sw := []) (zq_of (by decide +kernel)) (Or.inr rfl) ⟨_, rfl, (h2 (of_decide_eq_false z1) (of_decide_eq_false z2))⟩))))))))


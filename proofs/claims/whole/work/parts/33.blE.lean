theorem k66_0 {X : zm_T} {d : Nat} {v1 : Int32} {μ : zm_u} {P : Int32 → zm_u → Prop}
    (h0 : ∃ G : Int32 → zm_u → Prop, zI X d 97 [.inr 5, .inl v1] μ G ∧ ∀ (r : Int32) (μ1 : zm_u), G r μ1 → zV X d 66 8 [] [.inl r] μ1 (zpi P)) :
    zV X d 66 0 [(0, .inr 4), (1, .inl v1)] [] μ (zpi P) :=
  (zm_run [(0, 1, 27, 0, 0, 0, []), (1, 4, 4, 1, 4, 0, []), (4, 5, 1, 1, 0, 0, [])] _ _ _ _ [] 5 [(0, .inr 4), (1, .inl v1)] [.inl v1, .inr 5] μ (by decide +kernel) rfl rfl (by obtain ⟨G, he, hk⟩ := h0; exact zm_callV (as := [.inr 5, .inl v1]) (rest := []) (P := zpi G) (nx := 8) (a := 97) (b := 2) (k := 5) (sw := []) (zq_of (by decide +kernel)) rfl rfl rfl he (fun _ μ1 hp => by obtain ⟨v, rfl, hp⟩ := hp; exact (zm_V_pick [] rfl (hk v μ1 hp)))))

theorem k66_8 {X : zm_T} {d : Nat} {s0 : Int32} {μ : zm_u} {P : Int32 → zm_u → Prop}
    (h0 : P s0 μ) :
    zV X d 66 8 [] [.inl s0] μ (zpi P) :=
  (zm_iret (nx := 9) (a := 0) (b := 0) (k := 0) (sw := []) (zq_of (by decide +kernel)) ⟨_, rfl, h0⟩)

theorem k67_0 {X : zm_T} {d : Nat} {v1 : Int32} {μ : zm_u} {P : Int32 → zm_u → Prop}
    (h0 : ∃ G : Int32 → zm_u → Prop, zI X d 98 [.inr 5, .inl v1] μ G ∧ ∀ (r : Int32) (μ1 : zm_u), G r μ1 → zV X d 67 8 [] [.inl r] μ1 (zpi P)) :
    zV X d 67 0 [(0, .inr 4), (1, .inl v1)] [] μ (zpi P) :=
  (zm_run [(0, 1, 27, 0, 0, 0, []), (1, 4, 4, 1, 4, 0, []), (4, 5, 1, 1, 0, 0, [])] _ _ _ _ [] 5 [(0, .inr 4), (1, .inl v1)] [.inl v1, .inr 5] μ (by decide +kernel) rfl rfl (by obtain ⟨G, he, hk⟩ := h0; exact zm_callV (as := [.inr 5, .inl v1]) (rest := []) (P := zpi G) (nx := 8) (a := 98) (b := 2) (k := 5) (sw := []) (zq_of (by decide +kernel)) rfl rfl rfl he (fun _ μ1 hp => by obtain ⟨v, rfl, hp⟩ := hp; exact (zm_V_pick [] rfl (hk v μ1 hp)))))

theorem k67_8 {X : zm_T} {d : Nat} {s0 : Int32} {μ : zm_u} {P : Int32 → zm_u → Prop}
    (h0 : P s0 μ) :
    zV X d 67 8 [] [.inl s0] μ (zpi P) :=
  (zm_iret (nx := 9) (a := 0) (b := 0) (k := 0) (sw := []) (zq_of (by decide +kernel)) ⟨_, rfl, h0⟩)

theorem k68_0 {X : zm_T} {d : Nat} {v1 : Int32} {μ : zm_u} {P : Int32 → zm_u → Prop}
    (h0 : (μ 4 6) < (600 : Int32) → ∃ G : Int32 → zm_u → Prop, zI X d 32 [.inr 2, .inl v1] (zm_up μ 4 6 ((μ 4 6) + (1 : Int32))) G ∧ ∀ (r : Int32) (μ1 : zm_u), G r μ1 → zV X d 68 30 [(0, .inr 4), (1, .inl v1)] [.inl r] μ1 (zpi P))
    (h1 : ¬ ((μ 4 6) < (600 : Int32)) → P (-1 : Int32) μ) :
    zV X d 68 0 [(0, .inr 4), (1, .inl v1)] [] μ (zpi P) :=
  (zm_run [(0, 1, 27, 0, 0, 0, []), (1, 4, 4, 6, 4, 0, []), (4, 7, 0, 0, 0, 600, [])] _ _ _ _ [] 7 [(0, .inr 4), (1, .inl v1)] [.inl (600 : Int32), .inl (μ 4 6)] μ (by decide +kernel) rfl rfl (zm_icmp (nx := 10) (a := 12) (b := 2) (k := 0) (sw := []) (zq_of (by decide +kernel)) (fun z1 => (zm_run [(12, 13, 27, 0, 0, 0, []), (13, 14, 16, 0, 0, 0, []), (14, 17, 4, 6, 4, 0, []), (17, 18, 0, 0, 0, 1, []), (18, 19, 10, 0, 0, 0, []), (19, 22, 5, 6, 4, 0, []), (22, 23, 27, 0, 0, 0, []), (23, 26, 4, 0, 4, 0, []), (26, 27, 1, 1, 0, 0, [])] _ _ _ _ [] 27 [(0, .inr 4), (1, .inl v1)] [.inl v1, .inr 2] (zm_up μ 4 6 ((μ 4 6) + (1 : Int32))) (by decide +kernel) rfl rfl (by obtain ⟨G, he, hk⟩ := (h0 (of_decide_eq_true z1)); exact zm_callV (as := [.inr 2, .inl v1]) (rest := []) (P := zpi G) (nx := 30) (a := 32) (b := 2) (k := 2) (sw := []) (zq_of (by decide +kernel)) rfl rfl rfl he (fun _ μ1 hp => by obtain ⟨v, rfl, hp⟩ := hp; exact (zm_V_pick [0, 1] rfl (hk v μ1 hp)))))) (fun z1 => (zm_run [(10, 11, 0, 0, 0, (-1), [])] _ _ _ _ [] 11 [(0, .inr 4), (1, .inl v1)] [.inl (-1 : Int32)] μ (by decide +kernel) rfl rfl (zm_iret (nx := 12) (a := 0) (b := 0) (k := 0) (sw := []) (zq_of (by decide +kernel)) ⟨_, rfl, (h1 (of_decide_eq_false z1))⟩)))))

set_option maxRecDepth 100000 in
theorem k68_30 {X : zm_T} {d : Nat} {s0 v1 : Int32} {μ : zm_u} {P : Int32 → zm_u → Prop}
    (h0 : s0 = 0 → ∃ G : Int32 → zm_u → Prop, zI X d 33 [.inr 2, .inl v1] μ G ∧ ∀ (r : Int32) (μ1 : zm_u), G r μ1 → zV X d 68 132 [] [.inl r, .inr 5] μ1 (zpi P))
    (h1 : ¬ s0 = 0 → s0 = 1 → ∃ G : Int32 → zm_u → Prop, zI X d 33 [.inr 2, .inl v1] μ G ∧ ∀ (r : Int32) (μ1 : zm_u), G r μ1 → zV X d 68 148 [] [.inl r, .inr 5] μ1 (zpi P))
    (h2 : ¬ s0 = 0 → ¬ s0 = 1 → s0 = 2 → ∃ G : Int32 → zm_u → Prop, zI X d 33 [.inr 2, .inl v1] μ G ∧ ∀ (r : Int32) (μ1 : zm_u), G r μ1 → zV X d 68 170 [] [.inl r, .inr 4] μ1 (zpi P))
    (h3 : ¬ s0 = 0 → ¬ s0 = 1 → ¬ s0 = 2 → s0 = 3 → ∃ G : Int32 → zm_u → Prop, zI X d 73 [.inr 4, .inl v1] μ G ∧ ∀ (r : Int32) (μ1 : zm_u), G r μ1 → zV X d 68 179 [] [.inl r] μ1 (zpi P))
    (h4 : ¬ s0 = 0 → ¬ s0 = 1 → ¬ s0 = 2 → ¬ s0 = 3 → s0 = 4 → ∃ G : Int32 → zm_u → Prop, zI X d 73 [.inr 4, .inl v1] μ G ∧ ∀ (r : Int32) (μ1 : zm_u), G r μ1 → zV X d 68 179 [] [.inl r] μ1 (zpi P))
    (h5 : ¬ s0 = 0 → ¬ s0 = 1 → ¬ s0 = 2 → ¬ s0 = 3 → ¬ s0 = 4 → s0 = 5 → ∃ G : Int32 → zm_u → Prop, zI X d 74 [.inr 4, .inl v1] μ G ∧ ∀ (r : Int32) (μ1 : zm_u), G r μ1 → zV X d 68 185 [] [.inl r] μ1 (zpi P))
    (h6 : ¬ s0 = 0 → ¬ s0 = 1 → ¬ s0 = 2 → ¬ s0 = 3 → ¬ s0 = 4 → ¬ s0 = 5 → s0 = 6 → s0 = (6 : Int32) → zV X d 68 233 [(0, .inr 4), (1, .inl v1), (2, .inl s0)] [] μ (zpi P))
    (h7 : ¬ s0 = 0 → ¬ s0 = 1 → ¬ s0 = 2 → ¬ s0 = 3 → ¬ s0 = 4 → ¬ s0 = 5 → s0 = 6 → ¬ (s0 = (6 : Int32)) → ∃ G : Int32 → zm_u → Prop, zI X d 13 [.inl s0] μ G ∧ ∀ (r : Int32) (μ1 : zm_u), G r μ1 → zV X d 68 230 [(0, .inr 4), (1, .inl v1), (2, .inl s0)] [.inl r] μ1 (zpi P))
    (h8 : ¬ s0 = 0 → ¬ s0 = 1 → ¬ s0 = 2 → ¬ s0 = 3 → ¬ s0 = 4 → ¬ s0 = 5 → ¬ s0 = 6 → s0 = 7 → ∃ G : Int32 → zm_u → Prop, zI X d 75 [.inr 4, .inl v1, .inl (0 : Int32)] μ G ∧ ∀ (r : Int32) (μ1 : zm_u), G r μ1 → zV X d 68 192 [] [.inl r] μ1 (zpi P))
    (h9 : ¬ s0 = 0 → ¬ s0 = 1 → ¬ s0 = 2 → ¬ s0 = 3 → ¬ s0 = 4 → ¬ s0 = 5 → ¬ s0 = 6 → ¬ s0 = 7 → s0 = 8 → ∃ G : Int32 → zm_u → Prop, zI X d 75 [.inr 4, .inl v1, .inl (1 : Int32)] μ G ∧ ∀ (r : Int32) (μ1 : zm_u), G r μ1 → zV X d 68 199 [] [.inl r] μ1 (zpi P))
    (h10 : ¬ s0 = 0 → ¬ s0 = 1 → ¬ s0 = 2 → ¬ s0 = 3 → ¬ s0 = 4 → ¬ s0 = 5 → ¬ s0 = 6 → ¬ s0 = 7 → ¬ s0 = 8 → s0 = 9 → ∃ G : Int32 → zm_u → Prop, zI X d 77 [.inr 4, .inl v1] μ G ∧ ∀ (r : Int32) (μ1 : zm_u), G r μ1 → zV X d 68 205 [] [.inl r] μ1 (zpi P))
    (h11 : ¬ s0 = 0 → ¬ s0 = 1 → ¬ s0 = 2 → ¬ s0 = 3 → ¬ s0 = 4 → ¬ s0 = 5 → ¬ s0 = 6 → ¬ s0 = 7 → ¬ s0 = 8 → ¬ s0 = 9 → s0 = 10 → ∃ G : Int32 → zm_u → Prop, zI X d 71 [.inr 4, .inl v1, .inl (0 : Int32), .inl (0 : Int32)] μ G ∧ ∀ (r : Int32) (μ1 : zm_u), G r μ1 → zV X d 68 213 [] [.inl r] μ1 (zpi P))
    (h12 : ¬ s0 = 0 → ¬ s0 = 1 → ¬ s0 = 2 → ¬ s0 = 3 → ¬ s0 = 4 → ¬ s0 = 5 → ¬ s0 = 6 → ¬ s0 = 7 → ¬ s0 = 8 → ¬ s0 = 9 → ¬ s0 = 10 → s0 = 11 → s0 = (6 : Int32) → zV X d 68 233 [(0, .inr 4), (1, .inl v1), (2, .inl s0)] [] μ (zpi P))
    (h13 : ¬ s0 = 0 → ¬ s0 = 1 → ¬ s0 = 2 → ¬ s0 = 3 → ¬ s0 = 4 → ¬ s0 = 5 → ¬ s0 = 6 → ¬ s0 = 7 → ¬ s0 = 8 → ¬ s0 = 9 → ¬ s0 = 10 → s0 = 11 → ¬ (s0 = (6 : Int32)) → ∃ G : Int32 → zm_u → Prop, zI X d 13 [.inl s0] μ G ∧ ∀ (r : Int32) (μ1 : zm_u), G r μ1 → zV X d 68 230 [(0, .inr 4), (1, .inl v1), (2, .inl s0)] [.inl r] μ1 (zpi P))
    (h14 : ¬ s0 = 0 → ¬ s0 = 1 → ¬ s0 = 2 → ¬ s0 = 3 → ¬ s0 = 4 → ¬ s0 = 5 → ¬ s0 = 6 → ¬ s0 = 7 → ¬ s0 = 8 → ¬ s0 = 9 → ¬ s0 = 10 → ¬ s0 = 11 → s0 = 12 → s0 = (6 : Int32) → zV X d 68 233 [(0, .inr 4), (1, .inl v1), (2, .inl s0)] [] μ (zpi P))
    (h15 : ¬ s0 = 0 → ¬ s0 = 1 → ¬ s0 = 2 → ¬ s0 = 3 → ¬ s0 = 4 → ¬ s0 = 5 → ¬ s0 = 6 → ¬ s0 = 7 → ¬ s0 = 8 → ¬ s0 = 9 → ¬ s0 = 10 → ¬ s0 = 11 → s0 = 12 → ¬ (s0 = (6 : Int32)) → ∃ G : Int32 → zm_u → Prop, zI X d 13 [.inl s0] μ G ∧ ∀ (r : Int32) (μ1 : zm_u), G r μ1 → zV X d 68 230 [(0, .inr 4), (1, .inl v1), (2, .inl s0)] [.inl r] μ1 (zpi P))
    (h16 : ¬ s0 = 0 → ¬ s0 = 1 → ¬ s0 = 2 → ¬ s0 = 3 → ¬ s0 = 4 → ¬ s0 = 5 → ¬ s0 = 6 → ¬ s0 = 7 → ¬ s0 = 8 → ¬ s0 = 9 → ¬ s0 = 10 → ¬ s0 = 11 → ¬ s0 = 12 → s0 = 13 → s0 = (6 : Int32) → zV X d 68 233 [(0, .inr 4), (1, .inl v1), (2, .inl s0)] [] μ (zpi P))
    (h17 : ¬ s0 = 0 → ¬ s0 = 1 → ¬ s0 = 2 → ¬ s0 = 3 → ¬ s0 = 4 → ¬ s0 = 5 → ¬ s0 = 6 → ¬ s0 = 7 → ¬ s0 = 8 → ¬ s0 = 9 → ¬ s0 = 10 → ¬ s0 = 11 → ¬ s0 = 12 → s0 = 13 → ¬ (s0 = (6 : Int32)) → ∃ G : Int32 → zm_u → Prop, zI X d 13 [.inl s0] μ G ∧ ∀ (r : Int32) (μ1 : zm_u), G r μ1 → zV X d 68 230 [(0, .inr 4), (1, .inl v1), (2, .inl s0)] [.inl r] μ1 (zpi P))
    (h18 : ¬ s0 = 0 → ¬ s0 = 1 → ¬ s0 = 2 → ¬ s0 = 3 → ¬ s0 = 4 → ¬ s0 = 5 → ¬ s0 = 6 → ¬ s0 = 7 → ¬ s0 = 8 → ¬ s0 = 9 → ¬ s0 = 10 → ¬ s0 = 11 → ¬ s0 = 12 → ¬ s0 = 13 → s0 = 14 → s0 = (6 : Int32) → zV X d 68 233 [(0, .inr 4), (1, .inl v1), (2, .inl s0)] [] μ (zpi P))
    (h19 : ¬ s0 = 0 → ¬ s0 = 1 → ¬ s0 = 2 → ¬ s0 = 3 → ¬ s0 = 4 → ¬ s0 = 5 → ¬ s0 = 6 → ¬ s0 = 7 → ¬ s0 = 8 → ¬ s0 = 9 → ¬ s0 = 10 → ¬ s0 = 11 → ¬ s0 = 12 → ¬ s0 = 13 → s0 = 14 → ¬ (s0 = (6 : Int32)) → ∃ G : Int32 → zm_u → Prop, zI X d 13 [.inl s0] μ G ∧ ∀ (r : Int32) (μ1 : zm_u), G r μ1 → zV X d 68 230 [(0, .inr 4), (1, .inl v1), (2, .inl s0)] [.inl r] μ1 (zpi P))
    (h20 : ¬ s0 = 0 → ¬ s0 = 1 → ¬ s0 = 2 → ¬ s0 = 3 → ¬ s0 = 4 → ¬ s0 = 5 → ¬ s0 = 6 → ¬ s0 = 7 → ¬ s0 = 8 → ¬ s0 = 9 → ¬ s0 = 10 → ¬ s0 = 11 → ¬ s0 = 12 → ¬ s0 = 13 → ¬ s0 = 14 → s0 = 15 → s0 = (6 : Int32) → zV X d 68 233 [(0, .inr 4), (1, .inl v1), (2, .inl s0)] [] μ (zpi P))
    (h21 : ¬ s0 = 0 → ¬ s0 = 1 → ¬ s0 = 2 → ¬ s0 = 3 → ¬ s0 = 4 → ¬ s0 = 5 → ¬ s0 = 6 → ¬ s0 = 7 → ¬ s0 = 8 → ¬ s0 = 9 → ¬ s0 = 10 → ¬ s0 = 11 → ¬ s0 = 12 → ¬ s0 = 13 → ¬ s0 = 14 → s0 = 15 → ¬ (s0 = (6 : Int32)) → ∃ G : Int32 → zm_u → Prop, zI X d 13 [.inl s0] μ G ∧ ∀ (r : Int32) (μ1 : zm_u), G r μ1 → zV X d 68 230 [(0, .inr 4), (1, .inl v1), (2, .inl s0)] [.inl r] μ1 (zpi P))
    (h22 : ¬ s0 = 0 → ¬ s0 = 1 → ¬ s0 = 2 → ¬ s0 = 3 → ¬ s0 = 4 → ¬ s0 = 5 → ¬ s0 = 6 → ¬ s0 = 7 → ¬ s0 = 8 → ¬ s0 = 9 → ¬ s0 = 10 → ¬ s0 = 11 → ¬ s0 = 12 → ¬ s0 = 13 → ¬ s0 = 14 → ¬ s0 = 15 → s0 = 16 → s0 = (6 : Int32) → zV X d 68 233 [(0, .inr 4), (1, .inl v1), (2, .inl s0)] [] μ (zpi P))
    (h23 : ¬ s0 = 0 → ¬ s0 = 1 → ¬ s0 = 2 → ¬ s0 = 3 → ¬ s0 = 4 → ¬ s0 = 5 → ¬ s0 = 6 → ¬ s0 = 7 → ¬ s0 = 8 → ¬ s0 = 9 → ¬ s0 = 10 → ¬ s0 = 11 → ¬ s0 = 12 → ¬ s0 = 13 → ¬ s0 = 14 → ¬ s0 = 15 → s0 = 16 → ¬ (s0 = (6 : Int32)) → ∃ G : Int32 → zm_u → Prop, zI X d 13 [.inl s0] μ G ∧ ∀ (r : Int32) (μ1 : zm_u), G r μ1 → zV X d 68 230 [(0, .inr 4), (1, .inl v1), (2, .inl s0)] [.inl r] μ1 (zpi P))
    (h24 : ¬ s0 = 0 → ¬ s0 = 1 → ¬ s0 = 2 → ¬ s0 = 3 → ¬ s0 = 4 → ¬ s0 = 5 → ¬ s0 = 6 → ¬ s0 = 7 → ¬ s0 = 8 → ¬ s0 = 9 → ¬ s0 = 10 → ¬ s0 = 11 → ¬ s0 = 12 → ¬ s0 = 13 → ¬ s0 = 14 → ¬ s0 = 15 → ¬ s0 = 16 → s0 = 17 → ∃ G : Int32 → zm_u → Prop, zI X d 78 [.inr 4, .inl v1] μ G ∧ ∀ (r : Int32) (μ1 : zm_u), G r μ1 → zV X d 68 219 [] [.inl r] μ1 (zpi P))
    (h25 : ¬ s0 = 0 → ¬ s0 = 1 → ¬ s0 = 2 → ¬ s0 = 3 → ¬ s0 = 4 → ¬ s0 = 5 → ¬ s0 = 6 → ¬ s0 = 7 → ¬ s0 = 8 → ¬ s0 = 9 → ¬ s0 = 10 → ¬ s0 = 11 → ¬ s0 = 12 → ¬ s0 = 13 → ¬ s0 = 14 → ¬ s0 = 15 → ¬ s0 = 16 → ¬ s0 = 17 → s0 = (6 : Int32) → zV X d 68 233 [(0, .inr 4), (1, .inl v1), (2, .inl s0)] [] μ (zpi P))
    (h26 : ¬ s0 = 0 → ¬ s0 = 1 → ¬ s0 = 2 → ¬ s0 = 3 → ¬ s0 = 4 → ¬ s0 = 5 → ¬ s0 = 6 → ¬ s0 = 7 → ¬ s0 = 8 → ¬ s0 = 9 → ¬ s0 = 10 → ¬ s0 = 11 → ¬ s0 = 12 → ¬ s0 = 13 → ¬ s0 = 14 → ¬ s0 = 15 → ¬ s0 = 16 → ¬ s0 = 17 → ¬ (s0 = (6 : Int32)) → ∃ G : Int32 → zm_u → Prop, zI X d 13 [.inl s0] μ G ∧ ∀ (r : Int32) (μ1 : zm_u), G r μ1 → zV X d 68 230 [(0, .inr 4), (1, .inl v1), (2, .inl s0)] [.inl r] μ1 (zpi P)) :
    zV X d 68 30 [(0, .inr 4), (1, .inl v1)] [.inl s0] μ (zpi P) :=
  (zm_run [(30, 31, 2, 2, 0, 0, []), (31, 32, 1, 2, 0, 0, [])] _ _ _ _ [] 32 [(0, .inr 4), (1, .inl v1), (2, .inl s0)] [.inl s0] μ (by decide +kernel) rfl rfl (zm_switch (nx := 120) (a := 220) (b := 0) (k := 0) (sw := [(0, 120), (1, 136), (2, 161), (3, 174), (4, 174), (5, 180), (6, 220), (7, 186), (8, 193), (9, 200), (10, 206), (11, 220), (12, 220), (13, 220), (14, 220), (15, 220), (16, 220), (17, 214)]) (zq_of (by decide +kernel)) (zsw_e (fun z1 => (zm_run [(120, 121, 27, 0, 0, 0, []), (121, 124, 4, 1, 4, 0, []), (124, 125, 27, 0, 0, 0, []), (125, 128, 4, 0, 4, 0, []), (128, 129, 1, 1, 0, 0, [])] _ _ _ _ [] 129 [(0, .inr 4), (1, .inl v1), (2, .inl s0)] [.inl v1, .inr 2, .inr 5] μ (by decide +kernel) rfl rfl (by obtain ⟨G, he, hk⟩ := (h0 z1); exact zm_callV (as := [.inr 2, .inl v1]) (rest := [.inr 5]) (P := zpi G) (nx := 132) (a := 33) (b := 2) (k := 2) (sw := []) (zq_of (by decide +kernel)) rfl rfl rfl he (fun _ μ1 hp => by obtain ⟨v, rfl, hp⟩ := hp; exact (zm_V_pick [] rfl (hk v μ1 hp)))))) (fun z1 => (zsw_e (fun z2 => (zm_run [(136, 137, 27, 0, 0, 0, []), (137, 140, 4, 1, 4, 0, []), (140, 141, 27, 0, 0, 0, []), (141, 144, 4, 0, 4, 0, []), (144, 145, 1, 1, 0, 0, [])] _ _ _ _ [] 145 [(0, .inr 4), (1, .inl v1), (2, .inl s0)] [.inl v1, .inr 2, .inr 5] μ (by decide +kernel) rfl rfl (by obtain ⟨G, he, hk⟩ := (h1 z1 z2); exact zm_callV (as := [.inr 2, .inl v1]) (rest := [.inr 5]) (P := zpi G) (nx := 148) (a := 33) (b := 2) (k := 2) (sw := []) (zq_of (by decide +kernel)) rfl rfl rfl he (fun _ μ1 hp => by obtain ⟨v, rfl, hp⟩ := hp; exact (zm_V_pick [] rfl (hk v μ1 hp)))))) (fun z2 => (zsw_e (fun z3 => (zm_run [(161, 162, 27, 0, 0, 0, []), (162, 163, 27, 0, 0, 0, []), (163, 166, 4, 0, 4, 0, []), (166, 167, 1, 1, 0, 0, [])] _ _ _ _ [] 167 [(0, .inr 4), (1, .inl v1), (2, .inl s0)] [.inl v1, .inr 2, .inr 4] μ (by decide +kernel) rfl rfl (by obtain ⟨G, he, hk⟩ := (h2 z1 z2 z3); exact zm_callV (as := [.inr 2, .inl v1]) (rest := [.inr 4]) (P := zpi G) (nx := 170) (a := 33) (b := 2) (k := 2) (sw := []) (zq_of (by decide +kernel)) rfl rfl rfl he (fun _ μ1 hp => by obtain ⟨v, rfl, hp⟩ := hp; exact (zm_V_pick [] rfl (hk v μ1 hp)))))) (fun z3 => (zsw_e (fun z4 => (zm_run [(174, 175, 27, 0, 0, 0, []), (175, 176, 1, 1, 0, 0, [])] _ _ _ _ [] 176 [(0, .inr 4), (1, .inl v1), (2, .inl s0)] [.inl v1, .inr 4] μ (by decide +kernel) rfl rfl (by obtain ⟨G, he, hk⟩ := (h3 z1 z2 z3 z4); exact zm_callV (as := [.inr 4, .inl v1]) (rest := []) (P := zpi G) (nx := 179) (a := 73) (b := 2) (k := 4) (sw := []) (zq_of (by decide +kernel)) rfl rfl rfl he (fun _ μ1 hp => by obtain ⟨v, rfl, hp⟩ := hp; exact (zm_V_pick [] rfl (hk v μ1 hp)))))) (fun z4 => (zsw_e (fun z5 => (zm_run [(174, 175, 27, 0, 0, 0, []), (175, 176, 1, 1, 0, 0, [])] _ _ _ _ [] 176 [(0, .inr 4), (1, .inl v1), (2, .inl s0)] [.inl v1, .inr 4] μ (by decide +kernel) rfl rfl (by obtain ⟨G, he, hk⟩ := (h4 z1 z2 z3 z4 z5); exact zm_callV (as := [.inr 4, .inl v1]) (rest := []) (P := zpi G) (nx := 179) (a := 73) (b := 2) (k := 4) (sw := []) (zq_of (by decide +kernel)) rfl rfl rfl he (fun _ μ1 hp => by obtain ⟨v, rfl, hp⟩ := hp; exact (zm_V_pick [] rfl (hk v μ1 hp)))))) (fun z5 => (zsw_e (fun z6 => (zm_run [(180, 181, 27, 0, 0, 0, []), (181, 182, 1, 1, 0, 0, [])] _ _ _ _ [] 182 [(0, .inr 4), (1, .inl v1), (2, .inl s0)] [.inl v1, .inr 4] μ (by decide +kernel) rfl rfl (by obtain ⟨G, he, hk⟩ := (h5 z1 z2 z3 z4 z5 z6); exact zm_callV (as := [.inr 4, .inl v1]) (rest := []) (P := zpi G) (nx := 185) (a := 74) (b := 2) (k := 4) (sw := []) (zq_of (by decide +kernel)) rfl rfl rfl he (fun _ μ1 hp => by obtain ⟨v, rfl, hp⟩ := hp; exact (zm_V_pick [] rfl (hk v μ1 hp)))))) (fun z6 => (zsw_e (fun z7 => (zm_run [(220, 221, 1, 2, 0, 0, []), (221, 223, 0, 0, 0, 6, [])] _ _ _ _ [] 223 [(0, .inr 4), (1, .inl v1), (2, .inl s0)] [.inl (6 : Int32), .inl s0] μ (by decide +kernel) rfl rfl (zm_icmp (nx := 226) (a := 233) (b := 0) (k := 0) (sw := []) (zq_of (by decide +kernel)) (fun z8 => (zm_V_pick [0, 1, 2] rfl (h6 z1 z2 z3 z4 z5 z6 z7 (of_decide_eq_true z8)))) (fun z8 => (zm_run [(226, 227, 1, 2, 0, 0, [])] _ _ _ _ [] 227 [(0, .inr 4), (1, .inl v1), (2, .inl s0)] [.inl s0] μ (by decide +kernel) rfl rfl (by obtain ⟨G, he, hk⟩ := (h7 z1 z2 z3 z4 z5 z6 z7 (of_decide_eq_false z8)); exact zm_callS (as := [.inl s0]) (rest := []) (P := zpi G) (nx := 230) (a := 13) (b := 1) (k := 0) (sw := []) (zq_of (by decide +kernel)) rfl rfl rfl he (fun _ μ1 hp => by obtain ⟨v, rfl, hp⟩ := hp; exact (zm_V_pick [0, 1, 2] rfl (hk v μ1 hp))))))))) (fun z7 => (zsw_e (fun z9 => (zm_run [(186, 187, 27, 0, 0, 0, []), (187, 188, 1, 1, 0, 0, []), (188, 189, 0, 0, 0, 0, [])] _ _ _ _ [] 189 [(0, .inr 4), (1, .inl v1), (2, .inl s0)] [.inl (0 : Int32), .inl v1, .inr 4] μ (by decide +kernel) rfl rfl (by obtain ⟨G, he, hk⟩ := (h8 z1 z2 z3 z4 z5 z6 z7 z9); exact zm_callV (as := [.inr 4, .inl v1, .inl (0 : Int32)]) (rest := []) (P := zpi G) (nx := 192) (a := 75) (b := 3) (k := 4) (sw := []) (zq_of (by decide +kernel)) rfl rfl rfl he (fun _ μ1 hp => by obtain ⟨v, rfl, hp⟩ := hp; exact (zm_V_pick [] rfl (hk v μ1 hp)))))) (fun z9 => (zsw_e (fun z10 => (zm_run [(193, 194, 27, 0, 0, 0, []), (194, 195, 1, 1, 0, 0, []), (195, 196, 0, 0, 0, 1, [])] _ _ _ _ [] 196 [(0, .inr 4), (1, .inl v1), (2, .inl s0)] [.inl (1 : Int32), .inl v1, .inr 4] μ (by decide +kernel) rfl rfl (by obtain ⟨G, he, hk⟩ := (h9 z1 z2 z3 z4 z5 z6 z7 z9 z10); exact zm_callV (as := [.inr 4, .inl v1, .inl (1 : Int32)]) (rest := []) (P := zpi G) (nx := 199) (a := 75) (b := 3) (k := 4) (sw := []) (zq_of (by decide +kernel)) rfl rfl rfl he (fun _ μ1 hp => by obtain ⟨v, rfl, hp⟩ := hp; exact (zm_V_pick [] rfl (hk v μ1 hp)))))) (fun z10 => (zsw_e (fun z11 => (zm_run [(200, 201, 27, 0, 0, 0, []), (201, 202, 1, 1, 0, 0, [])] _ _ _ _ [] 202 [(0, .inr 4), (1, .inl v1), (2, .inl s0)] [.inl v1, .inr 4] μ (by decide +kernel) rfl rfl (by obtain ⟨G, he, hk⟩ := (h10 z1 z2 z3 z4 z5 z6 z7 z9 z10 z11); exact zm_callV (as := [.inr 4, .inl v1]) (rest := []) (P := zpi G) (nx := 205) (a := 77) (b := 2) (k := 4) (sw := []) (zq_of (by decide +kernel)) rfl rfl rfl he (fun _ μ1 hp => by obtain ⟨v, rfl, hp⟩ := hp; exact (zm_V_pick [] rfl (hk v μ1 hp)))))) (fun z11 => (zsw_e (fun z12 => (zm_run [(206, 207, 27, 0, 0, 0, []), (207, 208, 1, 1, 0, 0, []), (208, 209, 0, 0, 0, 0, []), (209, 210, 0, 0, 0, 0, [])] _ _ _ _ [] 210 [(0, .inr 4), (1, .inl v1), (2, .inl s0)] [.inl (0 : Int32), .inl (0 : Int32), .inl v1, .inr 4] μ (by decide +kernel) rfl rfl (by obtain ⟨G, he, hk⟩ := (h11 z1 z2 z3 z4 z5 z6 z7 z9 z10 z11 z12); exact zm_callV (as := [.inr 4, .inl v1, .inl (0 : Int32), .inl (0 : Int32)]) (rest := []) (P := zpi G) (nx := 213) (a := 71) (b := 4) (k := 4) (sw := []) (zq_of (by decide +kernel)) rfl rfl rfl he (fun _ μ1 hp => by obtain ⟨v, rfl, hp⟩ := hp; exact (zm_V_pick [] rfl (hk v μ1 hp)))))) (fun z12 => (zsw_e (fun z13 => (zm_run [(220, 221, 1, 2, 0, 0, []), (221, 223, 0, 0, 0, 6, [])] _ _ _ _ [] 223 [(0, .inr 4), (1, .inl v1), (2, .inl s0)] [.inl (6 : Int32), .inl s0] μ (by decide +kernel) rfl rfl (zm_icmp (nx := 226) (a := 233) (b := 0) (k := 0) (sw := []) (zq_of (by decide +kernel)) (fun z14 => (zm_V_pick [0, 1, 2] rfl (h12 z1 z2 z3 z4 z5 z6 z7 z9 z10 z11 z12 z13 (of_decide_eq_true z14)))) (fun z14 => (zm_run [(226, 227, 1, 2, 0, 0, [])] _ _ _ _ [] 227 [(0, .inr 4), (1, .inl v1), (2, .inl s0)] [.inl s0] μ (by decide +kernel) rfl rfl (by obtain ⟨G, he, hk⟩ := (h13 z1 z2 z3 z4 z5 z6 z7 z9 z10 z11 z12 z13 (of_decide_eq_false z14)); exact zm_callS (as := [.inl s0]) (rest := []) (P := zpi G) (nx := 230) (a := 13) (b := 1) (k := 0) (sw := []) (zq_of (by decide +kernel)) rfl rfl rfl he (fun _ μ1 hp => by obtain ⟨v, rfl, hp⟩ := hp; exact (zm_V_pick [0, 1, 2] rfl (hk v μ1 hp))))))))) (fun z13 => (zsw_e (fun z15 => (zm_run [(220, 221, 1, 2, 0, 0, []), (221, 223, 0, 0, 0, 6, [])] _ _ _ _ [] 223 [(0, .inr 4), (1, .inl v1), (2, .inl s0)] [.inl (6 : Int32), .inl s0] μ (by decide +kernel) rfl rfl (zm_icmp (nx := 226) (a := 233) (b := 0) (k := 0) (sw := []) (zq_of (by decide +kernel)) (fun z16 => (zm_V_pick [0, 1, 2] rfl (h14 z1 z2 z3 z4 z5 z6 z7 z9 z10 z11 z12 z13 z15 (of_decide_eq_true z16)))) (fun z16 => (zm_run [(226, 227, 1, 2, 0, 0, [])] _ _ _ _ [] 227 [(0, .inr 4), (1, .inl v1), (2, .inl s0)] [.inl s0] μ (by decide +kernel) rfl rfl (by obtain ⟨G, he, hk⟩ := (h15 z1 z2 z3 z4 z5 z6 z7 z9 z10 z11 z12 z13 z15 (of_decide_eq_false z16)); exact zm_callS (as := [.inl s0]) (rest := []) (P := zpi G) (nx := 230) (a := 13) (b := 1) (k := 0) (sw := []) (zq_of (by decide +kernel)) rfl rfl rfl he (fun _ μ1 hp => by obtain ⟨v, rfl, hp⟩ := hp; exact (zm_V_pick [0, 1, 2] rfl (hk v μ1 hp))))))))) (fun z15 => (zsw_e (fun z17 => (zm_run [(220, 221, 1, 2, 0, 0, []), (221, 223, 0, 0, 0, 6, [])] _ _ _ _ [] 223 [(0, .inr 4), (1, .inl v1), (2, .inl s0)] [.inl (6 : Int32), .inl s0] μ (by decide +kernel) rfl rfl (zm_icmp (nx := 226) (a := 233) (b := 0) (k := 0) (sw := []) (zq_of (by decide +kernel)) (fun z18 => (zm_V_pick [0, 1, 2] rfl (h16 z1 z2 z3 z4 z5 z6 z7 z9 z10 z11 z12 z13 z15 z17 (of_decide_eq_true z18)))) (fun z18 => (zm_run [(226, 227, 1, 2, 0, 0, [])] _ _ _ _ [] 227 [(0, .inr 4), (1, .inl v1), (2, .inl s0)] [.inl s0] μ (by decide +kernel) rfl rfl (by obtain ⟨G, he, hk⟩ := (h17 z1 z2 z3 z4 z5 z6 z7 z9 z10 z11 z12 z13 z15 z17 (of_decide_eq_false z18)); exact zm_callS (as := [.inl s0]) (rest := []) (P := zpi G) (nx := 230) (a := 13) (b := 1) (k := 0) (sw := []) (zq_of (by decide +kernel)) rfl rfl rfl he (fun _ μ1 hp => by obtain ⟨v, rfl, hp⟩ := hp; exact (zm_V_pick [0, 1, 2] rfl (hk v μ1 hp))))))))) (fun z17 => (zsw_e (fun z19 => (zm_run [(220, 221, 1, 2, 0, 0, []), (221, 223, 0, 0, 0, 6, [])] _ _ _ _ [] 223 [(0, .inr 4), (1, .inl v1), (2, .inl s0)] [.inl (6 : Int32), .inl s0] μ (by decide +kernel) rfl rfl (zm_icmp (nx := 226) (a := 233) (b := 0) (k := 0) (sw := []) (zq_of (by decide +kernel)) (fun z20 => (zm_V_pick [0, 1, 2] rfl (h18 z1 z2 z3 z4 z5 z6 z7 z9 z10 z11 z12 z13 z15 z17 z19 (of_decide_eq_true z20)))) (fun z20 => (zm_run [(226, 227, 1, 2, 0, 0, [])] _ _ _ _ [] 227 [(0, .inr 4), (1, .inl v1), (2, .inl s0)] [.inl s0] μ (by decide +kernel) rfl rfl (by obtain ⟨G, he, hk⟩ := (h19 z1 z2 z3 z4 z5 z6 z7 z9 z10 z11 z12 z13 z15 z17 z19 (of_decide_eq_false z20)); exact zm_callS (as := [.inl s0]) (rest := []) (P := zpi G) (nx := 230) (a := 13) (b := 1) (k := 0) (sw := []) (zq_of (by decide +kernel)) rfl rfl rfl he (fun _ μ1 hp => by obtain ⟨v, rfl, hp⟩ := hp; exact (zm_V_pick [0, 1, 2] rfl (hk v μ1 hp))))))))) (fun z19 => (zsw_e (fun z21 => (zm_run [(220, 221, 1, 2, 0, 0, []), (221, 223, 0, 0, 0, 6, [])] _ _ _ _ [] 223 [(0, .inr 4), (1, .inl v1), (2, .inl s0)] [.inl (6 : Int32), .inl s0] μ (by decide +kernel) rfl rfl (zm_icmp (nx := 226) (a := 233) (b := 0) (k := 0) (sw := []) (zq_of (by decide +kernel)) (fun z22 => (zm_V_pick [0, 1, 2] rfl (h20 z1 z2 z3 z4 z5 z6 z7 z9 z10 z11 z12 z13 z15 z17 z19 z21 (of_decide_eq_true z22)))) (fun z22 => (zm_run [(226, 227, 1, 2, 0, 0, [])] _ _ _ _ [] 227 [(0, .inr 4), (1, .inl v1), (2, .inl s0)] [.inl s0] μ (by decide +kernel) rfl rfl (by obtain ⟨G, he, hk⟩ := (h21 z1 z2 z3 z4 z5 z6 z7 z9 z10 z11 z12 z13 z15 z17 z19 z21 (of_decide_eq_false z22)); exact zm_callS (as := [.inl s0]) (rest := []) (P := zpi G) (nx := 230) (a := 13) (b := 1) (k := 0) (sw := []) (zq_of (by decide +kernel)) rfl rfl rfl he (fun _ μ1 hp => by obtain ⟨v, rfl, hp⟩ := hp; exact (zm_V_pick [0, 1, 2] rfl (hk v μ1 hp))))))))) (fun z21 => (zsw_e (fun z23 => (zm_run [(220, 221, 1, 2, 0, 0, []), (221, 223, 0, 0, 0, 6, [])] _ _ _ _ [] 223 [(0, .inr 4), (1, .inl v1), (2, .inl s0)] [.inl (6 : Int32), .inl s0] μ (by decide +kernel) rfl rfl (zm_icmp (nx := 226) (a := 233) (b := 0) (k := 0) (sw := []) (zq_of (by decide +kernel)) (fun z24 => (zm_V_pick [0, 1, 2] rfl (h22 z1 z2 z3 z4 z5 z6 z7 z9 z10 z11 z12 z13 z15 z17 z19 z21 z23 (of_decide_eq_true z24)))) (fun z24 => (zm_run [(226, 227, 1, 2, 0, 0, [])] _ _ _ _ [] 227 [(0, .inr 4), (1, .inl v1), (2, .inl s0)] [.inl s0] μ (by decide +kernel) rfl rfl (by obtain ⟨G, he, hk⟩ := (h23 z1 z2 z3 z4 z5 z6 z7 z9 z10 z11 z12 z13 z15 z17 z19 z21 z23 (of_decide_eq_false z24)); exact zm_callS (as := [.inl s0]) (rest := []) (P := zpi G) (nx := 230) (a := 13) (b := 1) (k := 0) (sw := []) (zq_of (by decide +kernel)) rfl rfl rfl he (fun _ μ1 hp => by obtain ⟨v, rfl, hp⟩ := hp; exact (zm_V_pick [0, 1, 2] rfl (hk v μ1 hp))))))))) (fun z23 => (zsw_e (fun z25 => (zm_run [(214, 215, 27, 0, 0, 0, []), (215, 216, 1, 1, 0, 0, [])] _ _ _ _ [] 216 [(0, .inr 4), (1, .inl v1), (2, .inl s0)] [.inl v1, .inr 4] μ (by decide +kernel) rfl rfl (by obtain ⟨G, he, hk⟩ := (h24 z1 z2 z3 z4 z5 z6 z7 z9 z10 z11 z12 z13 z15 z17 z19 z21 z23 z25); exact zm_callV (as := [.inr 4, .inl v1]) (rest := []) (P := zpi G) (nx := 219) (a := 78) (b := 2) (k := 4) (sw := []) (zq_of (by decide +kernel)) rfl rfl rfl he (fun _ μ1 hp => by obtain ⟨v, rfl, hp⟩ := hp; exact (zm_V_pick [] rfl (hk v μ1 hp)))))) (fun z25 => (zm_run [(220, 221, 1, 2, 0, 0, []), (221, 223, 0, 0, 0, 6, [])] _ _ _ _ [] 223 [(0, .inr 4), (1, .inl v1), (2, .inl s0)] [.inl (6 : Int32), .inl s0] μ (by decide +kernel) rfl rfl (zm_icmp (nx := 226) (a := 233) (b := 0) (k := 0) (sw := []) (zq_of (by decide +kernel)) (fun z26 => (zm_V_pick [0, 1, 2] rfl (h25 z1 z2 z3 z4 z5 z6 z7 z9 z10 z11 z12 z13 z15 z17 z19 z21 z23 z25 (of_decide_eq_true z26)))) (fun z26 => (zm_run [(226, 227, 1, 2, 0, 0, [])] _ _ _ _ [] 227 [(0, .inr 4), (1, .inl v1), (2, .inl s0)] [.inl s0] μ (by decide +kernel) rfl rfl (by obtain ⟨G, he, hk⟩ := (h26 z1 z2 z3 z4 z5 z6 z7 z9 z10 z11 z12 z13 z15 z17 z19 z21 z23 z25 (of_decide_eq_false z26)); exact zm_callS (as := [.inl s0]) (rest := []) (P := zpi G) (nx := 230) (a := 13) (b := 1) (k := 0) (sw := []) (zq_of (by decide +kernel)) rfl rfl rfl he (fun _ μ1 hp => by obtain ⟨v, rfl, hp⟩ := hp; exact (zm_V_pick [0, 1, 2] rfl (hk v μ1 hp))))))))))))))))))))))))))))))))))))))))))))))

theorem k68_132 {X : zm_T} {d : Nat} {s1 : Int32} {μ : zm_u} {P : Int32 → zm_u → Prop}
    (h0 : ∃ G : Int32 → zm_u → Prop, zI X d 81 [.inr 5, .inl s1] μ G ∧ ∀ (r : Int32) (μ1 : zm_u), G r μ1 → zV X d 68 135 [] [.inl r] μ1 (zpi P)) :
    zV X d 68 132 [] [.inl s1, .inr 5] μ (zpi P) :=
  (by obtain ⟨G, he, hk⟩ := h0; exact zm_callV (as := [.inr 5, .inl s1]) (rest := []) (P := zpi G) (nx := 135) (a := 81) (b := 2) (k := 5) (sw := []) (zq_of (by decide +kernel)) rfl rfl rfl he (fun _ μ1 hp => by obtain ⟨v, rfl, hp⟩ := hp; exact (zm_V_pick [] rfl (hk v μ1 hp))))

theorem k68_148 {X : zm_T} {d : Nat} {s1 : Int32} {μ : zm_u} {P : Int32 → zm_u → Prop}
    (h0 : ¬ s1 = (1 : Int32) → zV X d 68 157 [] [.inl (0 : Int32), .inr 5] μ (zpi P))
    (h1 : s1 = (1 : Int32) → zV X d 68 157 [] [.inl (1 : Int32), .inr 5] μ (zpi P)) :
    zV X d 68 148 [] [.inl s1, .inr 5] μ (zpi P) :=
  (zm_run [(148, 149, 0, 0, 0, 1, [])] _ _ _ _ [] 149 [] [.inl (1 : Int32), .inl s1, .inr 5] μ (by decide +kernel) rfl rfl (zm_icmp (nx := 152) (a := 156) (b := 1) (k := 0) (sw := []) (zq_of (by decide +kernel)) (fun z1 => (zm_run [(156, 157, 0, 0, 0, 0, [])] _ _ _ _ [] 157 [] [.inl (0 : Int32), .inr 5] μ (by decide +kernel) rfl rfl (zm_V_pick [] rfl (h0 (of_decide_eq_true z1))))) (fun z1 => (zm_run [(152, 153, 0, 0, 0, 1, []), (153, 156, 19, 157, 0, 0, [])] _ _ _ _ [] 157 [] [.inl (1 : Int32), .inr 5] μ (by decide +kernel) rfl rfl (zm_V_pick [] rfl (h1 (Classical.byContradiction fun w => (of_decide_eq_false z1) w)))))))

theorem k68_170 {X : zm_T} {d : Nat} {s1 : Int32} {μ : zm_u} {P : Int32 → zm_u → Prop}
    (h0 : ∃ G : Int32 → zm_u → Prop, zI X d 72 [.inr 4, .inl s1] μ G ∧ ∀ (r : Int32) (μ1 : zm_u), G r μ1 → zV X d 68 173 [] [.inl r] μ1 (zpi P)) :
    zV X d 68 170 [] [.inl s1, .inr 4] μ (zpi P) :=
  (by obtain ⟨G, he, hk⟩ := h0; exact zm_callV (as := [.inr 4, .inl s1]) (rest := []) (P := zpi G) (nx := 173) (a := 72) (b := 2) (k := 4) (sw := []) (zq_of (by decide +kernel)) rfl rfl rfl he (fun _ μ1 hp => by obtain ⟨v, rfl, hp⟩ := hp; exact (zm_V_pick [] rfl (hk v μ1 hp))))

theorem k68_179 {X : zm_T} {d : Nat} {s0 : Int32} {μ : zm_u} {P : Int32 → zm_u → Prop}
    (h0 : P s0 μ) :
    zV X d 68 179 [] [.inl s0] μ (zpi P) :=
  (zm_iret (nx := 180) (a := 0) (b := 0) (k := 0) (sw := []) (zq_of (by decide +kernel)) ⟨_, rfl, h0⟩)

theorem k68_185 {X : zm_T} {d : Nat} {s0 : Int32} {μ : zm_u} {P : Int32 → zm_u → Prop}
    (h0 : P s0 μ) :
    zV X d 68 185 [] [.inl s0] μ (zpi P) :=
  (zm_iret (nx := 186) (a := 0) (b := 0) (k := 0) (sw := []) (zq_of (by decide +kernel)) ⟨_, rfl, h0⟩)

theorem k68_233 {X : zm_T} {d : Nat} {v1 v2 : Int32} {μ : zm_u} {P : Int32 → zm_u → Prop}
    (h0 : ∃ G : Int32 → zm_u → Prop, zI X d 69 [.inl v2] μ G ∧ ∀ (r : Int32) (μ1 : zm_u), G r μ1 → zV X d 68 239 [] [.inl r, .inl v1, .inr 4] μ1 (zpi P)) :
    zV X d 68 233 [(0, .inr 4), (1, .inl v1), (2, .inl v2)] [] μ (zpi P) :=
  (zm_run [(233, 234, 27, 0, 0, 0, []), (234, 235, 1, 1, 0, 0, []), (235, 236, 1, 2, 0, 0, [])] _ _ _ _ [] 236 [(0, .inr 4), (1, .inl v1), (2, .inl v2)] [.inl v2, .inl v1, .inr 4] μ (by decide +kernel) rfl rfl (by obtain ⟨G, he, hk⟩ := h0; exact zm_callS (as := [.inl v2]) (rest := [.inl v1, .inr 4]) (P := zpi G) (nx := 239) (a := 69) (b := 1) (k := 0) (sw := []) (zq_of (by decide +kernel)) rfl rfl rfl he (fun _ μ1 hp => by obtain ⟨v, rfl, hp⟩ := hp; exact (zm_V_pick [] rfl (hk v μ1 hp)))))

theorem k68_230 {X : zm_T} {d : Nat} {s0 v1 v2 : Int32} {μ : zm_u} {P : Int32 → zm_u → Prop}
    (h0 : s0 = 0 → P (-2 : Int32) μ)
    (h1 : ¬ (s0 = 0) → zV X d 68 233 [(0, .inr 4), (1, .inl v1), (2, .inl v2)] [] μ (zpi P)) :
    zV X d 68 230 [(0, .inr 4), (1, .inl v1), (2, .inl v2)] [.inl s0] μ (zpi P) :=
  (zm_if (nx := 233) (a := 245) (b := 0) (k := 0) (sw := []) (zq_of (by decide +kernel)) (fun z1 => (zm_run [(245, 247, 0, 0, 0, (-2), [])] _ _ _ _ [] 247 [(0, .inr 4), (1, .inl v1), (2, .inl v2)] [.inl (-2 : Int32)] μ (by decide +kernel) rfl rfl (zm_iret (nx := 248) (a := 0) (b := 0) (k := 0) (sw := []) (zq_of (by decide +kernel)) ⟨_, rfl, (h0 (of_decide_eq_true z1))⟩))) (fun z1 => (zm_V_pick [0, 1, 2] rfl (h1 (of_decide_eq_false z1)))))

theorem k68_192 {X : zm_T} {d : Nat} {s0 : Int32} {μ : zm_u} {P : Int32 → zm_u → Prop}
    (h0 : P s0 μ) :
    zV X d 68 192 [] [.inl s0] μ (zpi P) :=
  (zm_iret (nx := 193) (a := 0) (b := 0) (k := 0) (sw := []) (zq_of (by decide +kernel)) ⟨_, rfl, h0⟩)

theorem k68_199 {X : zm_T} {d : Nat} {s0 : Int32} {μ : zm_u} {P : Int32 → zm_u → Prop}
    (h0 : P s0 μ) :
    zV X d 68 199 [] [.inl s0] μ (zpi P) :=
  (zm_iret (nx := 200) (a := 0) (b := 0) (k := 0) (sw := []) (zq_of (by decide +kernel)) ⟨_, rfl, h0⟩)

theorem k68_205 {X : zm_T} {d : Nat} {s0 : Int32} {μ : zm_u} {P : Int32 → zm_u → Prop}
    (h0 : P s0 μ) :
    zV X d 68 205 [] [.inl s0] μ (zpi P) :=
  (zm_iret (nx := 206) (a := 0) (b := 0) (k := 0) (sw := []) (zq_of (by decide +kernel)) ⟨_, rfl, h0⟩)

theorem k68_213 {X : zm_T} {d : Nat} {s0 : Int32} {μ : zm_u} {P : Int32 → zm_u → Prop}
    (h0 : P s0 μ) :
    zV X d 68 213 [] [.inl s0] μ (zpi P) :=
  (zm_iret (nx := 214) (a := 0) (b := 0) (k := 0) (sw := []) (zq_of (by decide +kernel)) ⟨_, rfl, h0⟩)

theorem k68_219 {X : zm_T} {d : Nat} {s0 : Int32} {μ : zm_u} {P : Int32 → zm_u → Prop}
    (h0 : P s0 μ) :
    zV X d 68 219 [] [.inl s0] μ (zpi P) :=
  (zm_iret (nx := 220) (a := 0) (b := 0) (k := 0) (sw := []) (zq_of (by decide +kernel)) ⟨_, rfl, h0⟩)

theorem k68_135 {X : zm_T} {d : Nat} {s0 : Int32} {μ : zm_u} {P : Int32 → zm_u → Prop}
    (h0 : P s0 μ) :
    zV X d 68 135 [] [.inl s0] μ (zpi P) :=
  (zm_iret (nx := 136) (a := 0) (b := 0) (k := 0) (sw := []) (zq_of (by decide +kernel)) ⟨_, rfl, h0⟩)

theorem k68_157 {X : zm_T} {d : Nat} {s1 : Int32} {μ : zm_u} {P : Int32 → zm_u → Prop}
    (h0 : ∃ G : Int32 → zm_u → Prop, zI X d 82 [.inr 5, .inl s1] μ G ∧ ∀ (r : Int32) (μ1 : zm_u), G r μ1 → zV X d 68 160 [] [.inl r] μ1 (zpi P)) :
    zV X d 68 157 [] [.inl s1, .inr 5] μ (zpi P) :=
  (by obtain ⟨G, he, hk⟩ := h0; exact zm_callV (as := [.inr 5, .inl s1]) (rest := []) (P := zpi G) (nx := 160) (a := 82) (b := 2) (k := 5) (sw := []) (zq_of (by decide +kernel)) rfl rfl rfl he (fun _ μ1 hp => by obtain ⟨v, rfl, hp⟩ := hp; exact (zm_V_pick [] rfl (hk v μ1 hp))))

theorem k68_173 {X : zm_T} {d : Nat} {s0 : Int32} {μ : zm_u} {P : Int32 → zm_u → Prop}
    (h0 : P s0 μ) :
    zV X d 68 173 [] [.inl s0] μ (zpi P) :=
  (zm_iret (nx := 174) (a := 0) (b := 0) (k := 0) (sw := []) (zq_of (by decide +kernel)) ⟨_, rfl, h0⟩)

theorem k68_239 {X : zm_T} {d : Nat} {s1 s2 : Int32} {μ : zm_u} {P : Int32 → zm_u → Prop}
    (h0 : ∃ G : Int32 → zm_u → Prop, zI X d 76 [.inr 4, .inl s1, .inl s2] μ G ∧ ∀ (r : Int32) (μ1 : zm_u), G r μ1 → zV X d 68 242 [] [.inl r] μ1 (zpi P)) :
    zV X d 68 239 [] [.inl s2, .inl s1, .inr 4] μ (zpi P) :=
  (by obtain ⟨G, he, hk⟩ := h0; exact zm_callV (as := [.inr 4, .inl s1, .inl s2]) (rest := []) (P := zpi G) (nx := 242) (a := 76) (b := 3) (k := 4) (sw := []) (zq_of (by decide +kernel)) rfl rfl rfl he (fun _ μ1 hp => by obtain ⟨v, rfl, hp⟩ := hp; exact (zm_V_pick [] rfl (hk v μ1 hp))))

theorem k68_160 {X : zm_T} {d : Nat} {s0 : Int32} {μ : zm_u} {P : Int32 → zm_u → Prop}
    (h0 : P s0 μ) :
    zV X d 68 160 [] [.inl s0] μ (zpi P) :=
  (zm_iret (nx := 161) (a := 0) (b := 0) (k := 0) (sw := []) (zq_of (by decide +kernel)) ⟨_, rfl, h0⟩)

theorem k68_242 {X : zm_T} {d : Nat} {s0 : Int32} {μ : zm_u} {P : Int32 → zm_u → Prop}
    (h0 : P s0 μ) :
    zV X d 68 242 [] [.inl s0] μ (zpi P) :=
  (zm_run [(242, 245, 19, 247, 0, 0, [])] _ _ _ _ [] 247 [] [.inl s0] μ (by decide +kernel) rfl rfl (zm_iret (nx := 248) (a := 0) (b := 0) (k := 0) (sw := []) (zq_of (by decide +kernel)) ⟨_, rfl, h0⟩))

theorem k69_0 {X : zm_T} {d : Nat} {v0 : Int32} {μ : zm_u} {P : Int32 → zm_u → Prop}
    (h0 : v0 = 6 → P (0 : Int32) μ)
    (h1 : ¬ v0 = 6 → v0 = 11 → P (1 : Int32) μ)
    (h2 : ¬ v0 = 6 → ¬ v0 = 11 → v0 = 12 → P (2 : Int32) μ)
    (h3 : ¬ v0 = 6 → ¬ v0 = 11 → ¬ v0 = 12 → P (4 : Int32) μ) :
    zV X d 69 0 [(0, .inl v0)] [] μ (zpi P) :=
  (zm_run [(0, 1, 1, 0, 0, 0, [])] _ _ _ _ [] 1 [(0, .inl v0)] [.inl v0] μ (by decide +kernel) rfl rfl (zm_switch (nx := 36) (a := 42) (b := 0) (k := 0) (sw := [(6, 36), (11, 38), (12, 40)]) (zq_of (by decide +kernel)) (zsw_e (fun z1 => (zm_run [(36, 37, 0, 0, 0, 0, [])] _ _ _ _ [] 37 [(0, .inl v0)] [.inl (0 : Int32)] μ (by decide +kernel) rfl rfl (zm_iret (nx := 38) (a := 0) (b := 0) (k := 0) (sw := []) (zq_of (by decide +kernel)) ⟨_, rfl, (h0 z1)⟩))) (fun z1 => (zsw_e (fun z2 => (zm_run [(38, 39, 0, 0, 0, 1, [])] _ _ _ _ [] 39 [(0, .inl v0)] [.inl (1 : Int32)] μ (by decide +kernel) rfl rfl (zm_iret (nx := 40) (a := 0) (b := 0) (k := 0) (sw := []) (zq_of (by decide +kernel)) ⟨_, rfl, (h1 z1 z2)⟩))) (fun z2 => (zsw_e (fun z3 => (zm_run [(40, 41, 0, 0, 0, 2, [])] _ _ _ _ [] 41 [(0, .inl v0)] [.inl (2 : Int32)] μ (by decide +kernel) rfl rfl (zm_iret (nx := 42) (a := 0) (b := 0) (k := 0) (sw := []) (zq_of (by decide +kernel)) ⟨_, rfl, (h2 z1 z2 z3)⟩))) (fun z3 => (zm_run [(42, 43, 0, 0, 0, 4, [])] _ _ _ _ [] 43 [(0, .inl v0)] [.inl (4 : Int32)] μ (by decide +kernel) rfl rfl (zm_iret (nx := 44) (a := 0) (b := 0) (k := 0) (sw := []) (zq_of (by decide +kernel)) ⟨_, rfl, (h3 z1 z2 z3)⟩))))))))))

set_option maxRecDepth 100000 in
theorem k70_0 {X : zm_T} {d : Nat} {v1 v2 : Int32} {μ : zm_u} {P : Int32 → zm_u → Prop}
    (h0 : v2 = 1 → ∃ G : Int32 → zm_u → Prop, zI X d 85 [.inr 5, .inl v1] μ G ∧ ∀ (r : Int32) (μ1 : zm_u), G r μ1 → zV X d 70 40 [] [.inl r] μ1 (zpi P))
    (h1 : ¬ v2 = 1 → v2 = 2 → ∃ G : Int32 → zm_u → Prop, zI X d 86 [.inr 5, .inl v1] μ G ∧ ∀ (r : Int32) (μ1 : zm_u), G r μ1 → zV X d 70 49 [] [.inl r] μ1 (zpi P))
    (h2 : ¬ v2 = 1 → ¬ v2 = 2 → v2 = 3 → ∃ G : Int32 → zm_u → Prop, zI X d 88 [.inr 5, .inl v1] μ G ∧ ∀ (r : Int32) (μ1 : zm_u), G r μ1 → zV X d 70 58 [] [.inl r] μ1 (zpi P))
    (h3 : ¬ v2 = 1 → ¬ v2 = 2 → ¬ v2 = 3 → v2 = 4 → ∃ G : Int32 → zm_u → Prop, zI X d 89 [.inr 5, .inl v1] μ G ∧ ∀ (r : Int32) (μ1 : zm_u), G r μ1 → zV X d 70 67 [] [.inl r] μ1 (zpi P))
    (h4 : ¬ v2 = 1 → ¬ v2 = 2 → ¬ v2 = 3 → ¬ v2 = 4 → P (1 : Int32) μ) :
    zV X d 70 0 [(0, .inr 4), (1, .inl v1), (2, .inl v2)] [] μ (zpi P) :=
  (zm_run [(0, 1, 1, 2, 0, 0, [])] _ _ _ _ [] 1 [(0, .inr 4), (1, .inl v1), (2, .inl v2)] [.inl v2] μ (by decide +kernel) rfl rfl (zm_switch (nx := 32) (a := 68) (b := 0) (k := 0) (sw := [(1, 32), (2, 41), (3, 50), (4, 59)]) (zq_of (by decide +kernel)) (zsw_e (fun z1 => (zm_run [(32, 33, 27, 0, 0, 0, []), (33, 36, 4, 1, 4, 0, []), (36, 37, 1, 1, 0, 0, [])] _ _ _ _ [] 37 [(0, .inr 4), (1, .inl v1), (2, .inl v2)] [.inl v1, .inr 5] μ (by decide +kernel) rfl rfl (by obtain ⟨G, he, hk⟩ := (h0 z1); exact zm_callV (as := [.inr 5, .inl v1]) (rest := []) (P := zpi G) (nx := 40) (a := 85) (b := 2) (k := 5) (sw := []) (zq_of (by decide +kernel)) rfl rfl rfl he (fun _ μ1 hp => by obtain ⟨v, rfl, hp⟩ := hp; exact (zm_V_pick [] rfl (hk v μ1 hp)))))) (fun z1 => (zsw_e (fun z2 => (zm_run [(41, 42, 27, 0, 0, 0, []), (42, 45, 4, 1, 4, 0, []), (45, 46, 1, 1, 0, 0, [])] _ _ _ _ [] 46 [(0, .inr 4), (1, .inl v1), (2, .inl v2)] [.inl v1, .inr 5] μ (by decide +kernel) rfl rfl (by obtain ⟨G, he, hk⟩ := (h1 z1 z2); exact zm_callV (as := [.inr 5, .inl v1]) (rest := []) (P := zpi G) (nx := 49) (a := 86) (b := 2) (k := 5) (sw := []) (zq_of (by decide +kernel)) rfl rfl rfl he (fun _ μ1 hp => by obtain ⟨v, rfl, hp⟩ := hp; exact (zm_V_pick [] rfl (hk v μ1 hp)))))) (fun z2 => (zsw_e (fun z3 => (zm_run [(50, 51, 27, 0, 0, 0, []), (51, 54, 4, 1, 4, 0, []), (54, 55, 1, 1, 0, 0, [])] _ _ _ _ [] 55 [(0, .inr 4), (1, .inl v1), (2, .inl v2)] [.inl v1, .inr 5] μ (by decide +kernel) rfl rfl (by obtain ⟨G, he, hk⟩ := (h2 z1 z2 z3); exact zm_callV (as := [.inr 5, .inl v1]) (rest := []) (P := zpi G) (nx := 58) (a := 88) (b := 2) (k := 5) (sw := []) (zq_of (by decide +kernel)) rfl rfl rfl he (fun _ μ1 hp => by obtain ⟨v, rfl, hp⟩ := hp; exact (zm_V_pick [] rfl (hk v μ1 hp)))))) (fun z3 => (zsw_e (fun z4 => (zm_run [(59, 60, 27, 0, 0, 0, []), (60, 63, 4, 1, 4, 0, []), (63, 64, 1, 1, 0, 0, [])] _ _ _ _ [] 64 [(0, .inr 4), (1, .inl v1), (2, .inl v2)] [.inl v1, .inr 5] μ (by decide +kernel) rfl rfl (by obtain ⟨G, he, hk⟩ := (h3 z1 z2 z3 z4); exact zm_callV (as := [.inr 5, .inl v1]) (rest := []) (P := zpi G) (nx := 67) (a := 89) (b := 2) (k := 5) (sw := []) (zq_of (by decide +kernel)) rfl rfl rfl he (fun _ μ1 hp => by obtain ⟨v, rfl, hp⟩ := hp; exact (zm_V_pick [] rfl (hk v μ1 hp)))))) (fun z4 => (zm_run [(68, 69, 0, 0, 0, 1, [])] _ _ _ _ [] 69 [(0, .inr 4), (1, .inl v1), (2, .inl v2)] [.inl (1 : Int32)] μ (by decide +kernel) rfl rfl (zm_zret (nx := 70) (a := 0) (b := 0) (k := 0) (sw := []) (zq_of (by decide +kernel)) (Or.inr rfl) ⟨_, rfl, (h4 z1 z2 z3 z4)⟩))))))))))))

theorem k70_40 {X : zm_T} {d : Nat} {s0 : Int32} {μ : zm_u} {P : Int32 → zm_u → Prop}
    (h0 : s0 = 0 ∨ s0 = 1)
    (h1 : P s0 μ) :
    zV X d 70 40 [] [.inl s0] μ (zpi P) :=
  (zm_zret (nx := 41) (a := 0) (b := 0) (k := 0) (sw := []) (zq_of (by decide +kernel)) h0 ⟨_, rfl, h1⟩)

theorem k70_49 {X : zm_T} {d : Nat} {s0 : Int32} {μ : zm_u} {P : Int32 → zm_u → Prop}
    (h0 : s0 = 0 ∨ s0 = 1)
    (h1 : P s0 μ) :
    zV X d 70 49 [] [.inl s0] μ (zpi P) :=
  (zm_zret (nx := 50) (a := 0) (b := 0) (k := 0) (sw := []) (zq_of (by decide +kernel)) h0 ⟨_, rfl, h1⟩)

theorem k70_58 {X : zm_T} {d : Nat} {s0 : Int32} {μ : zm_u} {P : Int32 → zm_u → Prop}
    (h0 : s0 = 0 ∨ s0 = 1)
    (h1 : P s0 μ) :
    zV X d 70 58 [] [.inl s0] μ (zpi P) :=
  (zm_zret (nx := 59) (a := 0) (b := 0) (k := 0) (sw := []) (zq_of (by decide +kernel)) h0 ⟨_, rfl, h1⟩)

theorem k70_67 {X : zm_T} {d : Nat} {s0 : Int32} {μ : zm_u} {P : Int32 → zm_u → Prop}
    (h0 : s0 = 0 ∨ s0 = 1)
    (h1 : P s0 μ) :
    zV X d 70 67 [] [.inl s0] μ (zpi P) :=
  (zm_zret (nx := 68) (a := 0) (b := 0) (k := 0) (sw := []) (zq_of (by decide +kernel)) h0 ⟨_, rfl, h1⟩)

theorem k71_0 {X : zm_T} {d : Nat} {v1 v2 v3 : Int32} {μ : zm_u} {P : Int32 → zm_u → Prop}
    (h0 : ∃ G : Int32 → zm_u → Prop, zI X d 34 [.inr 2, .inl v1, .inl v2] μ G ∧ ∀ (r : Int32) (μ1 : zm_u), G r μ1 → zV X d 71 10 [(0, .inr 4), (3, .inl v3)] [.inl r, .inr 4] μ1 (zpi P)) :
    zV X d 71 0 [(0, .inr 4), (1, .inl v1), (2, .inl v2), (3, .inl v3)] [] μ (zpi P) :=
  (zm_run [(0, 1, 27, 0, 0, 0, []), (1, 2, 27, 0, 0, 0, []), (2, 5, 4, 0, 4, 0, []), (5, 6, 1, 1, 0, 0, []), (6, 7, 1, 2, 0, 0, [])] _ _ _ _ [] 7 [(0, .inr 4), (1, .inl v1), (2, .inl v2), (3, .inl v3)] [.inl v2, .inl v1, .inr 2, .inr 4] μ (by decide +kernel) rfl rfl (by obtain ⟨G, he, hk⟩ := h0; exact zm_callV (as := [.inr 2, .inl v1, .inl v2]) (rest := [.inr 4]) (P := zpi G) (nx := 10) (a := 34) (b := 3) (k := 2) (sw := []) (zq_of (by decide +kernel)) rfl rfl rfl he (fun _ μ1 hp => by obtain ⟨v, rfl, hp⟩ := hp; exact (zm_V_pick [0, 3] rfl (hk v μ1 hp)))))

theorem k71_10 {X : zm_T} {d : Nat} {s1 v3 : Int32} {μ : zm_u} {P : Int32 → zm_u → Prop}
    (h0 : ∃ G : Int32 → zm_u → Prop, zI X d 68 [.inr 4, .inl s1] μ G ∧ ∀ (r : Int32) (μ1 : zm_u), G r μ1 → zV X d 71 13 [(0, .inr 4), (3, .inl v3)] [.inl r] μ1 (zpi P)) :
    zV X d 71 10 [(0, .inr 4), (3, .inl v3)] [.inl s1, .inr 4] μ (zpi P) :=
  (by obtain ⟨G, he, hk⟩ := h0; exact zm_callV (as := [.inr 4, .inl s1]) (rest := []) (P := zpi G) (nx := 13) (a := 68) (b := 2) (k := 4) (sw := []) (zq_of (by decide +kernel)) rfl rfl rfl he (fun _ μ1 hp => by obtain ⟨v, rfl, hp⟩ := hp; exact (zm_V_pick [0, 3] rfl (hk v μ1 hp))))

theorem k71_13 {X : zm_T} {d : Nat} {s0 v3 : Int32} {μ : zm_u} {P : Int32 → zm_u → Prop}
    (h0 : s0 < 0 → P s0 μ)
    (h1 : ¬ (s0 < 0) → ∃ G : Int32 → zm_u → Prop, zI X d 70 [.inr 4, .inl s0, .inl v3] μ G ∧ ∀ (r : Int32) (μ1 : zm_u), G r μ1 → zV X d 71 27 [(4, .inl s0)] [.inl r] μ1 (zpi P)) :
    zV X d 71 13 [(0, .inr 4), (3, .inl v3)] [.inl s0] μ (zpi P) :=
  (zm_run [(13, 15, 2, 4, 0, 0, []), (15, 17, 1, 4, 0, 0, [])] _ _ _ _ [] 17 [(0, .inr 4), (3, .inl v3), (4, .inl s0)] [.inl s0] μ (by decide +kernel) rfl rfl (zm_if (nx := 20) (a := 30) (b := 2) (k := 0) (sw := []) (zq_of (by decide +kernel)) (fun z1 => (zm_run [(30, 32, 1, 4, 0, 0, []), (32, 35, 19, 37, 0, 0, [])] _ _ _ _ [] 37 [(0, .inr 4), (3, .inl v3), (4, .inl s0)] [.inl s0] μ (by decide +kernel) rfl rfl (zm_iret (nx := 38) (a := 0) (b := 0) (k := 0) (sw := []) (zq_of (by decide +kernel)) ⟨_, rfl, (h0 (of_decide_eq_true z1))⟩))) (fun z1 => (zm_run [(20, 21, 27, 0, 0, 0, []), (21, 23, 1, 4, 0, 0, []), (23, 24, 1, 3, 0, 0, [])] _ _ _ _ [] 24 [(0, .inr 4), (3, .inl v3), (4, .inl s0)] [.inl v3, .inl s0, .inr 4] μ (by decide +kernel) rfl rfl (by obtain ⟨G, he, hk⟩ := (h1 (of_decide_eq_false z1)); exact zm_callV (as := [.inr 4, .inl s0, .inl v3]) (rest := []) (P := zpi G) (nx := 27) (a := 70) (b := 3) (k := 4) (sw := []) (zq_of (by decide +kernel)) rfl rfl rfl he (fun _ μ1 hp => by obtain ⟨v, rfl, hp⟩ := hp; exact (zm_V_pick [4] rfl (hk v μ1 hp))))))))

theorem k71_27 {X : zm_T} {d : Nat} {s0 v4 : Int32} {μ : zm_u} {P : Int32 → zm_u → Prop}
    (h0 : s0 = 0 → P (-2 : Int32) μ)
    (h1 : ¬ (s0 = 0) → P v4 μ) :
    zV X d 71 27 [(4, .inl v4)] [.inl s0] μ (zpi P) :=
  (zm_if (nx := 30) (a := 35) (b := 0) (k := 0) (sw := []) (zq_of (by decide +kernel)) (fun z1 => (zm_run [(35, 37, 0, 0, 0, (-2), [])] _ _ _ _ [] 37 [(4, .inl v4)] [.inl (-2 : Int32)] μ (by decide +kernel) rfl rfl (zm_iret (nx := 38) (a := 0) (b := 0) (k := 0) (sw := []) (zq_of (by decide +kernel)) ⟨_, rfl, (h0 (of_decide_eq_true z1))⟩))) (fun z1 => (zm_run [(30, 32, 1, 4, 0, 0, []), (32, 35, 19, 37, 0, 0, [])] _ _ _ _ [] 37 [(4, .inl v4)] [.inl v4] μ (by decide +kernel) rfl rfl (zm_iret (nx := 38) (a := 0) (b := 0) (k := 0) (sw := []) (zq_of (by decide +kernel)) ⟨_, rfl, (h1 (of_decide_eq_false z1))⟩))))

theorem k72_0 {X : zm_T} {d : Nat} {v1 : Int32} {μ : zm_u} {P : Int32 → zm_u → Prop}
    (h0 : v1 < 0 → P (-2 : Int32) μ)
    (h1 : ¬ (v1 < 0) → ((μ 4 4) - (μ 4 3)) ≤ v1 → P (-2 : Int32) μ)
    (h2 : ¬ (v1 < 0) → ¬ (((μ 4 4) - (μ 4 3)) ≤ v1) → 0 ≤ (((μ 4 3) + v1)).toInt ∧ (((μ 4 3) + v1)).toInt < ((79 : Nat) : Int))
    (h3 : ¬ (v1 < 0) → ¬ (((μ 4 4) - (μ 4 3)) ≤ v1) → P (μ 15 (((μ 4 3) + v1)).toNatClampNeg) μ) :
    zV X d 72 0 [(0, .inr 4), (1, .inl v1)] [] μ (zpi P) :=
  (zm_run [(0, 1, 1, 1, 0, 0, [])] _ _ _ _ [] 1 [(0, .inr 4), (1, .inl v1)] [.inl v1] μ (by decide +kernel) rfl rfl (zm_if (nx := 4) (a := 31) (b := 2) (k := 0) (sw := []) (zq_of (by decide +kernel)) (fun z1 => (zm_run [(31, 33, 0, 0, 0, (-2), [])] _ _ _ _ [] 33 [(0, .inr 4), (1, .inl v1)] [.inl (-2 : Int32)] μ (by decide +kernel) rfl rfl (zm_iret (nx := 34) (a := 0) (b := 0) (k := 0) (sw := []) (zq_of (by decide +kernel)) ⟨_, rfl, (h0 (of_decide_eq_true z1))⟩))) (fun z1 => (zm_run [(4, 5, 1, 1, 0, 0, []), (5, 6, 27, 0, 0, 0, []), (6, 9, 4, 4, 4, 0, []), (9, 10, 27, 0, 0, 0, []), (10, 13, 4, 3, 4, 0, []), (13, 14, 11, 0, 0, 0, [])] _ _ _ _ [] 14 [(0, .inr 4), (1, .inl v1)] [.inl ((μ 4 4) - (μ 4 3)), .inl v1] μ (by decide +kernel) rfl rfl (zm_icmp (nx := 17) (a := 31) (b := 3) (k := 0) (sw := []) (zq_of (by decide +kernel)) (fun z2 => (zm_run [(31, 33, 0, 0, 0, (-2), [])] _ _ _ _ [] 33 [(0, .inr 4), (1, .inl v1)] [.inl (-2 : Int32)] μ (by decide +kernel) rfl rfl (zm_iret (nx := 34) (a := 0) (b := 0) (k := 0) (sw := []) (zq_of (by decide +kernel)) ⟨_, rfl, (h1 (of_decide_eq_false z1) (of_decide_eq_true z2))⟩))) (fun z2 => (zm_run [(17, 18, 27, 0, 0, 0, []), (18, 21, 4, 2, 4, 0, []), (21, 22, 27, 0, 0, 0, []), (22, 25, 4, 3, 4, 0, []), (25, 26, 1, 1, 0, 0, []), (26, 27, 10, 0, 0, 0, []), (27, 28, 6, 0, 0, 0, []), (28, 31, 19, 33, 0, 0, [])] _ _ _ _ [decide (0 ≤ (((μ 4 3) + v1)).toInt ∧ (((μ 4 3) + v1)).toInt < ((79 : Nat) : Int))] 33 [(0, .inr 4), (1, .inl v1)] [.inl (μ 15 (((μ 4 3) + v1)).toNatClampNeg)] μ (by decide +kernel) rfl (zm_bc (h2 (of_decide_eq_false z1) (of_decide_eq_false z2)) rfl) (zm_iret (nx := 34) (a := 0) (b := 0) (k := 0) (sw := []) (zq_of (by decide +kernel)) ⟨_, rfl, (h3 (of_decide_eq_false z1) (of_decide_eq_false z2))⟩))))))))

theorem k73_0 {X : zm_T} {d : Nat} {v1 : Int32} {μ : zm_u} {P : Int32 → zm_u → Prop}
    (h0 : ∃ G : Int32 → zm_u → Prop, zI X d 71 [.inr 4, .inl v1, .inl (0 : Int32), .inl (1 : Int32)] μ G ∧ ∀ (r : Int32) (μ1 : zm_u), G r μ1 → zV X d 73 7 [(0, .inr 4), (1, .inl v1)] [.inl r] μ1 (zpi P)) :
    zV X d 73 0 [(0, .inr 4), (1, .inl v1)] [] μ (zpi P) :=
  (zm_run [(0, 1, 27, 0, 0, 0, []), (1, 2, 1, 1, 0, 0, []), (2, 3, 0, 0, 0, 0, []), (3, 4, 0, 0, 0, 1, [])] _ _ _ _ [] 4 [(0, .inr 4), (1, .inl v1)] [.inl (1 : Int32), .inl (0 : Int32), .inl v1, .inr 4] μ (by decide +kernel) rfl rfl (by obtain ⟨G, he, hk⟩ := h0; exact zm_callV (as := [.inr 4, .inl v1, .inl (0 : Int32), .inl (1 : Int32)]) (rest := []) (P := zpi G) (nx := 7) (a := 71) (b := 4) (k := 4) (sw := []) (zq_of (by decide +kernel)) rfl rfl rfl he (fun _ μ1 hp => by obtain ⟨v, rfl, hp⟩ := hp; exact (zm_V_pick [0, 1] rfl (hk v μ1 hp)))))

theorem k73_7 {X : zm_T} {d : Nat} {s0 v1 : Int32} {μ : zm_u} {P : Int32 → zm_u → Prop}
    (h0 : 0 ≤ s0 → ∃ G : Int32 → zm_u → Prop, zI X d 71 [.inr 4, .inl v1, .inl (1 : Int32), .inl (1 : Int32)] μ G ∧ ∀ (r : Int32) (μ1 : zm_u), G r μ1 → zV X d 73 21 [(0, .inr 4), (1, .inl v1), (2, .inl s0)] [.inl r] μ1 (zpi P))
    (h1 : ¬ (0 ≤ s0) → P s0 μ) :
    zV X d 73 7 [(0, .inr 4), (1, .inl v1)] [.inl s0] μ (zpi P) :=
  (zm_run [(7, 8, 2, 2, 0, 0, []), (8, 9, 1, 2, 0, 0, [])] _ _ _ _ [] 9 [(0, .inr 4), (1, .inl v1), (2, .inl s0)] [.inl s0] μ (by decide +kernel) rfl rfl (zm_if (nx := 12) (a := 14) (b := 3) (k := 0) (sw := []) (zq_of (by decide +kernel)) (fun z1 => (zm_run [(14, 15, 27, 0, 0, 0, []), (15, 16, 1, 1, 0, 0, []), (16, 17, 0, 0, 0, 1, []), (17, 18, 0, 0, 0, 1, [])] _ _ _ _ [] 18 [(0, .inr 4), (1, .inl v1), (2, .inl s0)] [.inl (1 : Int32), .inl (1 : Int32), .inl v1, .inr 4] μ (by decide +kernel) rfl rfl (by obtain ⟨G, he, hk⟩ := (h0 (of_decide_eq_true z1)); exact zm_callV (as := [.inr 4, .inl v1, .inl (1 : Int32), .inl (1 : Int32)]) (rest := []) (P := zpi G) (nx := 21) (a := 71) (b := 4) (k := 4) (sw := []) (zq_of (by decide +kernel)) rfl rfl rfl he (fun _ μ1 hp => by obtain ⟨v, rfl, hp⟩ := hp; exact (zm_V_pick [0, 1, 2] rfl (hk v μ1 hp)))))) (fun z1 => (zm_run [(12, 13, 1, 2, 0, 0, [])] _ _ _ _ [] 13 [(0, .inr 4), (1, .inl v1), (2, .inl s0)] [.inl s0] μ (by decide +kernel) rfl rfl (zm_iret (nx := 14) (a := 0) (b := 0) (k := 0) (sw := []) (zq_of (by decide +kernel)) ⟨_, rfl, (h1 (of_decide_eq_false z1))⟩)))))

theorem k73_21 {X : zm_T} {d : Nat} {s0 v1 v2 : Int32} {μ : zm_u} {P : Int32 → zm_u → Prop}
    (h0 : 0 ≤ s0 → ∃ G : Int32 → zm_u → Prop, zI X d 91 [.inr 5, .inl v2] μ G ∧ ∀ (r : Int32) (μ1 : zm_u), G r μ1 → zV X d 73 36 [(0, .inr 4), (1, .inl v1), (3, .inl s0)] [.inl r] μ1 (zpi P))
    (h1 : ¬ (0 ≤ s0) → P s0 μ) :
    zV X d 73 21 [(0, .inr 4), (1, .inl v1), (2, .inl v2)] [.inl s0] μ (zpi P) :=
  (zm_run [(21, 22, 2, 3, 0, 0, []), (22, 23, 1, 3, 0, 0, [])] _ _ _ _ [] 23 [(0, .inr 4), (1, .inl v1), (2, .inl v2), (3, .inl s0)] [.inl s0] μ (by decide +kernel) rfl rfl (zm_if (nx := 26) (a := 28) (b := 3) (k := 0) (sw := []) (zq_of (by decide +kernel)) (fun z1 => (zm_run [(28, 29, 27, 0, 0, 0, []), (29, 32, 4, 1, 4, 0, []), (32, 33, 1, 2, 0, 0, [])] _ _ _ _ [] 33 [(0, .inr 4), (1, .inl v1), (2, .inl v2), (3, .inl s0)] [.inl v2, .inr 5] μ (by decide +kernel) rfl rfl (by obtain ⟨G, he, hk⟩ := (h0 (of_decide_eq_true z1)); exact zm_callV (as := [.inr 5, .inl v2]) (rest := []) (P := zpi G) (nx := 36) (a := 91) (b := 2) (k := 5) (sw := []) (zq_of (by decide +kernel)) rfl rfl rfl he (fun _ μ1 hp => by obtain ⟨v, rfl, hp⟩ := hp; exact (zm_V_pick [0, 1, 3] rfl (hk v μ1 hp)))))) (fun z1 => (zm_run [(26, 27, 1, 3, 0, 0, [])] _ _ _ _ [] 27 [(0, .inr 4), (1, .inl v1), (2, .inl v2), (3, .inl s0)] [.inl s0] μ (by decide +kernel) rfl rfl (zm_iret (nx := 28) (a := 0) (b := 0) (k := 0) (sw := []) (zq_of (by decide +kernel)) ⟨_, rfl, (h1 (of_decide_eq_false z1))⟩)))))

theorem k73_36 {X : zm_T} {d : Nat} {s0 v1 v3 : Int32} {μ : zm_u} {P : Int32 → zm_u → Prop}
    (h0 : ∃ G : Int32 → zm_u → Prop, zI X d 91 [.inr 5, .inl v3] μ G ∧ ∀ (r : Int32) (μ1 : zm_u), G r μ1 → zV X d 73 46 [(0, .inr 4), (1, .inl v1), (4, .inl s0)] [.inl r] μ1 (zpi P)) :
    zV X d 73 36 [(0, .inr 4), (1, .inl v1), (3, .inl v3)] [.inl s0] μ (zpi P) :=
  (zm_run [(36, 38, 2, 4, 0, 0, []), (38, 39, 27, 0, 0, 0, []), (39, 42, 4, 1, 4, 0, []), (42, 43, 1, 3, 0, 0, [])] _ _ _ _ [] 43 [(0, .inr 4), (1, .inl v1), (3, .inl v3), (4, .inl s0)] [.inl v3, .inr 5] μ (by decide +kernel) rfl rfl (by obtain ⟨G, he, hk⟩ := h0; exact zm_callV (as := [.inr 5, .inl v3]) (rest := []) (P := zpi G) (nx := 46) (a := 91) (b := 2) (k := 5) (sw := []) (zq_of (by decide +kernel)) rfl rfl rfl he (fun _ μ1 hp => by obtain ⟨v, rfl, hp⟩ := hp; exact (zm_V_pick [0, 1, 4] rfl (hk v μ1 hp)))))

theorem k73_46 {X : zm_T} {d : Nat} {s0 v1 v4 : Int32} {μ : zm_u} {P : Int32 → zm_u → Prop}
    (h0 : ∃ G : Int32 → zm_u → Prop, zI X d 32 [.inr 2, .inl v1] μ G ∧ ∀ (r : Int32) (μ1 : zm_u), G r μ1 → zV X d 73 56 [(0, .inr 4), (4, .inl v4), (5, .inl s0)] [.inl r] μ1 (zpi P)) :
    zV X d 73 46 [(0, .inr 4), (1, .inl v1), (4, .inl v4)] [.inl s0] μ (zpi P) :=
  (zm_run [(46, 48, 2, 5, 0, 0, []), (48, 49, 27, 0, 0, 0, []), (49, 52, 4, 0, 4, 0, []), (52, 53, 1, 1, 0, 0, [])] _ _ _ _ [] 53 [(0, .inr 4), (1, .inl v1), (4, .inl v4), (5, .inl s0)] [.inl v1, .inr 2] μ (by decide +kernel) rfl rfl (by obtain ⟨G, he, hk⟩ := h0; exact zm_callV (as := [.inr 2, .inl v1]) (rest := []) (P := zpi G) (nx := 56) (a := 32) (b := 2) (k := 2) (sw := []) (zq_of (by decide +kernel)) rfl rfl rfl he (fun _ μ1 hp => by obtain ⟨v, rfl, hp⟩ := hp; exact (zm_V_pick [0, 4, 5] rfl (hk v μ1 hp)))))

theorem k73_56 {X : zm_T} {d : Nat} {s0 v4 v5 : Int32} {μ : zm_u} {P : Int32 → zm_u → Prop}
    (h0 : ¬ s0 = (3 : Int32) → v5 ≤ v4 → zV X d 73 91 [] [.inl (0 : Int32), .inr 5] μ (zpi P))
    (h1 : ¬ s0 = (3 : Int32) → ¬ (v5 ≤ v4) → zV X d 73 91 [] [.inl (1 : Int32), .inr 5] μ (zpi P))
    (h2 : s0 = (3 : Int32) → ∃ G : Int32 → zm_u → Prop, zI X d 81 [.inr 5, .inl (v4 + v5)] μ G ∧ ∀ (r : Int32) (μ1 : zm_u), G r μ1 → zV X d 73 72 [] [.inl r] μ1 (zpi P)) :
    zV X d 73 56 [(0, .inr 4), (4, .inl v4), (5, .inl v5)] [.inl s0] μ (zpi P) :=
  (zm_run [(56, 57, 0, 0, 0, 3, [])] _ _ _ _ [] 57 [(0, .inr 4), (4, .inl v4), (5, .inl v5)] [.inl (3 : Int32), .inl s0] μ (by decide +kernel) rfl rfl (zm_icmp (nx := 60) (a := 75) (b := 1) (k := 0) (sw := []) (zq_of (by decide +kernel)) (fun z1 => (zm_run [(75, 76, 27, 0, 0, 0, []), (76, 79, 4, 1, 4, 0, []), (79, 81, 1, 4, 0, 0, []), (81, 83, 1, 5, 0, 0, [])] _ _ _ _ [] 83 [(0, .inr 4), (4, .inl v4), (5, .inl v5)] [.inl v5, .inl v4, .inr 5] μ (by decide +kernel) rfl rfl (zm_icmp (nx := 86) (a := 90) (b := 3) (k := 0) (sw := []) (zq_of (by decide +kernel)) (fun z2 => (zm_run [(90, 91, 0, 0, 0, 0, [])] _ _ _ _ [] 91 [(0, .inr 4), (4, .inl v4), (5, .inl v5)] [.inl (0 : Int32), .inr 5] μ (by decide +kernel) rfl rfl (zm_V_pick [] rfl (h0 (of_decide_eq_true z1) (of_decide_eq_true z2))))) (fun z2 => (zm_run [(86, 87, 0, 0, 0, 1, []), (87, 90, 19, 91, 0, 0, [])] _ _ _ _ [] 91 [(0, .inr 4), (4, .inl v4), (5, .inl v5)] [.inl (1 : Int32), .inr 5] μ (by decide +kernel) rfl rfl (zm_V_pick [] rfl (h1 (of_decide_eq_true z1) (of_decide_eq_false z2)))))))) (fun z1 => (zm_run [(60, 61, 27, 0, 0, 0, []), (61, 64, 4, 1, 4, 0, []), (64, 66, 1, 4, 0, 0, []), (66, 68, 1, 5, 0, 0, []), (68, 69, 10, 0, 0, 0, [])] _ _ _ _ [] 69 [(0, .inr 4), (4, .inl v4), (5, .inl v5)] [.inl (v4 + v5), .inr 5] μ (by decide +kernel) rfl rfl (by obtain ⟨G, he, hk⟩ := (h2 (Classical.byContradiction fun w => (of_decide_eq_false z1) w)); exact zm_callV (as := [.inr 5, .inl (v4 + v5)]) (rest := []) (P := zpi G) (nx := 72) (a := 81) (b := 2) (k := 5) (sw := []) (zq_of (by decide +kernel)) rfl rfl rfl he (fun _ μ1 hp => by obtain ⟨v, rfl, hp⟩ := hp; exact (zm_V_pick [] rfl (hk v μ1 hp))))))))

theorem k73_91 {X : zm_T} {d : Nat} {s1 : Int32} {μ : zm_u} {P : Int32 → zm_u → Prop}
    (h0 : ∃ G : Int32 → zm_u → Prop, zI X d 82 [.inr 5, .inl s1] μ G ∧ ∀ (r : Int32) (μ1 : zm_u), G r μ1 → zV X d 73 94 [] [.inl r] μ1 (zpi P)) :
    zV X d 73 91 [] [.inl s1, .inr 5] μ (zpi P) :=
  (by obtain ⟨G, he, hk⟩ := h0; exact zm_callV (as := [.inr 5, .inl s1]) (rest := []) (P := zpi G) (nx := 94) (a := 82) (b := 2) (k := 5) (sw := []) (zq_of (by decide +kernel)) rfl rfl rfl he (fun _ μ1 hp => by obtain ⟨v, rfl, hp⟩ := hp; exact (zm_V_pick [] rfl (hk v μ1 hp))))

theorem k73_72 {X : zm_T} {d : Nat} {s0 : Int32} {μ : zm_u} {P : Int32 → zm_u → Prop}
    (h0 : zV X d 73 94 [] [.inl s0] μ (zpi P)) :
    zV X d 73 72 [] [.inl s0] μ (zpi P) :=
  (zm_run [(72, 75, 19, 94, 0, 0, [])] _ _ _ _ [] 94 [] [.inl s0] μ (by decide +kernel) rfl rfl (zm_V_pick [] rfl h0))

theorem k73_94 {X : zm_T} {d : Nat} {s0 : Int32} {μ : zm_u} {P : Int32 → zm_u → Prop}
    (h0 : P s0 μ) :
    zV X d 73 94 [] [.inl s0] μ (zpi P) :=
  (zm_iret (nx := 95) (a := 0) (b := 0) (k := 0) (sw := []) (zq_of (by decide +kernel)) ⟨_, rfl, h0⟩)

theorem k74_0 {X : zm_T} {d : Nat} {v1 : Int32} {μ : zm_u} {P : Int32 → zm_u → Prop}
    (h0 : ∃ G : Int32 → zm_u → Prop, zI X d 71 [.inr 4, .inl v1, .inl (0 : Int32), .inl (2 : Int32)] μ G ∧ ∀ (r : Int32) (μ1 : zm_u), G r μ1 → zV X d 74 7 [(0, .inr 4), (1, .inl v1)] [.inl r] μ1 (zpi P)) :
    zV X d 74 0 [(0, .inr 4), (1, .inl v1)] [] μ (zpi P) :=
  (zm_run [(0, 1, 27, 0, 0, 0, []), (1, 2, 1, 1, 0, 0, []), (2, 3, 0, 0, 0, 0, []), (3, 4, 0, 0, 0, 2, [])] _ _ _ _ [] 4 [(0, .inr 4), (1, .inl v1)] [.inl (2 : Int32), .inl (0 : Int32), .inl v1, .inr 4] μ (by decide +kernel) rfl rfl (by obtain ⟨G, he, hk⟩ := h0; exact zm_callV (as := [.inr 4, .inl v1, .inl (0 : Int32), .inl (2 : Int32)]) (rest := []) (P := zpi G) (nx := 7) (a := 71) (b := 4) (k := 4) (sw := []) (zq_of (by decide +kernel)) rfl rfl rfl he (fun _ μ1 hp => by obtain ⟨v, rfl, hp⟩ := hp; exact (zm_V_pick [0, 1] rfl (hk v μ1 hp)))))

theorem k74_7 {X : zm_T} {d : Nat} {s0 v1 : Int32} {μ : zm_u} {P : Int32 → zm_u → Prop}
    (h0 : 0 ≤ s0 → ∃ G : Int32 → zm_u → Prop, zI X d 87 [.inr 5, .inl s0] μ G ∧ ∀ (r : Int32) (μ1 : zm_u), G r μ1 → zV X d 74 24 [] [.inl r, .inl v1, .inr 4] μ1 (zpi P))
    (h1 : ¬ (0 ≤ s0) → P s0 μ) :
    zV X d 74 7 [(0, .inr 4), (1, .inl v1)] [.inl s0] μ (zpi P) :=
  (zm_run [(7, 8, 2, 2, 0, 0, []), (8, 9, 1, 2, 0, 0, [])] _ _ _ _ [] 9 [(0, .inr 4), (1, .inl v1), (2, .inl s0)] [.inl s0] μ (by decide +kernel) rfl rfl (zm_if (nx := 12) (a := 14) (b := 3) (k := 0) (sw := []) (zq_of (by decide +kernel)) (fun z1 => (zm_run [(14, 15, 27, 0, 0, 0, []), (15, 16, 1, 1, 0, 0, []), (16, 17, 27, 0, 0, 0, []), (17, 20, 4, 1, 4, 0, []), (20, 21, 1, 2, 0, 0, [])] _ _ _ _ [] 21 [(0, .inr 4), (1, .inl v1), (2, .inl s0)] [.inl s0, .inr 5, .inl v1, .inr 4] μ (by decide +kernel) rfl rfl (by obtain ⟨G, he, hk⟩ := (h0 (of_decide_eq_true z1)); exact zm_callV (as := [.inr 5, .inl s0]) (rest := [.inl v1, .inr 4]) (P := zpi G) (nx := 24) (a := 87) (b := 2) (k := 5) (sw := []) (zq_of (by decide +kernel)) rfl rfl rfl he (fun _ μ1 hp => by obtain ⟨v, rfl, hp⟩ := hp; exact (zm_V_pick [] rfl (hk v μ1 hp)))))) (fun z1 => (zm_run [(12, 13, 1, 2, 0, 0, [])] _ _ _ _ [] 13 [(0, .inr 4), (1, .inl v1), (2, .inl s0)] [.inl s0] μ (by decide +kernel) rfl rfl (zm_iret (nx := 14) (a := 0) (b := 0) (k := 0) (sw := []) (zq_of (by decide +kernel)) ⟨_, rfl, (h1 (of_decide_eq_false z1))⟩)))))

theorem k74_24 {X : zm_T} {d : Nat} {s1 s2 : Int32} {μ : zm_u} {P : Int32 → zm_u → Prop}
    (h0 : s2 = 0 → zV X d 74 32 [] [.inl (2 : Int32), .inl s1, .inr 4] μ (zpi P))
    (h1 : ¬ (s2 = 0) → zV X d 74 32 [] [.inl (1 : Int32), .inl s1, .inr 4] μ (zpi P)) :
    zV X d 74 24 [] [.inl s2, .inl s1, .inr 4] μ (zpi P) :=
  (zm_if (nx := 27) (a := 31) (b := 0) (k := 0) (sw := []) (zq_of (by decide +kernel)) (fun z1 => (zm_run [(31, 32, 0, 0, 0, 2, [])] _ _ _ _ [] 32 [] [.inl (2 : Int32), .inl s1, .inr 4] μ (by decide +kernel) rfl rfl (zm_V_pick [] rfl (h0 (of_decide_eq_true z1))))) (fun z1 => (zm_run [(27, 28, 0, 0, 0, 1, []), (28, 31, 19, 32, 0, 0, [])] _ _ _ _ [] 32 [] [.inl (1 : Int32), .inl s1, .inr 4] μ (by decide +kernel) rfl rfl (zm_V_pick [] rfl (h1 (of_decide_eq_false z1))))))

theorem k74_32 {X : zm_T} {d : Nat} {s1 s2 : Int32} {μ : zm_u} {P : Int32 → zm_u → Prop}
    (h0 : ∃ G : Int32 → zm_u → Prop, zI X d 71 [.inr 4, .inl s1, .inl s2, .inl (0 : Int32)] μ G ∧ ∀ (r : Int32) (μ1 : zm_u), G r μ1 → zV X d 74 36 [] [.inl r] μ1 (zpi P)) :
    zV X d 74 32 [] [.inl s2, .inl s1, .inr 4] μ (zpi P) :=
  (zm_run [(32, 33, 0, 0, 0, 0, [])] _ _ _ _ [] 33 [] [.inl (0 : Int32), .inl s2, .inl s1, .inr 4] μ (by decide +kernel) rfl rfl (by obtain ⟨G, he, hk⟩ := h0; exact zm_callV (as := [.inr 4, .inl s1, .inl s2, .inl (0 : Int32)]) (rest := []) (P := zpi G) (nx := 36) (a := 71) (b := 4) (k := 4) (sw := []) (zq_of (by decide +kernel)) rfl rfl rfl he (fun _ μ1 hp => by obtain ⟨v, rfl, hp⟩ := hp; exact (zm_V_pick [] rfl (hk v μ1 hp)))))

theorem k74_36 {X : zm_T} {d : Nat} {s0 : Int32} {μ : zm_u} {P : Int32 → zm_u → Prop}
    (h0 : P s0 μ) :
    zV X d 74 36 [] [.inl s0] μ (zpi P) :=
  (zm_iret (nx := 37) (a := 0) (b := 0) (k := 0) (sw := []) (zq_of (by decide +kernel)) ⟨_, rfl, h0⟩)

theorem k75_0 {X : zm_T} {d : Nat} {v1 v2 : Int32} {μ : zm_u} {P : Int32 → zm_u → Prop}
    (h0 : ∃ G : Int32 → zm_u → Prop, zI X d 71 [.inr 4, .inl v1, .inl (0 : Int32), .inl (3 : Int32)] μ G ∧ ∀ (r : Int32) (μ1 : zm_u), G r μ1 → zV X d 75 7 [(0, .inr 4), (2, .inl v2)] [.inl r] μ1 (zpi P)) :
    zV X d 75 0 [(0, .inr 4), (1, .inl v1), (2, .inl v2)] [] μ (zpi P) :=
  (zm_run [(0, 1, 27, 0, 0, 0, []), (1, 2, 1, 1, 0, 0, []), (2, 3, 0, 0, 0, 0, []), (3, 4, 0, 0, 0, 3, [])] _ _ _ _ [] 4 [(0, .inr 4), (1, .inl v1), (2, .inl v2)] [.inl (3 : Int32), .inl (0 : Int32), .inl v1, .inr 4] μ (by decide +kernel) rfl rfl (by obtain ⟨G, he, hk⟩ := h0; exact zm_callV (as := [.inr 4, .inl v1, .inl (0 : Int32), .inl (3 : Int32)]) (rest := []) (P := zpi G) (nx := 7) (a := 71) (b := 4) (k := 4) (sw := []) (zq_of (by decide +kernel)) rfl rfl rfl he (fun _ μ1 hp => by obtain ⟨v, rfl, hp⟩ := hp; exact (zm_V_pick [0, 2] rfl (hk v μ1 hp)))))

theorem k75_7 {X : zm_T} {d : Nat} {s0 v2 : Int32} {μ : zm_u} {P : Int32 → zm_u → Prop}
    (h0 : 0 ≤ s0 → ∃ G : Int32 → zm_u → Prop, zI X d 93 [.inr 5, .inl s0, .inl v2] μ G ∧ ∀ (r : Int32) (μ1 : zm_u), G r μ1 → zV X d 75 25 [] [.inl r] μ1 (zpi P))
    (h1 : ¬ (0 ≤ s0) → zV X d 75 25 [] [.inl s0] μ (zpi P)) :
    zV X d 75 7 [(0, .inr 4), (2, .inl v2)] [.inl s0] μ (zpi P) :=
  (zm_run [(7, 8, 2, 3, 0, 0, []), (8, 9, 1, 3, 0, 0, [])] _ _ _ _ [] 9 [(0, .inr 4), (2, .inl v2), (3, .inl s0)] [.inl s0] μ (by decide +kernel) rfl rfl (zm_if (nx := 12) (a := 16) (b := 3) (k := 0) (sw := []) (zq_of (by decide +kernel)) (fun z1 => (zm_run [(16, 17, 27, 0, 0, 0, []), (17, 20, 4, 1, 4, 0, []), (20, 21, 1, 3, 0, 0, []), (21, 22, 1, 2, 0, 0, [])] _ _ _ _ [] 22 [(0, .inr 4), (2, .inl v2), (3, .inl s0)] [.inl v2, .inl s0, .inr 5] μ (by decide +kernel) rfl rfl (by obtain ⟨G, he, hk⟩ := (h0 (of_decide_eq_true z1)); exact zm_callV (as := [.inr 5, .inl s0, .inl v2]) (rest := []) (P := zpi G) (nx := 25) (a := 93) (b := 3) (k := 5) (sw := []) (zq_of (by decide +kernel)) rfl rfl rfl he (fun _ μ1 hp => by obtain ⟨v, rfl, hp⟩ := hp; exact (zm_V_pick [] rfl (hk v μ1 hp)))))) (fun z1 => (zm_run [(12, 13, 1, 3, 0, 0, []), (13, 16, 19, 25, 0, 0, [])] _ _ _ _ [] 25 [(0, .inr 4), (2, .inl v2), (3, .inl s0)] [.inl s0] μ (by decide +kernel) rfl rfl (zm_V_pick [] rfl (h1 (of_decide_eq_false z1)))))))

theorem k75_25 {X : zm_T} {d : Nat} {s0 : Int32} {μ : zm_u} {P : Int32 → zm_u → Prop}
    (h0 : P s0 μ) :
    zV X d 75 25 [] [.inl s0] μ (zpi P) :=
  (zm_iret (nx := 26) (a := 0) (b := 0) (k := 0) (sw := []) (zq_of (by decide +kernel)) ⟨_, rfl, h0⟩)

theorem k76_0 {X : zm_T} {d : Nat} {v1 v2 : Int32} {μ : zm_u} {P : Int32 → zm_u → Prop}
    (h0 : ∃ G : Int32 → zm_u → Prop, zI X d 32 [.inr 2, .inl v1] μ G ∧ ∀ (r : Int32) (μ1 : zm_u), G r μ1 → zV X d 76 8 [(0, .inr 4), (1, .inl v1), (2, .inl v2)] [.inl r] μ1 (zpi P)) :
    zV X d 76 0 [(0, .inr 4), (1, .inl v1), (2, .inl v2)] [] μ (zpi P) :=
  (zm_run [(0, 1, 27, 0, 0, 0, []), (1, 4, 4, 0, 4, 0, []), (4, 5, 1, 1, 0, 0, [])] _ _ _ _ [] 5 [(0, .inr 4), (1, .inl v1), (2, .inl v2)] [.inl v1, .inr 2] μ (by decide +kernel) rfl rfl (by obtain ⟨G, he, hk⟩ := h0; exact zm_callV (as := [.inr 2, .inl v1]) (rest := []) (P := zpi G) (nx := 8) (a := 32) (b := 2) (k := 2) (sw := []) (zq_of (by decide +kernel)) rfl rfl rfl he (fun _ μ1 hp => by obtain ⟨v, rfl, hp⟩ := hp; exact (zm_V_pick [0, 1, 2] rfl (hk v μ1 hp)))))

theorem k76_8 {X : zm_T} {d : Nat} {s0 v1 v2 : Int32} {μ : zm_u} {P : Int32 → zm_u → Prop}
    (h0 : ∃ G : Int32 → zm_u → Prop, zI X d 12 [.inl s0, .inl (0 : Int32)] μ G ∧ ∀ (r : Int32) (μ1 : zm_u), G r μ1 → zV X d 76 14 [(0, .inr 4), (1, .inl v1), (2, .inl v2), (3, .inl s0)] [.inl r] μ1 (zpi P)) :
    zV X d 76 8 [(0, .inr 4), (1, .inl v1), (2, .inl v2)] [.inl s0] μ (zpi P) :=
  (zm_run [(8, 9, 2, 3, 0, 0, []), (9, 10, 1, 3, 0, 0, []), (10, 11, 0, 0, 0, 0, [])] _ _ _ _ [] 11 [(0, .inr 4), (1, .inl v1), (2, .inl v2), (3, .inl s0)] [.inl (0 : Int32), .inl s0] μ (by decide +kernel) rfl rfl (by obtain ⟨G, he, hk⟩ := h0; exact zm_callS (as := [.inl s0, .inl (0 : Int32)]) (rest := []) (P := zpi G) (nx := 14) (a := 12) (b := 2) (k := 0) (sw := []) (zq_of (by decide +kernel)) rfl rfl rfl he (fun _ μ1 hp => by obtain ⟨v, rfl, hp⟩ := hp; exact (zm_V_pick [0, 1, 2, 3] rfl (hk v μ1 hp)))))

theorem k76_14 {X : zm_T} {d : Nat} {s0 v1 v2 v3 : Int32} {μ : zm_u} {P : Int32 → zm_u → Prop}
    (h0 : ∃ G : Int32 → zm_u → Prop, zI X d 71 [.inr 4, .inl v1, .inl (0 : Int32), .inl v2] μ G ∧ ∀ (r : Int32) (μ1 : zm_u), G r μ1 → zV X d 76 23 [(0, .inr 4), (1, .inl v1), (2, .inl v2), (3, .inl v3), (4, .inl s0)] [.inl r] μ1 (zpi P)) :
    zV X d 76 14 [(0, .inr 4), (1, .inl v1), (2, .inl v2), (3, .inl v3)] [.inl s0] μ (zpi P) :=
  (zm_run [(14, 16, 2, 4, 0, 0, []), (16, 17, 27, 0, 0, 0, []), (17, 18, 1, 1, 0, 0, []), (18, 19, 0, 0, 0, 0, []), (19, 20, 1, 2, 0, 0, [])] _ _ _ _ [] 20 [(0, .inr 4), (1, .inl v1), (2, .inl v2), (3, .inl v3), (4, .inl s0)] [.inl v2, .inl (0 : Int32), .inl v1, .inr 4] μ (by decide +kernel) rfl rfl (by obtain ⟨G, he, hk⟩ := h0; exact zm_callV (as := [.inr 4, .inl v1, .inl (0 : Int32), .inl v2]) (rest := []) (P := zpi G) (nx := 23) (a := 71) (b := 4) (k := 4) (sw := []) (zq_of (by decide +kernel)) rfl rfl rfl he (fun _ μ1 hp => by obtain ⟨v, rfl, hp⟩ := hp; exact (zm_V_pick [0, 1, 2, 3, 4] rfl (hk v μ1 hp)))))

theorem k76_23 {X : zm_T} {d : Nat} {s0 v1 v2 v3 v4 : Int32} {μ : zm_u} {P : Int32 → zm_u → Prop}
    (h0 : s0 < 0 → zV X d 76 36 [(0, .inr 4), (3, .inl v3), (5, .inl s0)] [] μ (zpi P))
    (h1 : ¬ (s0 < 0) → ¬ v4 = (1 : Int32) → ∃ G : Int32 → zm_u → Prop, zI X d 71 [.inr 4, .inl v1, .inl (1 : Int32), .inl v2] μ G ∧ ∀ (r : Int32) (μ1 : zm_u), G r μ1 → zV X d 76 66 [(0, .inr 4), (1, .inl v1), (2, .inl v2), (3, .inl v3), (4, .inl v4), (5, .inl s0)] [.inl r] μ1 (zpi P))
    (h2 : ¬ (s0 < 0) → v4 = (1 : Int32) → zV X d 76 36 [(0, .inr 4), (3, .inl v3), (5, .inl s0)] [] μ (zpi P)) :
    zV X d 76 23 [(0, .inr 4), (1, .inl v1), (2, .inl v2), (3, .inl v3), (4, .inl v4)] [.inl s0] μ (zpi P) :=
  (zm_run [(23, 25, 2, 5, 0, 0, []), (25, 27, 1, 5, 0, 0, [])] _ _ _ _ [] 27 [(0, .inr 4), (1, .inl v1), (2, .inl v2), (3, .inl v3), (4, .inl v4), (5, .inl s0)] [.inl s0] μ (by decide +kernel) rfl rfl (zm_if (nx := 30) (a := 36) (b := 2) (k := 0) (sw := []) (zq_of (by decide +kernel)) (fun z1 => (zm_V_pick [0, 3, 5] rfl (h0 (of_decide_eq_true z1)))) (fun z1 => (zm_run [(30, 32, 1, 4, 0, 0, []), (32, 33, 0, 0, 0, 1, [])] _ _ _ _ [] 33 [(0, .inr 4), (1, .inl v1), (2, .inl v2), (3, .inl v3), (4, .inl v4), (5, .inl s0)] [.inl (1 : Int32), .inl v4] μ (by decide +kernel) rfl rfl (zm_icmp (nx := 36) (a := 59) (b := 1) (k := 0) (sw := []) (zq_of (by decide +kernel)) (fun z2 => (zm_run [(59, 60, 27, 0, 0, 0, []), (60, 61, 1, 1, 0, 0, []), (61, 62, 0, 0, 0, 1, []), (62, 63, 1, 2, 0, 0, [])] _ _ _ _ [] 63 [(0, .inr 4), (1, .inl v1), (2, .inl v2), (3, .inl v3), (4, .inl v4), (5, .inl s0)] [.inl v2, .inl (1 : Int32), .inl v1, .inr 4] μ (by decide +kernel) rfl rfl (by obtain ⟨G, he, hk⟩ := (h1 (of_decide_eq_false z1) (of_decide_eq_true z2)); exact zm_callV (as := [.inr 4, .inl v1, .inl (1 : Int32), .inl v2]) (rest := []) (P := zpi G) (nx := 66) (a := 71) (b := 4) (k := 4) (sw := []) (zq_of (by decide +kernel)) rfl rfl rfl he (fun _ μ1 hp => by obtain ⟨v, rfl, hp⟩ := hp; exact (zm_V_pick [0, 1, 2, 3, 4, 5] rfl (hk v μ1 hp)))))) (fun z2 => (zm_V_pick [0, 3, 5] rfl (h2 (of_decide_eq_false z1) (Classical.byContradiction fun w => (of_decide_eq_false z2) w)))))))))

theorem k76_36 {X : zm_T} {d : Nat} {v3 v5 : Int32} {μ : zm_u} {P : Int32 → zm_u → Prop}
    (h0 : 0 ≤ v5 → ∃ G : Int32 → zm_u → Prop, zI X d 83 [.inr 5, .inl v3, .inl v5, .inl (-1 : Int32), .inl (-1 : Int32)] μ G ∧ ∀ (r : Int32) (μ1 : zm_u), G r μ1 → zV X d 76 58 [] [.inl r] μ1 (zpi P))
    (h1 : ¬ (0 ≤ v5) → zV X d 76 58 [] [.inl v5] μ (zpi P)) :
    zV X d 76 36 [(0, .inr 4), (3, .inl v3), (5, .inl v5)] [] μ (zpi P) :=
  (zm_run [(36, 38, 1, 5, 0, 0, [])] _ _ _ _ [] 38 [(0, .inr 4), (3, .inl v3), (5, .inl v5)] [.inl v5] μ (by decide +kernel) rfl rfl (zm_if (nx := 41) (a := 46) (b := 3) (k := 0) (sw := []) (zq_of (by decide +kernel)) (fun z1 => (zm_run [(46, 47, 27, 0, 0, 0, []), (47, 50, 4, 1, 4, 0, []), (50, 51, 1, 3, 0, 0, []), (51, 53, 1, 5, 0, 0, []), (53, 54, 0, 0, 0, (-1), []), (54, 55, 0, 0, 0, (-1), [])] _ _ _ _ [] 55 [(0, .inr 4), (3, .inl v3), (5, .inl v5)] [.inl (-1 : Int32), .inl (-1 : Int32), .inl v5, .inl v3, .inr 5] μ (by decide +kernel) rfl rfl (by obtain ⟨G, he, hk⟩ := (h0 (of_decide_eq_true z1)); exact zm_callV (as := [.inr 5, .inl v3, .inl v5, .inl (-1 : Int32), .inl (-1 : Int32)]) (rest := []) (P := zpi G) (nx := 58) (a := 83) (b := 5) (k := 5) (sw := []) (zq_of (by decide +kernel)) rfl rfl rfl he (fun _ μ1 hp => by obtain ⟨v, rfl, hp⟩ := hp; exact (zm_V_pick [] rfl (hk v μ1 hp)))))) (fun z1 => (zm_run [(41, 43, 1, 5, 0, 0, []), (43, 46, 19, 58, 0, 0, [])] _ _ _ _ [] 58 [(0, .inr 4), (3, .inl v3), (5, .inl v5)] [.inl v5] μ (by decide +kernel) rfl rfl (zm_V_pick [] rfl (h1 (of_decide_eq_false z1)))))))

theorem k76_66 {X : zm_T} {d : Nat} {s0 v1 v2 v3 v4 v5 : Int32} {μ : zm_u} {P : Int32 → zm_u → Prop}
    (h0 : s0 < 0 → zV X d 76 79 [(0, .inr 4), (3, .inl v3), (5, .inl v5), (6, .inl s0)] [] μ (zpi P))
    (h1 : ¬ (s0 < 0) → ¬ v4 = (2 : Int32) → ∃ G : Int32 → zm_u → Prop, zI X d 71 [.inr 4, .inl v1, .inl (2 : Int32), .inl v2] μ G ∧ ∀ (r : Int32) (μ1 : zm_u), G r μ1 → zV X d 76 110 [(0, .inr 4), (3, .inl v3), (5, .inl v5), (6, .inl s0)] [.inl r] μ1 (zpi P))
    (h2 : ¬ (s0 < 0) → v4 = (2 : Int32) → zV X d 76 79 [(0, .inr 4), (3, .inl v3), (5, .inl v5), (6, .inl s0)] [] μ (zpi P)) :
    zV X d 76 66 [(0, .inr 4), (1, .inl v1), (2, .inl v2), (3, .inl v3), (4, .inl v4), (5, .inl v5)] [.inl s0] μ (zpi P) :=
  (zm_run [(66, 68, 2, 6, 0, 0, []), (68, 70, 1, 6, 0, 0, [])] _ _ _ _ [] 70 [(0, .inr 4), (1, .inl v1), (2, .inl v2), (3, .inl v3), (4, .inl v4), (5, .inl v5), (6, .inl s0)] [.inl s0] μ (by decide +kernel) rfl rfl (zm_if (nx := 73) (a := 79) (b := 2) (k := 0) (sw := []) (zq_of (by decide +kernel)) (fun z1 => (zm_V_pick [0, 3, 5, 6] rfl (h0 (of_decide_eq_true z1)))) (fun z1 => (zm_run [(73, 75, 1, 4, 0, 0, []), (75, 76, 0, 0, 0, 2, [])] _ _ _ _ [] 76 [(0, .inr 4), (1, .inl v1), (2, .inl v2), (3, .inl v3), (4, .inl v4), (5, .inl v5), (6, .inl s0)] [.inl (2 : Int32), .inl v4] μ (by decide +kernel) rfl rfl (zm_icmp (nx := 79) (a := 103) (b := 1) (k := 0) (sw := []) (zq_of (by decide +kernel)) (fun z2 => (zm_run [(103, 104, 27, 0, 0, 0, []), (104, 105, 1, 1, 0, 0, []), (105, 106, 0, 0, 0, 2, []), (106, 107, 1, 2, 0, 0, [])] _ _ _ _ [] 107 [(0, .inr 4), (1, .inl v1), (2, .inl v2), (3, .inl v3), (4, .inl v4), (5, .inl v5), (6, .inl s0)] [.inl v2, .inl (2 : Int32), .inl v1, .inr 4] μ (by decide +kernel) rfl rfl (by obtain ⟨G, he, hk⟩ := (h1 (of_decide_eq_false z1) (of_decide_eq_true z2)); exact zm_callV (as := [.inr 4, .inl v1, .inl (2 : Int32), .inl v2]) (rest := []) (P := zpi G) (nx := 110) (a := 71) (b := 4) (k := 4) (sw := []) (zq_of (by decide +kernel)) rfl rfl rfl he (fun _ μ1 hp => by obtain ⟨v, rfl, hp⟩ := hp; exact (zm_V_pick [0, 3, 5, 6] rfl (hk v μ1 hp)))))) (fun z2 => (zm_V_pick [0, 3, 5, 6] rfl (h2 (of_decide_eq_false z1) (Classical.byContradiction fun w => (of_decide_eq_false z2) w)))))))))

theorem k76_58 {X : zm_T} {d : Nat} {s0 : Int32} {μ : zm_u} {P : Int32 → zm_u → Prop}
    (h0 : P s0 μ) :
    zV X d 76 58 [] [.inl s0] μ (zpi P) :=
  (zm_iret (nx := 59) (a := 0) (b := 0) (k := 0) (sw := []) (zq_of (by decide +kernel)) ⟨_, rfl, h0⟩)

theorem k76_79 {X : zm_T} {d : Nat} {v3 v5 v6 : Int32} {μ : zm_u} {P : Int32 → zm_u → Prop}
    (h0 : 0 ≤ v6 → ∃ G : Int32 → zm_u → Prop, zI X d 83 [.inr 5, .inl v3, .inl v5, .inl v6, .inl (-1 : Int32)] μ G ∧ ∀ (r : Int32) (μ1 : zm_u), G r μ1 → zV X d 76 102 [] [.inl r] μ1 (zpi P))
    (h1 : ¬ (0 ≤ v6) → zV X d 76 102 [] [.inl v6] μ (zpi P)) :
    zV X d 76 79 [(0, .inr 4), (3, .inl v3), (5, .inl v5), (6, .inl v6)] [] μ (zpi P) :=
  (zm_run [(79, 81, 1, 6, 0, 0, [])] _ _ _ _ [] 81 [(0, .inr 4), (3, .inl v3), (5, .inl v5), (6, .inl v6)] [.inl v6] μ (by decide +kernel) rfl rfl (zm_if (nx := 84) (a := 89) (b := 3) (k := 0) (sw := []) (zq_of (by decide +kernel)) (fun z1 => (zm_run [(89, 90, 27, 0, 0, 0, []), (90, 93, 4, 1, 4, 0, []), (93, 94, 1, 3, 0, 0, []), (94, 96, 1, 5, 0, 0, []), (96, 98, 1, 6, 0, 0, []), (98, 99, 0, 0, 0, (-1), [])] _ _ _ _ [] 99 [(0, .inr 4), (3, .inl v3), (5, .inl v5), (6, .inl v6)] [.inl (-1 : Int32), .inl v6, .inl v5, .inl v3, .inr 5] μ (by decide +kernel) rfl rfl (by obtain ⟨G, he, hk⟩ := (h0 (of_decide_eq_true z1)); exact zm_callV (as := [.inr 5, .inl v3, .inl v5, .inl v6, .inl (-1 : Int32)]) (rest := []) (P := zpi G) (nx := 102) (a := 83) (b := 5) (k := 5) (sw := []) (zq_of (by decide +kernel)) rfl rfl rfl he (fun _ μ1 hp => by obtain ⟨v, rfl, hp⟩ := hp; exact (zm_V_pick [] rfl (hk v μ1 hp)))))) (fun z1 => (zm_run [(84, 86, 1, 6, 0, 0, []), (86, 89, 19, 102, 0, 0, [])] _ _ _ _ [] 102 [(0, .inr 4), (3, .inl v3), (5, .inl v5), (6, .inl v6)] [.inl v6] μ (by decide +kernel) rfl rfl (zm_V_pick [] rfl (h1 (of_decide_eq_false z1)))))))

theorem k76_110 {X : zm_T} {d : Nat} {s0 v3 v5 v6 : Int32} {μ : zm_u} {P : Int32 → zm_u → Prop}
    (h0 : 0 ≤ s0 → ∃ G : Int32 → zm_u → Prop, zI X d 83 [.inr 5, .inl v3, .inl v5, .inl v6, .inl s0] μ G ∧ ∀ (r : Int32) (μ1 : zm_u), G r μ1 → zV X d 76 136 [] [.inl r] μ1 (zpi P))
    (h1 : ¬ (0 ≤ s0) → zV X d 76 136 [] [.inl s0] μ (zpi P)) :
    zV X d 76 110 [(0, .inr 4), (3, .inl v3), (5, .inl v5), (6, .inl v6)] [.inl s0] μ (zpi P) :=
  (zm_run [(110, 112, 2, 7, 0, 0, []), (112, 114, 1, 7, 0, 0, [])] _ _ _ _ [] 114 [(0, .inr 4), (3, .inl v3), (5, .inl v5), (6, .inl v6), (7, .inl s0)] [.inl s0] μ (by decide +kernel) rfl rfl (zm_if (nx := 117) (a := 122) (b := 3) (k := 0) (sw := []) (zq_of (by decide +kernel)) (fun z1 => (zm_run [(122, 123, 27, 0, 0, 0, []), (123, 126, 4, 1, 4, 0, []), (126, 127, 1, 3, 0, 0, []), (127, 129, 1, 5, 0, 0, []), (129, 131, 1, 6, 0, 0, []), (131, 133, 1, 7, 0, 0, [])] _ _ _ _ [] 133 [(0, .inr 4), (3, .inl v3), (5, .inl v5), (6, .inl v6), (7, .inl s0)] [.inl s0, .inl v6, .inl v5, .inl v3, .inr 5] μ (by decide +kernel) rfl rfl (by obtain ⟨G, he, hk⟩ := (h0 (of_decide_eq_true z1)); exact zm_callV (as := [.inr 5, .inl v3, .inl v5, .inl v6, .inl s0]) (rest := []) (P := zpi G) (nx := 136) (a := 83) (b := 5) (k := 5) (sw := []) (zq_of (by decide +kernel)) rfl rfl rfl he (fun _ μ1 hp => by obtain ⟨v, rfl, hp⟩ := hp; exact (zm_V_pick [] rfl (hk v μ1 hp)))))) (fun z1 => (zm_run [(117, 119, 1, 7, 0, 0, []), (119, 122, 19, 136, 0, 0, [])] _ _ _ _ [] 136 [(0, .inr 4), (3, .inl v3), (5, .inl v5), (6, .inl v6), (7, .inl s0)] [.inl s0] μ (by decide +kernel) rfl rfl (zm_V_pick [] rfl (h1 (of_decide_eq_false z1)))))))

theorem k76_102 {X : zm_T} {d : Nat} {s0 : Int32} {μ : zm_u} {P : Int32 → zm_u → Prop}
    (h0 : P s0 μ) :
    zV X d 76 102 [] [.inl s0] μ (zpi P) :=
  (zm_iret (nx := 103) (a := 0) (b := 0) (k := 0) (sw := []) (zq_of (by decide +kernel)) ⟨_, rfl, h0⟩)

theorem k76_136 {X : zm_T} {d : Nat} {s0 : Int32} {μ : zm_u} {P : Int32 → zm_u → Prop}
    (h0 : P s0 μ) :
    zV X d 76 136 [] [.inl s0] μ (zpi P) :=
  (zm_iret (nx := 137) (a := 0) (b := 0) (k := 0) (sw := []) (zq_of (by decide +kernel)) ⟨_, rfl, h0⟩)

theorem k77_0 {X : zm_T} {d : Nat} {v1 : Int32} {μ : zm_u} {P : Int32 → zm_u → Prop}
    (h0 : ∃ G : Int32 → zm_u → Prop, zI X d 71 [.inr 4, .inl v1, .inl (0 : Int32), .inl (0 : Int32)] μ G ∧ ∀ (r : Int32) (μ1 : zm_u), G r μ1 → zV X d 77 7 [(0, .inr 4)] [.inl r] μ1 (zpi P)) :
    zV X d 77 0 [(0, .inr 4), (1, .inl v1)] [] μ (zpi P) :=
  (zm_run [(0, 1, 27, 0, 0, 0, []), (1, 2, 1, 1, 0, 0, []), (2, 3, 0, 0, 0, 0, []), (3, 4, 0, 0, 0, 0, [])] _ _ _ _ [] 4 [(0, .inr 4), (1, .inl v1)] [.inl (0 : Int32), .inl (0 : Int32), .inl v1, .inr 4] μ (by decide +kernel) rfl rfl (by obtain ⟨G, he, hk⟩ := h0; exact zm_callV (as := [.inr 4, .inl v1, .inl (0 : Int32), .inl (0 : Int32)]) (rest := []) (P := zpi G) (nx := 7) (a := 71) (b := 4) (k := 4) (sw := []) (zq_of (by decide +kernel)) rfl rfl rfl he (fun _ μ1 hp => by obtain ⟨v, rfl, hp⟩ := hp; exact (zm_V_pick [0] rfl (hk v μ1 hp)))))

theorem k77_7 {X : zm_T} {d : Nat} {s0 : Int32} {μ : zm_u} {P : Int32 → zm_u → Prop}
    (h0 : 0 ≤ s0 → (μ 4 5) < (4 : Int32) → ∃ G : zm_u → Prop, zO X d 79 [.inr 4, .inl s0] (zm_up μ 4 3 (μ 4 4)) G ∧ ∀ μ1 : zm_u, G μ1 → zV X d 77 48 [(0, .inr 4), (3, .inl (μ 4 3)), (4, .inl (μ 4 4))] [] μ1 (zpi P))
    (h1 : 0 ≤ s0 → ¬ ((μ 4 5) < (4 : Int32)) → P (-1 : Int32) μ)
    (h2 : ¬ (0 ≤ s0) → P s0 μ) :
    zV X d 77 7 [(0, .inr 4)] [.inl s0] μ (zpi P) :=
  (zm_run [(7, 8, 2, 2, 0, 0, []), (8, 9, 1, 2, 0, 0, [])] _ _ _ _ [] 9 [(0, .inr 4), (2, .inl s0)] [.inl s0] μ (by decide +kernel) rfl rfl (zm_if (nx := 12) (a := 14) (b := 3) (k := 0) (sw := []) (zq_of (by decide +kernel)) (fun z1 => (zm_run [(14, 15, 27, 0, 0, 0, []), (15, 18, 4, 5, 4, 0, []), (18, 19, 0, 0, 0, 4, [])] _ _ _ _ [] 19 [(0, .inr 4), (2, .inl s0)] [.inl (4 : Int32), .inl (μ 4 5)] μ (by decide +kernel) rfl rfl (zm_icmp (nx := 22) (a := 24) (b := 2) (k := 0) (sw := []) (zq_of (by decide +kernel)) (fun z2 => (zm_run [(24, 25, 27, 0, 0, 0, []), (25, 28, 4, 3, 4, 0, []), (28, 29, 2, 3, 0, 0, []), (29, 30, 27, 0, 0, 0, []), (30, 33, 4, 4, 4, 0, []), (33, 35, 2, 4, 0, 0, []), (35, 36, 27, 0, 0, 0, []), (36, 37, 27, 0, 0, 0, []), (37, 40, 4, 4, 4, 0, []), (40, 43, 5, 3, 4, 0, []), (43, 44, 27, 0, 0, 0, []), (44, 45, 1, 2, 0, 0, [])] _ _ _ _ [] 45 [(0, .inr 4), (2, .inl s0), (3, .inl (μ 4 3)), (4, .inl (μ 4 4))] [.inl s0, .inr 4] (zm_up μ 4 3 (μ 4 4)) (by decide +kernel) rfl rfl (by obtain ⟨G, he, hk⟩ := (h0 (of_decide_eq_true z1) (of_decide_eq_true z2)); exact zm_callV (as := [.inr 4, .inl s0]) (rest := []) (P := zpo G) (nx := 48) (a := 79) (b := 2) (k := 4) (sw := []) (zq_of (by decide +kernel)) rfl rfl rfl he (fun _ μ1 hp => by obtain ⟨rfl, hp⟩ := hp; exact (zm_V_pick [0, 3, 4] rfl (hk μ1 hp)))))) (fun z2 => (zm_run [(22, 23, 0, 0, 0, (-1), [])] _ _ _ _ [] 23 [(0, .inr 4), (2, .inl s0)] [.inl (-1 : Int32)] μ (by decide +kernel) rfl rfl (zm_iret (nx := 24) (a := 0) (b := 0) (k := 0) (sw := []) (zq_of (by decide +kernel)) ⟨_, rfl, (h1 (of_decide_eq_true z1) (of_decide_eq_false z2))⟩)))))) (fun z1 => (zm_run [(12, 13, 1, 2, 0, 0, [])] _ _ _ _ [] 13 [(0, .inr 4), (2, .inl s0)] [.inl s0] μ (by decide +kernel) rfl rfl (zm_iret (nx := 14) (a := 0) (b := 0) (k := 0) (sw := []) (zq_of (by decide +kernel)) ⟨_, rfl, (h2 (of_decide_eq_false z1))⟩)))))

theorem k77_48 {X : zm_T} {d : Nat} {v3 v4 : Int32} {μ : zm_u} {P : Int32 → zm_u → Prop}
    (h0 : ∃ G : Int32 → zm_u → Prop, zI X d 30 [.inr 2] (zm_up μ 4 5 ((μ 4 5) + (1 : Int32))) G ∧ ∀ (r : Int32) (μ1 : zm_u), G r μ1 → zV X d 77 66 [(0, .inr 4), (3, .inl v3), (4, .inl v4)] [.inl r, .inr 4] μ1 (zpi P)) :
    zV X d 77 48 [(0, .inr 4), (3, .inl v3), (4, .inl v4)] [] μ (zpi P) :=
  (zm_run [(48, 49, 27, 0, 0, 0, []), (49, 50, 16, 0, 0, 0, []), (50, 53, 4, 5, 4, 0, []), (53, 54, 0, 0, 0, 1, []), (54, 55, 10, 0, 0, 0, []), (55, 58, 5, 5, 4, 0, []), (58, 59, 27, 0, 0, 0, []), (59, 60, 27, 0, 0, 0, []), (60, 63, 4, 0, 4, 0, [])] _ _ _ _ [] 63 [(0, .inr 4), (3, .inl v3), (4, .inl v4)] [.inr 2, .inr 4] (zm_up μ 4 5 ((μ 4 5) + (1 : Int32))) (by decide +kernel) rfl rfl (by obtain ⟨G, he, hk⟩ := h0; exact zm_callV (as := [.inr 2]) (rest := [.inr 4]) (P := zpi G) (nx := 66) (a := 30) (b := 1) (k := 2) (sw := []) (zq_of (by decide +kernel)) rfl rfl rfl he (fun _ μ1 hp => by obtain ⟨v, rfl, hp⟩ := hp; exact (zm_V_pick [0, 3, 4] rfl (hk v μ1 hp)))))

theorem k77_66 {X : zm_T} {d : Nat} {s1 v3 v4 : Int32} {μ : zm_u} {P : Int32 → zm_u → Prop}
    (h0 : ∃ G : Int32 → zm_u → Prop, zI X d 68 [.inr 4, .inl s1] μ G ∧ ∀ (r : Int32) (μ1 : zm_u), G r μ1 → zV X d 77 69 [(0, .inr 4), (3, .inl v3), (4, .inl v4)] [.inl r] μ1 (zpi P)) :
    zV X d 77 66 [(0, .inr 4), (3, .inl v3), (4, .inl v4)] [.inl s1, .inr 4] μ (zpi P) :=
  (by obtain ⟨G, he, hk⟩ := h0; exact zm_callV (as := [.inr 4, .inl s1]) (rest := []) (P := zpi G) (nx := 69) (a := 68) (b := 2) (k := 4) (sw := []) (zq_of (by decide +kernel)) rfl rfl rfl he (fun _ μ1 hp => by obtain ⟨v, rfl, hp⟩ := hp; exact (zm_V_pick [0, 3, 4] rfl (hk v μ1 hp))))

theorem k77_69 {X : zm_T} {d : Nat} {s0 v3 v4 : Int32} {μ : zm_u} {P : Int32 → zm_u → Prop}
    (h0 : P s0 (zm_up (zm_up (zm_up μ 4 5 ((μ 4 5) - (1 : Int32))) 4 3 v3) 4 4 v4)) :
    zV X d 77 69 [(0, .inr 4), (3, .inl v3), (4, .inl v4)] [.inl s0] μ (zpi P) :=
  (zm_run [(69, 71, 2, 5, 0, 0, []), (71, 72, 27, 0, 0, 0, []), (72, 73, 16, 0, 0, 0, []), (73, 76, 4, 5, 4, 0, []), (76, 77, 0, 0, 0, 1, []), (77, 78, 11, 0, 0, 0, []), (78, 81, 5, 5, 4, 0, []), (81, 82, 27, 0, 0, 0, []), (82, 83, 1, 3, 0, 0, []), (83, 86, 5, 3, 4, 0, []), (86, 87, 27, 0, 0, 0, []), (87, 89, 1, 4, 0, 0, []), (89, 92, 5, 4, 4, 0, []), (92, 94, 1, 5, 0, 0, [])] _ _ _ _ [] 94 [(0, .inr 4), (3, .inl v3), (4, .inl v4), (5, .inl s0)] [.inl s0] (zm_up (zm_up (zm_up μ 4 5 ((μ 4 5) - (1 : Int32))) 4 3 v3) 4 4 v4) (by decide +kernel) rfl rfl (zm_iret (nx := 95) (a := 0) (b := 0) (k := 0) (sw := []) (zq_of (by decide +kernel)) ⟨_, rfl, h0⟩))

theorem k78_0 {X : zm_T} {d : Nat} {v1 : Int32} {μ : zm_u} {P : Int32 → zm_u → Prop}
    (h0 : ∃ G : Int32 → zm_u → Prop, zI X d 71 [.inr 4, .inl v1, .inl (0 : Int32), .inl (4 : Int32)] μ G ∧ ∀ (r : Int32) (μ1 : zm_u), G r μ1 → zV X d 78 7 [(0, .inr 4), (1, .inl v1)] [.inl r] μ1 (zpi P)) :
    zV X d 78 0 [(0, .inr 4), (1, .inl v1)] [] μ (zpi P) :=
  (zm_run [(0, 1, 27, 0, 0, 0, []), (1, 2, 1, 1, 0, 0, []), (2, 3, 0, 0, 0, 0, []), (3, 4, 0, 0, 0, 4, [])] _ _ _ _ [] 4 [(0, .inr 4), (1, .inl v1)] [.inl (4 : Int32), .inl (0 : Int32), .inl v1, .inr 4] μ (by decide +kernel) rfl rfl (by obtain ⟨G, he, hk⟩ := h0; exact zm_callV (as := [.inr 4, .inl v1, .inl (0 : Int32), .inl (4 : Int32)]) (rest := []) (P := zpi G) (nx := 7) (a := 71) (b := 4) (k := 4) (sw := []) (zq_of (by decide +kernel)) rfl rfl rfl he (fun _ μ1 hp => by obtain ⟨v, rfl, hp⟩ := hp; exact (zm_V_pick [0, 1] rfl (hk v μ1 hp)))))

theorem k78_7 {X : zm_T} {d : Nat} {s0 v1 : Int32} {μ : zm_u} {P : Int32 → zm_u → Prop}
    (h0 : 0 ≤ s0 → ∃ G : Int32 → zm_u → Prop, zI X d 90 [.inr 5, .inl s0] μ G ∧ ∀ (r : Int32) (μ1 : zm_u), G r μ1 → zV X d 78 27 [(0, .inr 4), (2, .inl s0)] [.inl r, .inl v1, .inr 2] μ1 (zpi P))
    (h1 : ¬ (0 ≤ s0) → P s0 μ) :
    zV X d 78 7 [(0, .inr 4), (1, .inl v1)] [.inl s0] μ (zpi P) :=
  (zm_run [(7, 8, 2, 2, 0, 0, []), (8, 9, 1, 2, 0, 0, [])] _ _ _ _ [] 9 [(0, .inr 4), (1, .inl v1), (2, .inl s0)] [.inl s0] μ (by decide +kernel) rfl rfl (zm_if (nx := 12) (a := 14) (b := 3) (k := 0) (sw := []) (zq_of (by decide +kernel)) (fun z1 => (zm_run [(14, 15, 27, 0, 0, 0, []), (15, 18, 4, 0, 4, 0, []), (18, 19, 1, 1, 0, 0, []), (19, 20, 27, 0, 0, 0, []), (20, 23, 4, 1, 4, 0, []), (23, 24, 1, 2, 0, 0, [])] _ _ _ _ [] 24 [(0, .inr 4), (1, .inl v1), (2, .inl s0)] [.inl s0, .inr 5, .inl v1, .inr 2] μ (by decide +kernel) rfl rfl (by obtain ⟨G, he, hk⟩ := (h0 (of_decide_eq_true z1)); exact zm_callV (as := [.inr 5, .inl s0]) (rest := [.inl v1, .inr 2]) (P := zpi G) (nx := 27) (a := 90) (b := 2) (k := 5) (sw := []) (zq_of (by decide +kernel)) rfl rfl rfl he (fun _ μ1 hp => by obtain ⟨v, rfl, hp⟩ := hp; exact (zm_V_pick [0, 2] rfl (hk v μ1 hp)))))) (fun z1 => (zm_run [(12, 13, 1, 2, 0, 0, [])] _ _ _ _ [] 13 [(0, .inr 4), (1, .inl v1), (2, .inl s0)] [.inl s0] μ (by decide +kernel) rfl rfl (zm_iret (nx := 14) (a := 0) (b := 0) (k := 0) (sw := []) (zq_of (by decide +kernel)) ⟨_, rfl, (h1 (of_decide_eq_false z1))⟩)))))

theorem k78_27 {X : zm_T} {d : Nat} {s1 s2 v2 : Int32} {μ : zm_u} {P : Int32 → zm_u → Prop}
    (h0 : ∃ G : Int32 → zm_u → Prop, zI X d 35 [.inr 2, .inl s1, .inl s2] μ G ∧ ∀ (r : Int32) (μ1 : zm_u), G r μ1 → zV X d 78 30 [(0, .inr 4), (2, .inl v2)] [.inl r] μ1 (zpi P)) :
    zV X d 78 27 [(0, .inr 4), (2, .inl v2)] [.inl s2, .inl s1, .inr 2] μ (zpi P) :=
  (by obtain ⟨G, he, hk⟩ := h0; exact zm_callV (as := [.inr 2, .inl s1, .inl s2]) (rest := []) (P := zpi G) (nx := 30) (a := 35) (b := 3) (k := 2) (sw := []) (zq_of (by decide +kernel)) rfl rfl rfl he (fun _ μ1 hp => by obtain ⟨v, rfl, hp⟩ := hp; exact (zm_V_pick [0, 2] rfl (hk v μ1 hp))))

theorem k78_30 {X : zm_T} {d : Nat} {s0 v2 : Int32} {μ : zm_u} {P : Int32 → zm_u → Prop}
    (h0 : ¬ s0 = (-1 : Int32) → zV X d 78 48 [(0, .inr 4), (2, .inl v2), (3, .inl s0), (4, .inl (μ 4 4)), (5, .inl (0 : Int32))] [] μ (zpi P))
    (h1 : s0 = (-1 : Int32) → P (-2 : Int32) μ) :
    zV X d 78 30 [(0, .inr 4), (2, .inl v2)] [.inl s0] μ (zpi P) :=
  (zm_run [(30, 31, 2, 3, 0, 0, []), (31, 32, 1, 3, 0, 0, []), (32, 33, 0, 0, 0, (-1), [])] _ _ _ _ [] 33 [(0, .inr 4), (2, .inl v2), (3, .inl s0)] [.inl (-1 : Int32), .inl s0] μ (by decide +kernel) rfl rfl (zm_icmp (nx := 36) (a := 39) (b := 1) (k := 0) (sw := []) (zq_of (by decide +kernel)) (fun z1 => (zm_run [(39, 40, 27, 0, 0, 0, []), (40, 43, 4, 4, 4, 0, []), (43, 45, 2, 4, 0, 0, []), (45, 46, 0, 0, 0, 0, []), (46, 48, 2, 5, 0, 0, [])] _ _ _ _ [] 48 [(0, .inr 4), (2, .inl v2), (3, .inl s0), (4, .inl (μ 4 4)), (5, .inl (0 : Int32))] [] μ (by decide +kernel) rfl rfl (zm_V_pick [0, 2, 3, 4, 5] rfl (h0 (of_decide_eq_true z1))))) (fun z1 => (zm_run [(36, 38, 0, 0, 0, (-2), [])] _ _ _ _ [] 38 [(0, .inr 4), (2, .inl v2), (3, .inl s0)] [.inl (-2 : Int32)] μ (by decide +kernel) rfl rfl (zm_iret (nx := 39) (a := 0) (b := 0) (k := 0) (sw := []) (zq_of (by decide +kernel)) ⟨_, rfl, (h1 (Classical.byContradiction fun w => (of_decide_eq_false z1) w))⟩)))))

theorem k78_48 {X : zm_T} {d : Nat} {v2 v3 v4 v5 : Int32} {μ : zm_u} {P : Int32 → zm_u → Prop}
    (h0 : ∃ G : Int32 → zm_u → Prop, zI X d 92 [.inr 5, .inl v2] μ G ∧ ∀ (r : Int32) (μ1 : zm_u), G r μ1 → zV X d 78 58 [(0, .inr 4), (2, .inl v2), (3, .inl v3), (4, .inl v4), (5, .inl v5)] [.inl r, .inl v5] μ1 (zpi P)) :
    zV X d 78 48 [(0, .inr 4), (2, .inl v2), (3, .inl v3), (4, .inl v4), (5, .inl v5)] [] μ (zpi P) :=
  (zm_run [(48, 50, 1, 5, 0, 0, []), (50, 51, 27, 0, 0, 0, []), (51, 54, 4, 1, 4, 0, []), (54, 55, 1, 2, 0, 0, [])] _ _ _ _ [] 55 [(0, .inr 4), (2, .inl v2), (3, .inl v3), (4, .inl v4), (5, .inl v5)] [.inl v2, .inr 5, .inl v5] μ (by decide +kernel) rfl rfl (by obtain ⟨G, he, hk⟩ := h0; exact zm_callV (as := [.inr 5, .inl v2]) (rest := [.inl v5]) (P := zpi G) (nx := 58) (a := 92) (b := 2) (k := 5) (sw := []) (zq_of (by decide +kernel)) rfl rfl rfl he (fun _ μ1 hp => by obtain ⟨v, rfl, hp⟩ := hp; exact (zm_V_pick [0, 2, 3, 4, 5] rfl (hk v μ1 hp)))))

theorem k78_58 {X : zm_T} {d : Nat} {s0 s1 v2 v3 v4 v5 : Int32} {μ : zm_u} {P : Int32 → zm_u → Prop}
    (h0 : s1 ≤ s0 → ∃ G : Int32 → zm_u → Prop, zI X d 68 [.inr 4, .inl v3] μ G ∧ ∀ (r : Int32) (μ1 : zm_u), G r μ1 → zV X d 78 86 [(0, .inr 4), (4, .inl v4)] [.inl r] μ1 (zpi P))
    (h1 : ¬ (s1 ≤ s0) → ∃ G : Int32 → zm_u → Prop, zI X d 93 [.inr 5, .inl v2, .inl v5] μ G ∧ ∀ (r : Int32) (μ1 : zm_u), G r μ1 → zV X d 78 72 [(0, .inr 4), (2, .inl v2), (3, .inl v3), (4, .inl v4), (5, .inl v5)] [.inl r, .inr 4] μ1 (zpi P)) :
    zV X d 78 58 [(0, .inr 4), (2, .inl v2), (3, .inl v3), (4, .inl v4), (5, .inl v5)] [.inl s1, .inl s0] μ (zpi P) :=
  (zm_icmp (nx := 61) (a := 81) (b := 3) (k := 0) (sw := []) (zq_of (by decide +kernel)) (fun z1 => (zm_run [(81, 82, 27, 0, 0, 0, []), (82, 83, 1, 3, 0, 0, [])] _ _ _ _ [] 83 [(0, .inr 4), (2, .inl v2), (3, .inl v3), (4, .inl v4), (5, .inl v5)] [.inl v3, .inr 4] μ (by decide +kernel) rfl rfl (by obtain ⟨G, he, hk⟩ := (h0 (of_decide_eq_true z1)); exact zm_callV (as := [.inr 4, .inl v3]) (rest := []) (P := zpi G) (nx := 86) (a := 68) (b := 2) (k := 4) (sw := []) (zq_of (by decide +kernel)) rfl rfl rfl he (fun _ μ1 hp => by obtain ⟨v, rfl, hp⟩ := hp; exact (zm_V_pick [0, 4] rfl (hk v μ1 hp)))))) (fun z1 => (zm_run [(61, 62, 27, 0, 0, 0, []), (62, 63, 27, 0, 0, 0, []), (63, 66, 4, 1, 4, 0, []), (66, 67, 1, 2, 0, 0, []), (67, 69, 1, 5, 0, 0, [])] _ _ _ _ [] 69 [(0, .inr 4), (2, .inl v2), (3, .inl v3), (4, .inl v4), (5, .inl v5)] [.inl v5, .inl v2, .inr 5, .inr 4] μ (by decide +kernel) rfl rfl (by obtain ⟨G, he, hk⟩ := (h1 (of_decide_eq_false z1)); exact zm_callV (as := [.inr 5, .inl v2, .inl v5]) (rest := [.inr 4]) (P := zpi G) (nx := 72) (a := 93) (b := 3) (k := 5) (sw := []) (zq_of (by decide +kernel)) rfl rfl rfl he (fun _ μ1 hp => by obtain ⟨v, rfl, hp⟩ := hp; exact (zm_V_pick [0, 2, 3, 4, 5] rfl (hk v μ1 hp)))))))

theorem k78_86 {X : zm_T} {d : Nat} {s0 v4 : Int32} {μ : zm_u} {P : Int32 → zm_u → Prop}
    (h0 : P s0 (zm_up μ 4 4 v4)) :
    zV X d 78 86 [(0, .inr 4), (4, .inl v4)] [.inl s0] μ (zpi P) :=
  (zm_run [(86, 88, 2, 5, 0, 0, []), (88, 89, 27, 0, 0, 0, []), (89, 91, 1, 4, 0, 0, []), (91, 94, 5, 4, 4, 0, []), (94, 96, 1, 5, 0, 0, [])] _ _ _ _ [] 96 [(0, .inr 4), (4, .inl v4), (5, .inl s0)] [.inl s0] (zm_up μ 4 4 v4) (by decide +kernel) rfl rfl (zm_iret (nx := 97) (a := 0) (b := 0) (k := 0) (sw := []) (zq_of (by decide +kernel)) ⟨_, rfl, h0⟩))

theorem k78_72 {X : zm_T} {d : Nat} {s1 v2 v3 v4 v5 : Int32} {μ : zm_u} {P : Int32 → zm_u → Prop}
    (h0 : ∃ G : zm_u → Prop, zO X d 79 [.inr 4, .inl s1] μ G ∧ ∀ μ1 : zm_u, G μ1 → zV X d 78 75 [(0, .inr 4), (2, .inl v2), (3, .inl v3), (4, .inl v4), (5, .inl v5)] [] μ1 (zpi P)) :
    zV X d 78 72 [(0, .inr 4), (2, .inl v2), (3, .inl v3), (4, .inl v4), (5, .inl v5)] [.inl s1, .inr 4] μ (zpi P) :=
  (by obtain ⟨G, he, hk⟩ := h0; exact zm_callV (as := [.inr 4, .inl s1]) (rest := []) (P := zpo G) (nx := 75) (a := 79) (b := 2) (k := 4) (sw := []) (zq_of (by decide +kernel)) rfl rfl rfl he (fun _ μ1 hp => by obtain ⟨rfl, hp⟩ := hp; exact (zm_V_pick [0, 2, 3, 4, 5] rfl (hk μ1 hp))))

theorem k78_75 {X : zm_T} {d : Nat} {v2 v3 v4 v5 : Int32} {μ : zm_u} {P : Int32 → zm_u → Prop}
    (h0 : zV X d 78 48 [(0, .inr 4), (2, .inl v2), (3, .inl v3), (4, .inl v4), (5, .inl (v5 + 1))] [] μ (zpi P)) :
    zV X d 78 75 [(0, .inr 4), (2, .inl v2), (3, .inl v3), (4, .inl v4), (5, .inl v5)] [] μ (zpi P) :=
  (zm_run [(75, 78, 3, 5, 0, 1, []), (78, 81, 19, 48, 0, 0, [])] _ _ _ _ [] 48 [(0, .inr 4), (2, .inl v2), (3, .inl v3), (4, .inl v4), (5, .inl (v5 + 1))] [] μ (by decide +kernel) rfl rfl (zm_V_pick [0, 2, 3, 4, 5] rfl h0))

theorem k79_0 {X : zm_T} {d : Nat} {v1 : Int32} {μ : zm_u} {P : zm_u → Prop}
    (h0 : (79 : Int32) ≤ (μ 4 4) → P μ)
    (h1 : ¬ ((79 : Int32) ≤ (μ 4 4)) → 0 ≤ ((μ 4 4)).toInt ∧ ((μ 4 4)).toInt < ((79 : Nat) : Int))
    (h2 : ¬ ((79 : Int32) ≤ (μ 4 4)) → P (zm_up (zm_up μ 15 ((μ 4 4)).toNatClampNeg v1) 4 4 ((μ 4 4) + (1 : Int32)))) :
    zV X d 79 0 [(0, .inr 4), (1, .inl v1)] [] μ (zpo P) :=
  (zm_run [(0, 1, 27, 0, 0, 0, []), (1, 4, 4, 4, 4, 0, []), (4, 6, 0, 0, 0, 79, [])] _ _ _ _ [] 6 [(0, .inr 4), (1, .inl v1)] [.inl (79 : Int32), .inl (μ 4 4)] μ (by decide +kernel) rfl rfl (zm_icmp (nx := 9) (a := 29) (b := 3) (k := 0) (sw := []) (zq_of (by decide +kernel)) (fun z1 => (zm_vret (nx := 30) (a := 0) (b := 0) (k := 0) (sw := []) (zq_of (by decide +kernel)) ⟨rfl, (h0 (of_decide_eq_true z1))⟩)) (fun z1 => (zm_run [(9, 10, 27, 0, 0, 0, []), (10, 13, 4, 2, 4, 0, []), (13, 14, 27, 0, 0, 0, []), (14, 17, 4, 4, 4, 0, []), (17, 18, 1, 1, 0, 0, []), (18, 19, 7, 0, 0, 0, []), (19, 20, 27, 0, 0, 0, []), (20, 21, 16, 0, 0, 0, []), (21, 24, 4, 4, 4, 0, []), (24, 25, 0, 0, 0, 1, []), (25, 26, 10, 0, 0, 0, []), (26, 29, 5, 4, 4, 0, [])] _ _ _ _ [decide (0 ≤ ((μ 4 4)).toInt ∧ ((μ 4 4)).toInt < ((79 : Nat) : Int))] 29 [(0, .inr 4), (1, .inl v1)] [] (zm_up (zm_up μ 15 ((μ 4 4)).toNatClampNeg v1) 4 4 ((μ 4 4) + (1 : Int32))) (by decide +kernel) rfl (zm_bc (h1 (of_decide_eq_false z1)) rfl) (zm_vret (nx := 30) (a := 0) (b := 0) (k := 0) (sw := []) (zq_of (by decide +kernel)) ⟨rfl, (h2 (of_decide_eq_false z1))⟩)))))

theorem k80_0 {X : zm_T} {d : Nat} {μ : zm_u} {P : zm_u → Prop}
    (h0 : P (zm_up (zm_up μ 5 6 (0 : Int32)) 5 7 (0 : Int32))) :
    zV X d 80 0 [(0, .inr 5)] [] μ (zpo P) :=
  (zm_run [(0, 1, 27, 0, 0, 0, []), (1, 2, 0, 0, 0, 0, []), (2, 5, 5, 6, 5, 0, []), (5, 6, 27, 0, 0, 0, []), (6, 7, 0, 0, 0, 0, []), (7, 10, 5, 7, 5, 0, [])] _ _ _ _ [] 10 [(0, .inr 5)] [] (zm_up (zm_up μ 5 6 (0 : Int32)) 5 7 (0 : Int32)) (by decide +kernel) rfl rfl (zm_vret (nx := 11) (a := 0) (b := 0) (k := 0) (sw := []) (zq_of (by decide +kernel)) ⟨rfl, h0⟩))

theorem k81_0 {X : zm_T} {d : Nat} {v1 : Int32} {μ : zm_u} {P : Int32 → zm_u → Prop}
    (h0 : ∃ G : Int32 → zm_u → Prop, zI X d 84 [.inr 5, .inl (1000 : Int32), .inl v1, .inl (-1 : Int32), .inl (-1 : Int32)] μ G ∧ ∀ (r : Int32) (μ1 : zm_u), G r μ1 → zV X d 81 10 [] [.inl r] μ1 (zpi P)) :
    zV X d 81 0 [(0, .inr 5), (1, .inl v1)] [] μ (zpi P) :=
  (zm_run [(0, 1, 27, 0, 0, 0, []), (1, 4, 0, 0, 0, 1000, []), (4, 5, 1, 1, 0, 0, []), (5, 6, 0, 0, 0, (-1), []), (6, 7, 0, 0, 0, (-1), [])] _ _ _ _ [] 7 [(0, .inr 5), (1, .inl v1)] [.inl (-1 : Int32), .inl (-1 : Int32), .inl v1, .inl (1000 : Int32), .inr 5] μ (by decide +kernel) rfl rfl (by obtain ⟨G, he, hk⟩ := h0; exact zm_callV (as := [.inr 5, .inl (1000 : Int32), .inl v1, .inl (-1 : Int32), .inl (-1 : Int32)]) (rest := []) (P := zpi G) (nx := 10) (a := 84) (b := 5) (k := 5) (sw := []) (zq_of (by decide +kernel)) rfl rfl rfl he (fun _ μ1 hp => by obtain ⟨v, rfl, hp⟩ := hp; exact (zm_V_pick [] rfl (hk v μ1 hp)))))

theorem k81_10 {X : zm_T} {d : Nat} {s0 : Int32} {μ : zm_u} {P : Int32 → zm_u → Prop}
    (h0 : P s0 μ) :
    zV X d 81 10 [] [.inl s0] μ (zpi P) :=
  (zm_iret (nx := 11) (a := 0) (b := 0) (k := 0) (sw := []) (zq_of (by decide +kernel)) ⟨_, rfl, h0⟩)

theorem k82_0 {X : zm_T} {d : Nat} {v1 : Int32} {μ : zm_u} {P : Int32 → zm_u → Prop}
    (h0 : v1 = 0 → zV X d 82 14 [] [.inl (1002 : Int32), .inr 5] μ (zpi P))
    (h1 : ¬ (v1 = 0) → zV X d 82 14 [] [.inl (1001 : Int32), .inr 5] μ (zpi P)) :
    zV X d 82 0 [(0, .inr 5), (1, .inl v1)] [] μ (zpi P) :=
  (zm_run [(0, 1, 27, 0, 0, 0, []), (1, 2, 1, 1, 0, 0, [])] _ _ _ _ [] 2 [(0, .inr 5), (1, .inl v1)] [.inl v1, .inr 5] μ (by decide +kernel) rfl rfl (zm_if (nx := 5) (a := 11) (b := 0) (k := 0) (sw := []) (zq_of (by decide +kernel)) (fun z1 => (zm_run [(11, 14, 0, 0, 0, 1002, [])] _ _ _ _ [] 14 [(0, .inr 5), (1, .inl v1)] [.inl (1002 : Int32), .inr 5] μ (by decide +kernel) rfl rfl (zm_V_pick [] rfl (h0 (of_decide_eq_true z1))))) (fun z1 => (zm_run [(5, 8, 0, 0, 0, 1001, []), (8, 11, 19, 14, 0, 0, [])] _ _ _ _ [] 14 [(0, .inr 5), (1, .inl v1)] [.inl (1001 : Int32), .inr 5] μ (by decide +kernel) rfl rfl (zm_V_pick [] rfl (h1 (of_decide_eq_false z1)))))))

theorem k82_14 {X : zm_T} {d : Nat} {s1 : Int32} {μ : zm_u} {P : Int32 → zm_u → Prop}
    (h0 : ∃ G : Int32 → zm_u → Prop, zI X d 84 [.inr 5, .inl s1, .inl (-1 : Int32), .inl (-1 : Int32), .inl (-1 : Int32)] μ G ∧ ∀ (r : Int32) (μ1 : zm_u), G r μ1 → zV X d 82 20 [] [.inl r] μ1 (zpi P)) :
    zV X d 82 14 [] [.inl s1, .inr 5] μ (zpi P) :=
  (zm_run [(14, 15, 0, 0, 0, (-1), []), (15, 16, 0, 0, 0, (-1), []), (16, 17, 0, 0, 0, (-1), [])] _ _ _ _ [] 17 [] [.inl (-1 : Int32), .inl (-1 : Int32), .inl (-1 : Int32), .inl s1, .inr 5] μ (by decide +kernel) rfl rfl (by obtain ⟨G, he, hk⟩ := h0; exact zm_callV (as := [.inr 5, .inl s1, .inl (-1 : Int32), .inl (-1 : Int32), .inl (-1 : Int32)]) (rest := []) (P := zpi G) (nx := 20) (a := 84) (b := 5) (k := 5) (sw := []) (zq_of (by decide +kernel)) rfl rfl rfl he (fun _ μ1 hp => by obtain ⟨v, rfl, hp⟩ := hp; exact (zm_V_pick [] rfl (hk v μ1 hp)))))

theorem k82_20 {X : zm_T} {d : Nat} {s0 : Int32} {μ : zm_u} {P : Int32 → zm_u → Prop}
    (h0 : P s0 μ) :
    zV X d 82 20 [] [.inl s0] μ (zpi P) :=
  (zm_iret (nx := 21) (a := 0) (b := 0) (k := 0) (sw := []) (zq_of (by decide +kernel)) ⟨_, rfl, h0⟩)

theorem k83_0 {X : zm_T} {d : Nat} {v1 v2 v3 v4 : Int32} {μ : zm_u} {P : Int32 → zm_u → Prop}
    (h0 : ¬ v1 = (6 : Int32) → zV X d 83 18 [(2, .inl v2), (3, .inl v3), (4, .inl v4)] [.inl ((1000 : Int32) + v1), .inr 5] μ (zpi P))
    (h1 : v1 = (6 : Int32) → zV X d 83 18 [(2, .inl v2), (3, .inl v3), (4, .inl v4)] [.inl (1003 : Int32), .inr 5] μ (zpi P)) :
    zV X d 83 0 [(0, .inr 5), (1, .inl v1), (2, .inl v2), (3, .inl v3), (4, .inl v4)] [] μ (zpi P) :=
  (zm_run [(0, 1, 27, 0, 0, 0, []), (1, 2, 1, 1, 0, 0, []), (2, 4, 0, 0, 0, 6, [])] _ _ _ _ [] 4 [(0, .inr 5), (1, .inl v1), (2, .inl v2), (3, .inl v3), (4, .inl v4)] [.inl (6 : Int32), .inl v1, .inr 5] μ (by decide +kernel) rfl rfl (zm_icmp (nx := 7) (a := 13) (b := 1) (k := 0) (sw := []) (zq_of (by decide +kernel)) (fun z1 => (zm_run [(13, 16, 0, 0, 0, 1000, []), (16, 17, 1, 1, 0, 0, []), (17, 18, 10, 0, 0, 0, [])] _ _ _ _ [] 18 [(0, .inr 5), (1, .inl v1), (2, .inl v2), (3, .inl v3), (4, .inl v4)] [.inl ((1000 : Int32) + v1), .inr 5] μ (by decide +kernel) rfl rfl (zm_V_pick [2, 3, 4] rfl (h0 (of_decide_eq_true z1))))) (fun z1 => (zm_run [(7, 10, 0, 0, 0, 1003, []), (10, 13, 19, 18, 0, 0, [])] _ _ _ _ [] 18 [(0, .inr 5), (1, .inl v1), (2, .inl v2), (3, .inl v3), (4, .inl v4)] [.inl (1003 : Int32), .inr 5] μ (by decide +kernel) rfl rfl (zm_V_pick [2, 3, 4] rfl (h1 (Classical.byContradiction fun w => (of_decide_eq_false z1) w)))))))

theorem k83_18 {X : zm_T} {d : Nat} {s1 v2 v3 v4 : Int32} {μ : zm_u} {P : Int32 → zm_u → Prop}
    (h0 : ∃ G : Int32 → zm_u → Prop, zI X d 84 [.inr 5, .inl s1, .inl v2, .inl v3, .inl v4] μ G ∧ ∀ (r : Int32) (μ1 : zm_u), G r μ1 → zV X d 83 25 [] [.inl r] μ1 (zpi P)) :
    zV X d 83 18 [(2, .inl v2), (3, .inl v3), (4, .inl v4)] [.inl s1, .inr 5] μ (zpi P) :=
  (zm_run [(18, 19, 1, 2, 0, 0, []), (19, 20, 1, 3, 0, 0, []), (20, 22, 1, 4, 0, 0, [])] _ _ _ _ [] 22 [(2, .inl v2), (3, .inl v3), (4, .inl v4)] [.inl v4, .inl v3, .inl v2, .inl s1, .inr 5] μ (by decide +kernel) rfl rfl (by obtain ⟨G, he, hk⟩ := h0; exact zm_callV (as := [.inr 5, .inl s1, .inl v2, .inl v3, .inl v4]) (rest := []) (P := zpi G) (nx := 25) (a := 84) (b := 5) (k := 5) (sw := []) (zq_of (by decide +kernel)) rfl rfl rfl he (fun _ μ1 hp => by obtain ⟨v, rfl, hp⟩ := hp; exact (zm_V_pick [] rfl (hk v μ1 hp)))))

theorem k83_25 {X : zm_T} {d : Nat} {s0 : Int32} {μ : zm_u} {P : Int32 → zm_u → Prop}
    (h0 : P s0 μ) :
    zV X d 83 25 [] [.inl s0] μ (zpi P) :=
  (zm_iret (nx := 26) (a := 0) (b := 0) (k := 0) (sw := []) (zq_of (by decide +kernel)) ⟨_, rfl, h0⟩)

theorem k84_0 {X : zm_T} {d : Nat} {v1 v2 v3 v4 : Int32} {μ : zm_u} {P : Int32 → zm_u → Prop}
    (h0 : (μ 5 6) < (600 : Int32) → 0 ≤ ((μ 5 6)).toInt ∧ ((μ 5 6)).toInt < ((600 : Nat) : Int))
    (h1 : (μ 5 6) < (600 : Int32) → 0 ≤ ((μ 5 6)).toInt ∧ ((μ 5 6)).toInt < ((600 : Nat) : Int))
    (h2 : (μ 5 6) < (600 : Int32) → 0 ≤ ((μ 5 6)).toInt ∧ ((μ 5 6)).toInt < ((600 : Nat) : Int))
    (h3 : (μ 5 6) < (600 : Int32) → 0 ≤ ((μ 5 6)).toInt ∧ ((μ 5 6)).toInt < ((600 : Nat) : Int))
    (h4 : (μ 5 6) < (600 : Int32) → P (((μ 5 6) + (1 : Int32)) - (1 : Int32)) (zm_up (zm_up (zm_up (zm_up (zm_up μ 16 ((μ 5 6)).toNatClampNeg v1) 17 ((μ 5 6)).toNatClampNeg v2) 18 ((μ 5 6)).toNatClampNeg v3) 19 ((μ 5 6)).toNatClampNeg v4) 5 6 ((μ 5 6) + (1 : Int32))))
    (h5 : ¬ ((μ 5 6) < (600 : Int32)) → P (-1 : Int32) μ) :
    zV X d 84 0 [(0, .inr 5), (1, .inl v1), (2, .inl v2), (3, .inl v3), (4, .inl v4)] [] μ (zpi P) :=
  (zm_run [(0, 1, 27, 0, 0, 0, []), (1, 4, 4, 6, 5, 0, []), (4, 7, 0, 0, 0, 600, [])] _ _ _ _ [] 7 [(0, .inr 5), (1, .inl v1), (2, .inl v2), (3, .inl v3), (4, .inl v4)] [.inl (600 : Int32), .inl (μ 5 6)] μ (by decide +kernel) rfl rfl (zm_icmp (nx := 10) (a := 12) (b := 2) (k := 0) (sw := []) (zq_of (by decide +kernel)) (fun z1 => (zm_run [(12, 13, 27, 0, 0, 0, []), (13, 16, 4, 0, 5, 0, []), (16, 17, 27, 0, 0, 0, []), (17, 20, 4, 6, 5, 0, []), (20, 21, 1, 1, 0, 0, []), (21, 22, 7, 0, 0, 0, []), (22, 23, 27, 0, 0, 0, []), (23, 26, 4, 1, 5, 0, []), (26, 27, 27, 0, 0, 0, []), (27, 30, 4, 6, 5, 0, []), (30, 31, 1, 2, 0, 0, []), (31, 32, 7, 0, 0, 0, []), (32, 33, 27, 0, 0, 0, []), (33, 36, 4, 2, 5, 0, []), (36, 37, 27, 0, 0, 0, []), (37, 40, 4, 6, 5, 0, []), (40, 41, 1, 3, 0, 0, []), (41, 42, 7, 0, 0, 0, []), (42, 43, 27, 0, 0, 0, []), (43, 46, 4, 3, 5, 0, []), (46, 47, 27, 0, 0, 0, []), (47, 50, 4, 6, 5, 0, []), (50, 52, 1, 4, 0, 0, []), (52, 53, 7, 0, 0, 0, []), (53, 54, 27, 0, 0, 0, []), (54, 55, 16, 0, 0, 0, []), (55, 58, 4, 6, 5, 0, []), (58, 59, 0, 0, 0, 1, []), (59, 60, 10, 0, 0, 0, []), (60, 63, 5, 6, 5, 0, []), (63, 64, 27, 0, 0, 0, []), (64, 67, 4, 6, 5, 0, []), (67, 68, 0, 0, 0, 1, []), (68, 69, 11, 0, 0, 0, [])] _ _ _ _ [decide (0 ≤ ((μ 5 6)).toInt ∧ ((μ 5 6)).toInt < ((600 : Nat) : Int)), decide (0 ≤ ((μ 5 6)).toInt ∧ ((μ 5 6)).toInt < ((600 : Nat) : Int)), decide (0 ≤ ((μ 5 6)).toInt ∧ ((μ 5 6)).toInt < ((600 : Nat) : Int)), decide (0 ≤ ((μ 5 6)).toInt ∧ ((μ 5 6)).toInt < ((600 : Nat) : Int))] 69 [(0, .inr 5), (1, .inl v1), (2, .inl v2), (3, .inl v3), (4, .inl v4)] [.inl (((μ 5 6) + (1 : Int32)) - (1 : Int32))] (zm_up (zm_up (zm_up (zm_up (zm_up μ 16 ((μ 5 6)).toNatClampNeg v1) 17 ((μ 5 6)).toNatClampNeg v2) 18 ((μ 5 6)).toNatClampNeg v3) 19 ((μ 5 6)).toNatClampNeg v4) 5 6 ((μ 5 6) + (1 : Int32))) (by decide +kernel) rfl (zm_bc (h0 (of_decide_eq_true z1)) (zm_bc (h1 (of_decide_eq_true z1)) (zm_bc (h2 (of_decide_eq_true z1)) (zm_bc (h3 (of_decide_eq_true z1)) rfl)))) (zm_iret (nx := 70) (a := 0) (b := 0) (k := 0) (sw := []) (zq_of (by decide +kernel)) ⟨_, rfl, (h4 (of_decide_eq_true z1))⟩))) (fun z1 => (zm_run [(10, 11, 0, 0, 0, (-1), [])] _ _ _ _ [] 11 [(0, .inr 5), (1, .inl v1), (2, .inl v2), (3, .inl v3), (4, .inl v4)] [.inl (-1 : Int32)] μ (by decide +kernel) rfl rfl (zm_iret (nx := 12) (a := 0) (b := 0) (k := 0) (sw := []) (zq_of (by decide +kernel)) ⟨_, rfl, (h5 (of_decide_eq_false z1))⟩)))))

theorem k85_0 {X : zm_T} {d : Nat} {v1 : Int32} {μ : zm_u} {P : Int32 → zm_u → Prop}
    (h0 : ∃ G : Int32 → zm_u → Prop, zI X d 94 [.inr 5, .inl v1] μ G ∧ ∀ (r : Int32) (μ1 : zm_u), G r μ1 → zV X d 85 5 [] [.inl r] μ1 (zpi P)) :
    zV X d 85 0 [(0, .inr 5), (1, .inl v1)] [] μ (zpi P) :=
  (zm_run [(0, 1, 27, 0, 0, 0, []), (1, 2, 1, 1, 0, 0, [])] _ _ _ _ [] 2 [(0, .inr 5), (1, .inl v1)] [.inl v1, .inr 5] μ (by decide +kernel) rfl rfl (by obtain ⟨G, he, hk⟩ := h0; exact zm_callV (as := [.inr 5, .inl v1]) (rest := []) (P := zpi G) (nx := 5) (a := 94) (b := 2) (k := 5) (sw := []) (zq_of (by decide +kernel)) rfl rfl rfl he (fun _ μ1 hp => by obtain ⟨v, rfl, hp⟩ := hp; exact (zm_V_pick [] rfl (hk v μ1 hp)))))

theorem k85_5 {X : zm_T} {d : Nat} {s0 : Int32} {μ : zm_u} {P : Int32 → zm_u → Prop}
    (h0 : ¬ s0 = (1000 : Int32) → P (0 : Int32) μ)
    (h1 : s0 = (1000 : Int32) → P (1 : Int32) μ) :
    zV X d 85 5 [] [.inl s0] μ (zpi P) :=
  (zm_run [(5, 8, 0, 0, 0, 1000, [])] _ _ _ _ [] 8 [] [.inl (1000 : Int32), .inl s0] μ (by decide +kernel) rfl rfl (zm_icmp (nx := 11) (a := 15) (b := 1) (k := 0) (sw := []) (zq_of (by decide +kernel)) (fun z1 => (zm_run [(15, 16, 0, 0, 0, 0, [])] _ _ _ _ [] 16 [] [.inl (0 : Int32)] μ (by decide +kernel) rfl rfl (zm_zret (nx := 17) (a := 0) (b := 0) (k := 0) (sw := []) (zq_of (by decide +kernel)) (Or.inl rfl) ⟨_, rfl, (h0 (of_decide_eq_true z1))⟩))) (fun z1 => (zm_run [(11, 12, 0, 0, 0, 1, []), (12, 15, 19, 16, 0, 0, [])] _ _ _ _ [] 16 [] [.inl (1 : Int32)] μ (by decide +kernel) rfl rfl (zm_zret (nx := 17) (a := 0) (b := 0) (k := 0) (sw := []) (zq_of (by decide +kernel)) (Or.inr rfl) ⟨_, rfl, (h1 (Classical.byContradiction fun w => (of_decide_eq_false z1) w))⟩)))))

theorem k86_0 {X : zm_T} {d : Nat} {v1 : Int32} {μ : zm_u} {P : Int32 → zm_u → Prop}
    (h0 : ∃ G : Int32 → zm_u → Prop, zI X d 94 [.inr 5, .inl v1] μ G ∧ ∀ (r : Int32) (μ1 : zm_u), G r μ1 → zV X d 86 5 [(0, .inr 5), (1, .inl v1)] [.inl r] μ1 (zpi P)) :
    zV X d 86 0 [(0, .inr 5), (1, .inl v1)] [] μ (zpi P) :=
  (zm_run [(0, 1, 27, 0, 0, 0, []), (1, 2, 1, 1, 0, 0, [])] _ _ _ _ [] 2 [(0, .inr 5), (1, .inl v1)] [.inl v1, .inr 5] μ (by decide +kernel) rfl rfl (by obtain ⟨G, he, hk⟩ := h0; exact zm_callV (as := [.inr 5, .inl v1]) (rest := []) (P := zpi G) (nx := 5) (a := 94) (b := 2) (k := 5) (sw := []) (zq_of (by decide +kernel)) rfl rfl rfl he (fun _ μ1 hp => by obtain ⟨v, rfl, hp⟩ := hp; exact (zm_V_pick [0, 1] rfl (hk v μ1 hp)))))

theorem k86_5 {X : zm_T} {d : Nat} {s0 v1 : Int32} {μ : zm_u} {P : Int32 → zm_u → Prop}
    (h0 : s0 = (1001 : Int32) → P (1 : Int32) μ)
    (h1 : ¬ (s0 = (1001 : Int32)) → ∃ G : Int32 → zm_u → Prop, zI X d 94 [.inr 5, .inl v1] μ G ∧ ∀ (r : Int32) (μ1 : zm_u), G r μ1 → zV X d 86 16 [] [.inl r] μ1 (zpi P)) :
    zV X d 86 5 [(0, .inr 5), (1, .inl v1)] [.inl s0] μ (zpi P) :=
  (zm_run [(5, 8, 0, 0, 0, 1001, [])] _ _ _ _ [] 8 [(0, .inr 5), (1, .inl v1)] [.inl (1001 : Int32), .inl s0] μ (by decide +kernel) rfl rfl (zm_icmp (nx := 11) (a := 22) (b := 0) (k := 0) (sw := []) (zq_of (by decide +kernel)) (fun z1 => (zm_run [(22, 23, 0, 0, 0, 1, []), (23, 26, 19, 27, 0, 0, [])] _ _ _ _ [] 27 [(0, .inr 5), (1, .inl v1)] [.inl (1 : Int32)] μ (by decide +kernel) rfl rfl (zm_zret (nx := 28) (a := 0) (b := 0) (k := 0) (sw := []) (zq_of (by decide +kernel)) (Or.inr rfl) ⟨_, rfl, (h0 (of_decide_eq_true z1))⟩))) (fun z1 => (zm_run [(11, 12, 27, 0, 0, 0, []), (12, 13, 1, 1, 0, 0, [])] _ _ _ _ [] 13 [(0, .inr 5), (1, .inl v1)] [.inl v1, .inr 5] μ (by decide +kernel) rfl rfl (by obtain ⟨G, he, hk⟩ := (h1 (of_decide_eq_false z1)); exact zm_callV (as := [.inr 5, .inl v1]) (rest := []) (P := zpi G) (nx := 16) (a := 94) (b := 2) (k := 5) (sw := []) (zq_of (by decide +kernel)) rfl rfl rfl he (fun _ μ1 hp => by obtain ⟨v, rfl, hp⟩ := hp; exact (zm_V_pick [] rfl (hk v μ1 hp))))))))

theorem k86_16 {X : zm_T} {d : Nat} {s0 : Int32} {μ : zm_u} {P : Int32 → zm_u → Prop}
    (h0 : ¬ s0 = (1002 : Int32) → P (0 : Int32) μ)
    (h1 : s0 = (1002 : Int32) → P (1 : Int32) μ) :
    zV X d 86 16 [] [.inl s0] μ (zpi P) :=
  (zm_run [(16, 19, 0, 0, 0, 1002, [])] _ _ _ _ [] 19 [] [.inl (1002 : Int32), .inl s0] μ (by decide +kernel) rfl rfl (zm_icmp (nx := 22) (a := 26) (b := 1) (k := 0) (sw := []) (zq_of (by decide +kernel)) (fun z1 => (zm_run [(26, 27, 0, 0, 0, 0, [])] _ _ _ _ [] 27 [] [.inl (0 : Int32)] μ (by decide +kernel) rfl rfl (zm_zret (nx := 28) (a := 0) (b := 0) (k := 0) (sw := []) (zq_of (by decide +kernel)) (Or.inl rfl) ⟨_, rfl, (h0 (of_decide_eq_true z1))⟩))) (fun z1 => (zm_run [(22, 23, 0, 0, 0, 1, []), (23, 26, 19, 27, 0, 0, [])] _ _ _ _ [] 27 [] [.inl (1 : Int32)] μ (by decide +kernel) rfl rfl (zm_zret (nx := 28) (a := 0) (b := 0) (k := 0) (sw := []) (zq_of (by decide +kernel)) (Or.inr rfl) ⟨_, rfl, (h1 (Classical.byContradiction fun w => (of_decide_eq_false z1) w))⟩)))))

theorem k87_0 {X : zm_T} {d : Nat} {v1 : Int32} {μ : zm_u} {P : Int32 → zm_u → Prop}
    (h0 : ∃ G : Int32 → zm_u → Prop, zI X d 94 [.inr 5, .inl v1] μ G ∧ ∀ (r : Int32) (μ1 : zm_u), G r μ1 → zV X d 87 5 [] [.inl r] μ1 (zpi P)) :
    zV X d 87 0 [(0, .inr 5), (1, .inl v1)] [] μ (zpi P) :=
  (zm_run [(0, 1, 27, 0, 0, 0, []), (1, 2, 1, 1, 0, 0, [])] _ _ _ _ [] 2 [(0, .inr 5), (1, .inl v1)] [.inl v1, .inr 5] μ (by decide +kernel) rfl rfl (by obtain ⟨G, he, hk⟩ := h0; exact zm_callV (as := [.inr 5, .inl v1]) (rest := []) (P := zpi G) (nx := 5) (a := 94) (b := 2) (k := 5) (sw := []) (zq_of (by decide +kernel)) rfl rfl rfl he (fun _ μ1 hp => by obtain ⟨v, rfl, hp⟩ := hp; exact (zm_V_pick [] rfl (hk v μ1 hp)))))

theorem k87_5 {X : zm_T} {d : Nat} {s0 : Int32} {μ : zm_u} {P : Int32 → zm_u → Prop}
    (h0 : ¬ s0 = (1001 : Int32) → P (0 : Int32) μ)
    (h1 : s0 = (1001 : Int32) → P (1 : Int32) μ) :
    zV X d 87 5 [] [.inl s0] μ (zpi P) :=
  (zm_run [(5, 8, 0, 0, 0, 1001, [])] _ _ _ _ [] 8 [] [.inl (1001 : Int32), .inl s0] μ (by decide +kernel) rfl rfl (zm_icmp (nx := 11) (a := 15) (b := 1) (k := 0) (sw := []) (zq_of (by decide +kernel)) (fun z1 => (zm_run [(15, 16, 0, 0, 0, 0, [])] _ _ _ _ [] 16 [] [.inl (0 : Int32)] μ (by decide +kernel) rfl rfl (zm_zret (nx := 17) (a := 0) (b := 0) (k := 0) (sw := []) (zq_of (by decide +kernel)) (Or.inl rfl) ⟨_, rfl, (h0 (of_decide_eq_true z1))⟩))) (fun z1 => (zm_run [(11, 12, 0, 0, 0, 1, []), (12, 15, 19, 16, 0, 0, [])] _ _ _ _ [] 16 [] [.inl (1 : Int32)] μ (by decide +kernel) rfl rfl (zm_zret (nx := 17) (a := 0) (b := 0) (k := 0) (sw := []) (zq_of (by decide +kernel)) (Or.inr rfl) ⟨_, rfl, (h1 (Classical.byContradiction fun w => (of_decide_eq_false z1) w))⟩)))))

theorem k88_0 {X : zm_T} {d : Nat} {v1 : Int32} {μ : zm_u} {P : Int32 → zm_u → Prop}
    (h0 : ∃ G : Int32 → zm_u → Prop, zI X d 94 [.inr 5, .inl v1] μ G ∧ ∀ (r : Int32) (μ1 : zm_u), G r μ1 → zV X d 88 5 [] [.inl r] μ1 (zpi P)) :
    zV X d 88 0 [(0, .inr 5), (1, .inl v1)] [] μ (zpi P) :=
  (zm_run [(0, 1, 27, 0, 0, 0, []), (1, 2, 1, 1, 0, 0, [])] _ _ _ _ [] 2 [(0, .inr 5), (1, .inl v1)] [.inl v1, .inr 5] μ (by decide +kernel) rfl rfl (by obtain ⟨G, he, hk⟩ := h0; exact zm_callV (as := [.inr 5, .inl v1]) (rest := []) (P := zpi G) (nx := 5) (a := 94) (b := 2) (k := 5) (sw := []) (zq_of (by decide +kernel)) rfl rfl rfl he (fun _ μ1 hp => by obtain ⟨v, rfl, hp⟩ := hp; exact (zm_V_pick [] rfl (hk v μ1 hp)))))

theorem k88_5 {X : zm_T} {d : Nat} {s0 : Int32} {μ : zm_u} {P : Int32 → zm_u → Prop}
    (h0 : ¬ s0 = (1003 : Int32) → P (0 : Int32) μ)
    (h1 : s0 = (1003 : Int32) → P (1 : Int32) μ) :
    zV X d 88 5 [] [.inl s0] μ (zpi P) :=
  (zm_run [(5, 8, 0, 0, 0, 1003, [])] _ _ _ _ [] 8 [] [.inl (1003 : Int32), .inl s0] μ (by decide +kernel) rfl rfl (zm_icmp (nx := 11) (a := 15) (b := 1) (k := 0) (sw := []) (zq_of (by decide +kernel)) (fun z1 => (zm_run [(15, 16, 0, 0, 0, 0, [])] _ _ _ _ [] 16 [] [.inl (0 : Int32)] μ (by decide +kernel) rfl rfl (zm_zret (nx := 17) (a := 0) (b := 0) (k := 0) (sw := []) (zq_of (by decide +kernel)) (Or.inl rfl) ⟨_, rfl, (h0 (of_decide_eq_true z1))⟩))) (fun z1 => (zm_run [(11, 12, 0, 0, 0, 1, []), (12, 15, 19, 16, 0, 0, [])] _ _ _ _ [] 16 [] [.inl (1 : Int32)] μ (by decide +kernel) rfl rfl (zm_zret (nx := 17) (a := 0) (b := 0) (k := 0) (sw := []) (zq_of (by decide +kernel)) (Or.inr rfl) ⟨_, rfl, (h1 (Classical.byContradiction fun w => (of_decide_eq_false z1) w))⟩)))))

theorem k89_0 {X : zm_T} {d : Nat} {v1 : Int32} {μ : zm_u} {P : Int32 → zm_u → Prop}
    (h0 : ∃ G : Int32 → zm_u → Prop, zI X d 94 [.inr 5, .inl v1] μ G ∧ ∀ (r : Int32) (μ1 : zm_u), G r μ1 → zV X d 89 5 [] [.inl r] μ1 (zpi P)) :
    zV X d 89 0 [(0, .inr 5), (1, .inl v1)] [] μ (zpi P) :=
  (zm_run [(0, 1, 27, 0, 0, 0, []), (1, 2, 1, 1, 0, 0, [])] _ _ _ _ [] 2 [(0, .inr 5), (1, .inl v1)] [.inl v1, .inr 5] μ (by decide +kernel) rfl rfl (by obtain ⟨G, he, hk⟩ := h0; exact zm_callV (as := [.inr 5, .inl v1]) (rest := []) (P := zpi G) (nx := 5) (a := 94) (b := 2) (k := 5) (sw := []) (zq_of (by decide +kernel)) rfl rfl rfl he (fun _ μ1 hp => by obtain ⟨v, rfl, hp⟩ := hp; exact (zm_V_pick [] rfl (hk v μ1 hp)))))

theorem k89_5 {X : zm_T} {d : Nat} {s0 : Int32} {μ : zm_u} {P : Int32 → zm_u → Prop}
    (h0 : ∃ G : Int32 → zm_u → Prop, zI X d 13 [.inl (s0 - (1000 : Int32))] μ G ∧ ∀ (r : Int32) (μ1 : zm_u), G r μ1 → zV X d 89 12 [] [.inl r] μ1 (zpi P)) :
    zV X d 89 5 [] [.inl s0] μ (zpi P) :=
  (zm_run [(5, 8, 0, 0, 0, 1000, []), (8, 9, 11, 0, 0, 0, [])] _ _ _ _ [] 9 [] [.inl (s0 - (1000 : Int32))] μ (by decide +kernel) rfl rfl (by obtain ⟨G, he, hk⟩ := h0; exact zm_callS (as := [.inl (s0 - (1000 : Int32))]) (rest := []) (P := zpi G) (nx := 12) (a := 13) (b := 1) (k := 0) (sw := []) (zq_of (by decide +kernel)) rfl rfl rfl he (fun _ μ1 hp => by obtain ⟨v, rfl, hp⟩ := hp; exact (zm_V_pick [] rfl (hk v μ1 hp)))))

theorem k89_12 {X : zm_T} {d : Nat} {s0 : Int32} {μ : zm_u} {P : Int32 → zm_u → Prop}
    (h0 : s0 = 0 ∨ s0 = 1)
    (h1 : P s0 μ) :
    zV X d 89 12 [] [.inl s0] μ (zpi P) :=
  (zm_zret (nx := 13) (a := 0) (b := 0) (k := 0) (sw := []) (zq_of (by decide +kernel)) h0 ⟨_, rfl, h1⟩)

theorem k90_0 {X : zm_T} {d : Nat} {v1 : Int32} {μ : zm_u} {P : Int32 → zm_u → Prop}
    (h0 : ∃ G : Int32 → zm_u → Prop, zI X d 94 [.inr 5, .inl v1] μ G ∧ ∀ (r : Int32) (μ1 : zm_u), G r μ1 → zV X d 90 5 [] [.inl r] μ1 (zpi P)) :
    zV X d 90 0 [(0, .inr 5), (1, .inl v1)] [] μ (zpi P) :=
  (zm_run [(0, 1, 27, 0, 0, 0, []), (1, 2, 1, 1, 0, 0, [])] _ _ _ _ [] 2 [(0, .inr 5), (1, .inl v1)] [.inl v1, .inr 5] μ (by decide +kernel) rfl rfl (by obtain ⟨G, he, hk⟩ := h0; exact zm_callV (as := [.inr 5, .inl v1]) (rest := []) (P := zpi G) (nx := 5) (a := 94) (b := 2) (k := 5) (sw := []) (zq_of (by decide +kernel)) rfl rfl rfl he (fun _ μ1 hp => by obtain ⟨v, rfl, hp⟩ := hp; exact (zm_V_pick [] rfl (hk v μ1 hp)))))

theorem k90_5 {X : zm_T} {d : Nat} {s0 : Int32} {μ : zm_u} {P : Int32 → zm_u → Prop}
    (h0 : P (s0 - (1000 : Int32)) μ) :
    zV X d 90 5 [] [.inl s0] μ (zpi P) :=
  (zm_run [(5, 8, 0, 0, 0, 1000, []), (8, 9, 11, 0, 0, 0, [])] _ _ _ _ [] 9 [] [.inl (s0 - (1000 : Int32))] μ (by decide +kernel) rfl rfl (zm_iret (nx := 10) (a := 0) (b := 0) (k := 0) (sw := []) (zq_of (by decide +kernel)) ⟨_, rfl, h0⟩))

theorem k91_0 {X : zm_T} {d : Nat} {v1 : Int32} {μ : zm_u} {P : Int32 → zm_u → Prop}
    (h0 : ∃ G : Int32 → zm_u → Prop, zI X d 85 [.inr 5, .inl v1] μ G ∧ ∀ (r : Int32) (μ1 : zm_u), G r μ1 → zV X d 91 5 [(0, .inr 5), (1, .inl v1)] [.inl r] μ1 (zpi P)) :
    zV X d 91 0 [(0, .inr 5), (1, .inl v1)] [] μ (zpi P) :=
  (zm_run [(0, 1, 27, 0, 0, 0, []), (1, 2, 1, 1, 0, 0, [])] _ _ _ _ [] 2 [(0, .inr 5), (1, .inl v1)] [.inl v1, .inr 5] μ (by decide +kernel) rfl rfl (by obtain ⟨G, he, hk⟩ := h0; exact zm_callV (as := [.inr 5, .inl v1]) (rest := []) (P := zpi G) (nx := 5) (a := 85) (b := 2) (k := 5) (sw := []) (zq_of (by decide +kernel)) rfl rfl rfl he (fun _ μ1 hp => by obtain ⟨v, rfl, hp⟩ := hp; exact (zm_V_pick [0, 1] rfl (hk v μ1 hp)))))

theorem k91_5 {X : zm_T} {d : Nat} {s0 v1 : Int32} {μ : zm_u} {P : Int32 → zm_u → Prop}
    (h0 : s0 = 0 → P (0 : Int32) μ)
    (h1 : ¬ (s0 = 0) → 0 ≤ (v1).toInt ∧ (v1).toInt < ((600 : Nat) : Int))
    (h2 : ¬ (s0 = 0) → P (μ 17 (v1).toNatClampNeg) μ) :
    zV X d 91 5 [(0, .inr 5), (1, .inl v1)] [.inl s0] μ (zpi P) :=
  (zm_if (nx := 8) (a := 17) (b := 0) (k := 0) (sw := []) (zq_of (by decide +kernel)) (fun z1 => (zm_run [(17, 18, 0, 0, 0, 0, [])] _ _ _ _ [] 18 [(0, .inr 5), (1, .inl v1)] [.inl (0 : Int32)] μ (by decide +kernel) rfl rfl (zm_iret (nx := 19) (a := 0) (b := 0) (k := 0) (sw := []) (zq_of (by decide +kernel)) ⟨_, rfl, (h0 (of_decide_eq_true z1))⟩))) (fun z1 => (zm_run [(8, 9, 27, 0, 0, 0, []), (9, 12, 4, 1, 5, 0, []), (12, 13, 1, 1, 0, 0, []), (13, 14, 6, 0, 0, 0, []), (14, 17, 19, 18, 0, 0, [])] _ _ _ _ [decide (0 ≤ (v1).toInt ∧ (v1).toInt < ((600 : Nat) : Int))] 18 [(0, .inr 5), (1, .inl v1)] [.inl (μ 17 (v1).toNatClampNeg)] μ (by decide +kernel) rfl (zm_bc (h1 (of_decide_eq_false z1)) rfl) (zm_iret (nx := 19) (a := 0) (b := 0) (k := 0) (sw := []) (zq_of (by decide +kernel)) ⟨_, rfl, (h2 (of_decide_eq_false z1))⟩))))

theorem k92_0 {X : zm_T} {d : Nat} {v1 : Int32} {μ : zm_u} {P : Int32 → zm_u → Prop}
    (h0 : ∃ G : Int32 → zm_u → Prop, zI X d 88 [.inr 5, .inl v1] μ G ∧ ∀ (r : Int32) (μ1 : zm_u), G r μ1 → zV X d 92 5 [(0, .inr 5), (1, .inl v1)] [.inl r] μ1 (zpi P)) :
    zV X d 92 0 [(0, .inr 5), (1, .inl v1)] [] μ (zpi P) :=
  (zm_run [(0, 1, 27, 0, 0, 0, []), (1, 2, 1, 1, 0, 0, [])] _ _ _ _ [] 2 [(0, .inr 5), (1, .inl v1)] [.inl v1, .inr 5] μ (by decide +kernel) rfl rfl (by obtain ⟨G, he, hk⟩ := h0; exact zm_callV (as := [.inr 5, .inl v1]) (rest := []) (P := zpi G) (nx := 5) (a := 88) (b := 2) (k := 5) (sw := []) (zq_of (by decide +kernel)) rfl rfl rfl he (fun _ μ1 hp => by obtain ⟨v, rfl, hp⟩ := hp; exact (zm_V_pick [0, 1] rfl (hk v μ1 hp)))))

theorem k92_5 {X : zm_T} {d : Nat} {s0 v1 : Int32} {μ : zm_u} {P : Int32 → zm_u → Prop}
    (h0 : s0 = 0 → ∃ G : Int32 → zm_u → Prop, zI X d 89 [.inr 5, .inl v1] μ G ∧ ∀ (r : Int32) (μ1 : zm_u), G r μ1 → zV X d 92 15 [(0, .inr 5), (1, .inl v1)] [.inl r] μ1 (zpi P))
    (h1 : ¬ (s0 = 0) → P (2 : Int32) μ) :
    zV X d 92 5 [(0, .inr 5), (1, .inl v1)] [.inl s0] μ (zpi P) :=
  (zm_if (nx := 8) (a := 10) (b := 0) (k := 0) (sw := []) (zq_of (by decide +kernel)) (fun z1 => (zm_run [(10, 11, 27, 0, 0, 0, []), (11, 12, 1, 1, 0, 0, [])] _ _ _ _ [] 12 [(0, .inr 5), (1, .inl v1)] [.inl v1, .inr 5] μ (by decide +kernel) rfl rfl (by obtain ⟨G, he, hk⟩ := (h0 (of_decide_eq_true z1)); exact zm_callV (as := [.inr 5, .inl v1]) (rest := []) (P := zpi G) (nx := 15) (a := 89) (b := 2) (k := 5) (sw := []) (zq_of (by decide +kernel)) rfl rfl rfl he (fun _ μ1 hp => by obtain ⟨v, rfl, hp⟩ := hp; exact (zm_V_pick [0, 1] rfl (hk v μ1 hp)))))) (fun z1 => (zm_run [(8, 9, 0, 0, 0, 2, [])] _ _ _ _ [] 9 [(0, .inr 5), (1, .inl v1)] [.inl (2 : Int32)] μ (by decide +kernel) rfl rfl (zm_iret (nx := 10) (a := 0) (b := 0) (k := 0) (sw := []) (zq_of (by decide +kernel)) ⟨_, rfl, (h1 (of_decide_eq_false z1))⟩))))

theorem k92_15 {X : zm_T} {d : Nat} {s0 v1 : Int32} {μ : zm_u} {P : Int32 → zm_u → Prop}
    (h0 : s0 = 0 → P (0 : Int32) μ)
    (h1 : ¬ (s0 = 0) → ∃ G : Int32 → zm_u → Prop, zI X d 90 [.inr 5, .inl v1] μ G ∧ ∀ (r : Int32) (μ1 : zm_u), G r μ1 → zV X d 92 26 [] [.inl r, .inr 100] μ1 (zpi P)) :
    zV X d 92 15 [(0, .inr 5), (1, .inl v1)] [.inl s0] μ (zpi P) :=
  (zm_if (nx := 18) (a := 30) (b := 0) (k := 0) (sw := []) (zq_of (by decide +kernel)) (fun z1 => (zm_run [(30, 31, 0, 0, 0, 0, [])] _ _ _ _ [] 31 [(0, .inr 5), (1, .inl v1)] [.inl (0 : Int32)] μ (by decide +kernel) rfl rfl (zm_iret (nx := 32) (a := 0) (b := 0) (k := 0) (sw := []) (zq_of (by decide +kernel)) ⟨_, rfl, (h0 (of_decide_eq_true z1))⟩))) (fun z1 => (zm_run [(18, 21, 21, 0, 0, 0, []), (21, 22, 27, 0, 0, 0, []), (22, 23, 1, 1, 0, 0, [])] _ _ _ _ [] 23 [(0, .inr 5), (1, .inl v1)] [.inl v1, .inr 5, .inr 100] μ (by decide +kernel) rfl rfl (by obtain ⟨G, he, hk⟩ := (h1 (of_decide_eq_false z1)); exact zm_callV (as := [.inr 5, .inl v1]) (rest := [.inr 100]) (P := zpi G) (nx := 26) (a := 90) (b := 2) (k := 5) (sw := []) (zq_of (by decide +kernel)) rfl rfl rfl he (fun _ μ1 hp => by obtain ⟨v, rfl, hp⟩ := hp; exact (zm_V_pick [] rfl (hk v μ1 hp)))))))

theorem k92_26 {X : zm_T} {d : Nat} {s1 : Int32} {μ : zm_u} {P : Int32 → zm_u → Prop}
    (h0 : 0 ≤ (s1).toInt ∧ (s1).toInt < 18)
    (h1 : P (zm_pt (s1).toNatClampNeg) μ) :
    zV X d 92 26 [] [.inl s1, .inr 100] μ (zpi P) :=
  (zm_run [(26, 27, 20, 0, 0, 0, []), (27, 30, 19, 31, 0, 0, [])] _ _ _ _ [decide (0 ≤ (s1).toInt ∧ (s1).toInt < 18)] 31 [] [.inl (zm_pt (s1).toNatClampNeg)] μ (by decide +kernel) rfl (zm_bc h0 rfl) (zm_iret (nx := 32) (a := 0) (b := 0) (k := 0) (sw := []) (zq_of (by decide +kernel)) ⟨_, rfl, h1⟩))

theorem k93_0 {X : zm_T} {d : Nat} {v1 v2 : Int32} {μ : zm_u} {P : Int32 → zm_u → Prop}
    (h0 : ∃ G : Int32 → zm_u → Prop, zI X d 92 [.inr 5, .inl v1] μ G ∧ ∀ (r : Int32) (μ1 : zm_u), G r μ1 → zV X d 93 6 [(0, .inr 5), (1, .inl v1), (2, .inl v2)] [.inl r, .inl v2] μ1 (zpi P)) :
    zV X d 93 0 [(0, .inr 5), (1, .inl v1), (2, .inl v2)] [] μ (zpi P) :=
  (zm_run [(0, 1, 1, 2, 0, 0, []), (1, 2, 27, 0, 0, 0, []), (2, 3, 1, 1, 0, 0, [])] _ _ _ _ [] 3 [(0, .inr 5), (1, .inl v1), (2, .inl v2)] [.inl v1, .inr 5, .inl v2] μ (by decide +kernel) rfl rfl (by obtain ⟨G, he, hk⟩ := h0; exact zm_callV (as := [.inr 5, .inl v1]) (rest := [.inl v2]) (P := zpi G) (nx := 6) (a := 92) (b := 2) (k := 5) (sw := []) (zq_of (by decide +kernel)) rfl rfl rfl he (fun _ μ1 hp => by obtain ⟨v, rfl, hp⟩ := hp; exact (zm_V_pick [0, 1, 2] rfl (hk v μ1 hp)))))

set_option maxRecDepth 100000 in
theorem k93_6 {X : zm_T} {d : Nat} {s0 s1 v1 v2 : Int32} {μ : zm_u} {P : Int32 → zm_u → Prop}
    (h0 : s0 < s1 → ¬ v2 = 0 → ¬ v2 = (1 : Int32) → 0 ≤ (v1).toInt ∧ (v1).toInt < ((600 : Nat) : Int))
    (h1 : s0 < s1 → ¬ v2 = 0 → ¬ v2 = (1 : Int32) → P (μ 19 (v1).toNatClampNeg) μ)
    (h2 : s0 < s1 → ¬ v2 = 0 → v2 = (1 : Int32) → 0 ≤ (v1).toInt ∧ (v1).toInt < ((600 : Nat) : Int))
    (h3 : s0 < s1 → ¬ v2 = 0 → v2 = (1 : Int32) → P (μ 18 (v1).toNatClampNeg) μ)
    (h4 : s0 < s1 → v2 = 0 → 0 ≤ (v1).toInt ∧ (v1).toInt < ((600 : Nat) : Int))
    (h5 : s0 < s1 → v2 = 0 → P (μ 17 (v1).toNatClampNeg) μ)
    (h6 : ¬ (s0 < s1) → P (-1 : Int32) μ) :
    zV X d 93 6 [(0, .inr 5), (1, .inl v1), (2, .inl v2)] [.inl s1, .inl s0] μ (zpi P) :=
  (zm_icmp (nx := 9) (a := 11) (b := 2) (k := 0) (sw := []) (zq_of (by decide +kernel)) (fun z1 => (zm_run [(11, 12, 1, 2, 0, 0, [])] _ _ _ _ [] 12 [(0, .inr 5), (1, .inl v1), (2, .inl v2)] [.inl v2] μ (by decide +kernel) rfl rfl (zm_if (nx := 15) (a := 24) (b := 1) (k := 0) (sw := []) (zq_of (by decide +kernel)) (fun z2 => (zm_run [(24, 25, 1, 2, 0, 0, []), (25, 26, 0, 0, 0, 1, [])] _ _ _ _ [] 26 [(0, .inr 5), (1, .inl v1), (2, .inl v2)] [.inl (1 : Int32), .inl v2] μ (by decide +kernel) rfl rfl (zm_icmp (nx := 29) (a := 38) (b := 1) (k := 0) (sw := []) (zq_of (by decide +kernel)) (fun z3 => (zm_run [(38, 39, 27, 0, 0, 0, []), (39, 42, 4, 3, 5, 0, []), (42, 43, 1, 1, 0, 0, []), (43, 44, 6, 0, 0, 0, [])] _ _ _ _ [decide (0 ≤ (v1).toInt ∧ (v1).toInt < ((600 : Nat) : Int))] 44 [(0, .inr 5), (1, .inl v1), (2, .inl v2)] [.inl (μ 19 (v1).toNatClampNeg)] μ (by decide +kernel) rfl (zm_bc (h0 (of_decide_eq_true z1) (of_decide_eq_true z2) (of_decide_eq_true z3)) rfl) (zm_iret (nx := 45) (a := 0) (b := 0) (k := 0) (sw := []) (zq_of (by decide +kernel)) ⟨_, rfl, (h1 (of_decide_eq_true z1) (of_decide_eq_true z2) (of_decide_eq_true z3))⟩))) (fun z3 => (zm_run [(29, 30, 27, 0, 0, 0, []), (30, 33, 4, 2, 5, 0, []), (33, 34, 1, 1, 0, 0, []), (34, 35, 6, 0, 0, 0, []), (35, 38, 19, 44, 0, 0, [])] _ _ _ _ [decide (0 ≤ (v1).toInt ∧ (v1).toInt < ((600 : Nat) : Int))] 44 [(0, .inr 5), (1, .inl v1), (2, .inl v2)] [.inl (μ 18 (v1).toNatClampNeg)] μ (by decide +kernel) rfl (zm_bc (h2 (of_decide_eq_true z1) (of_decide_eq_true z2) (Classical.byContradiction fun w => (of_decide_eq_false z3) w)) rfl) (zm_iret (nx := 45) (a := 0) (b := 0) (k := 0) (sw := []) (zq_of (by decide +kernel)) ⟨_, rfl, (h3 (of_decide_eq_true z1) (of_decide_eq_true z2) (Classical.byContradiction fun w => (of_decide_eq_false z3) w))⟩)))))) (fun z2 => (zm_run [(15, 16, 27, 0, 0, 0, []), (16, 19, 4, 1, 5, 0, []), (19, 20, 1, 1, 0, 0, []), (20, 21, 6, 0, 0, 0, []), (21, 24, 19, 44, 0, 0, [])] _ _ _ _ [decide (0 ≤ (v1).toInt ∧ (v1).toInt < ((600 : Nat) : Int))] 44 [(0, .inr 5), (1, .inl v1), (2, .inl v2)] [.inl (μ 17 (v1).toNatClampNeg)] μ (by decide +kernel) rfl (zm_bc (h4 (of_decide_eq_true z1) (Classical.byContradiction fun w => (of_decide_eq_false z2) w)) rfl) (zm_iret (nx := 45) (a := 0) (b := 0) (k := 0) (sw := []) (zq_of (by decide +kernel)) ⟨_, rfl, (h5 (of_decide_eq_true z1) (Classical.byContradiction fun w => (of_decide_eq_false z2) w))⟩)))))) (fun z1 => (zm_run [(9, 10, 0, 0, 0, (-1), [])] _ _ _ _ [] 10 [(0, .inr 5), (1, .inl v1), (2, .inl v2)] [.inl (-1 : Int32)] μ (by decide +kernel) rfl rfl (zm_iret (nx := 11) (a := 0) (b := 0) (k := 0) (sw := []) (zq_of (by decide +kernel)) ⟨_, rfl, (h6 (of_decide_eq_false z1))⟩))))

theorem k94_0 {X : zm_T} {d : Nat} {v1 : Int32} {μ : zm_u} {P : Int32 → zm_u → Prop}
    (h0 : v1 < 0 → P (-1 : Int32) μ)
    (h1 : ¬ (v1 < 0) → (μ 5 6) ≤ v1 → P (-1 : Int32) μ)
    (h2 : ¬ (v1 < 0) → ¬ ((μ 5 6) ≤ v1) → 0 ≤ (v1).toInt ∧ (v1).toInt < ((600 : Nat) : Int))
    (h3 : ¬ (v1 < 0) → ¬ ((μ 5 6) ≤ v1) → P (μ 16 (v1).toNatClampNeg) μ) :
    zV X d 94 0 [(0, .inr 5), (1, .inl v1)] [] μ (zpi P) :=
  (zm_run [(0, 1, 1, 1, 0, 0, [])] _ _ _ _ [] 1 [(0, .inr 5), (1, .inl v1)] [.inl v1] μ (by decide +kernel) rfl rfl (zm_if (nx := 4) (a := 21) (b := 2) (k := 0) (sw := []) (zq_of (by decide +kernel)) (fun z1 => (zm_run [(21, 22, 0, 0, 0, (-1), [])] _ _ _ _ [] 22 [(0, .inr 5), (1, .inl v1)] [.inl (-1 : Int32)] μ (by decide +kernel) rfl rfl (zm_iret (nx := 23) (a := 0) (b := 0) (k := 0) (sw := []) (zq_of (by decide +kernel)) ⟨_, rfl, (h0 (of_decide_eq_true z1))⟩))) (fun z1 => (zm_run [(4, 5, 1, 1, 0, 0, []), (5, 6, 27, 0, 0, 0, []), (6, 9, 4, 6, 5, 0, [])] _ _ _ _ [] 9 [(0, .inr 5), (1, .inl v1)] [.inl (μ 5 6), .inl v1] μ (by decide +kernel) rfl rfl (zm_icmp (nx := 12) (a := 21) (b := 3) (k := 0) (sw := []) (zq_of (by decide +kernel)) (fun z2 => (zm_run [(21, 22, 0, 0, 0, (-1), [])] _ _ _ _ [] 22 [(0, .inr 5), (1, .inl v1)] [.inl (-1 : Int32)] μ (by decide +kernel) rfl rfl (zm_iret (nx := 23) (a := 0) (b := 0) (k := 0) (sw := []) (zq_of (by decide +kernel)) ⟨_, rfl, (h1 (of_decide_eq_false z1) (of_decide_eq_true z2))⟩))) (fun z2 => (zm_run [(12, 13, 27, 0, 0, 0, []), (13, 16, 4, 0, 5, 0, []), (16, 17, 1, 1, 0, 0, []), (17, 18, 6, 0, 0, 0, []), (18, 21, 19, 22, 0, 0, [])] _ _ _ _ [decide (0 ≤ (v1).toInt ∧ (v1).toInt < ((600 : Nat) : Int))] 22 [(0, .inr 5), (1, .inl v1)] [.inl (μ 16 (v1).toNatClampNeg)] μ (by decide +kernel) rfl (zm_bc (h2 (of_decide_eq_false z1) (of_decide_eq_false z2)) rfl) (zm_iret (nx := 23) (a := 0) (b := 0) (k := 0) (sw := []) (zq_of (by decide +kernel)) ⟨_, rfl, (h3 (of_decide_eq_false z1) (of_decide_eq_false z2))⟩))))))))

theorem k95_0 {X : zm_T} {d : Nat} {v1 : Int32} {μ : zm_u} {P : zm_u → Prop}
    (h0 : ∃ G : zm_u → Prop, zO X d 96 [.inr 5, .inl v1] (zm_up (zm_up μ 5 7 (0 : Int32)) 5 8 (0 : Int32)) G ∧ ∀ μ1 : zm_u, G μ1 → zV X d 95 15 [(0, .inr 5)] [] μ1 (zpo P)) :
    zV X d 95 0 [(0, .inr 5), (1, .inl v1)] [] μ (zpo P) :=
  (zm_run [(0, 1, 27, 0, 0, 0, []), (1, 2, 0, 0, 0, 0, []), (2, 5, 5, 7, 5, 0, []), (5, 6, 27, 0, 0, 0, []), (6, 7, 0, 0, 0, 0, []), (7, 10, 5, 8, 5, 0, []), (10, 11, 27, 0, 0, 0, []), (11, 12, 1, 1, 0, 0, [])] _ _ _ _ [] 12 [(0, .inr 5), (1, .inl v1)] [.inl v1, .inr 5] (zm_up (zm_up μ 5 7 (0 : Int32)) 5 8 (0 : Int32)) (by decide +kernel) rfl rfl (by obtain ⟨G, he, hk⟩ := h0; exact zm_callV (as := [.inr 5, .inl v1]) (rest := []) (P := zpo G) (nx := 15) (a := 96) (b := 2) (k := 5) (sw := []) (zq_of (by decide +kernel)) rfl rfl rfl he (fun _ μ1 hp => by obtain ⟨rfl, hp⟩ := hp; exact (zm_V_pick [0] rfl (hk μ1 hp)))))

set_option maxRecDepth 100000 in
theorem k95_15 {X : zm_T} {d : Nat} {μ : zm_u} {P : zm_u → Prop}
    (h0 : (μ 5 8) ≤ 0 → P μ)
    (h1 : ¬ ((μ 5 8) ≤ 0) → (200 : Int32) ≤ (μ 5 7) → P μ)
    (h2 : ¬ ((μ 5 8) ≤ 0) → ¬ ((200 : Int32) ≤ (μ 5 7)) → 0 ≤ (((μ 5 8) - (1 : Int32))).toInt ∧ (((μ 5 8) - (1 : Int32))).toInt < ((401 : Nat) : Int))
    (h3 : ¬ ((μ 5 8) ≤ 0) → ¬ ((200 : Int32) ≤ (μ 5 7)) → 0 ≤ ((μ 5 7)).toInt ∧ ((μ 5 7)).toInt < ((200 : Nat) : Int))
    (h4 : ¬ ((μ 5 8) ≤ 0) → ¬ ((200 : Int32) ≤ (μ 5 7)) → ∃ G : Int32 → zm_u → Prop, zI X d 92 [.inr 5, .inl (μ 21 (((μ 5 8) - (1 : Int32))).toNatClampNeg)] (zm_up (zm_up (zm_up μ 5 8 ((μ 5 8) - (1 : Int32))) 20 ((μ 5 7)).toNatClampNeg (μ 21 (((μ 5 8) - (1 : Int32))).toNatClampNeg)) 5 7 ((μ 5 7) + (1 : Int32))) G ∧ ∀ (r : Int32) (μ1 : zm_u), G r μ1 → zV X d 95 77 [(0, .inr 5), (2, .inl (μ 21 (((μ 5 8) - (1 : Int32))).toNatClampNeg))] [.inl r] μ1 (zpo P)) :
    zV X d 95 15 [(0, .inr 5)] [] μ (zpo P) :=
  (zm_run [(15, 16, 27, 0, 0, 0, []), (16, 19, 4, 8, 5, 0, [])] _ _ _ _ [] 19 [(0, .inr 5)] [.inl (μ 5 8)] μ (by decide +kernel) rfl rfl (zm_if (nx := 22) (a := 103) (b := 5) (k := 0) (sw := []) (zq_of (by decide +kernel)) (fun z1 => (zm_vret (nx := 104) (a := 0) (b := 0) (k := 0) (sw := []) (zq_of (by decide +kernel)) ⟨rfl, (h0 (of_decide_eq_true z1))⟩)) (fun z1 => (zm_run [(22, 23, 27, 0, 0, 0, []), (23, 26, 4, 7, 5, 0, []), (26, 29, 0, 0, 0, 200, [])] _ _ _ _ [] 29 [(0, .inr 5)] [.inl (200 : Int32), .inl (μ 5 7)] μ (by decide +kernel) rfl rfl (zm_icmp (nx := 32) (a := 103) (b := 3) (k := 0) (sw := []) (zq_of (by decide +kernel)) (fun z2 => (zm_vret (nx := 104) (a := 0) (b := 0) (k := 0) (sw := []) (zq_of (by decide +kernel)) ⟨rfl, (h1 (of_decide_eq_false z1) (of_decide_eq_true z2))⟩)) (fun z2 => (zm_run [(32, 33, 27, 0, 0, 0, []), (33, 34, 16, 0, 0, 0, []), (34, 37, 4, 8, 5, 0, []), (37, 38, 0, 0, 0, 1, []), (38, 39, 11, 0, 0, 0, []), (39, 42, 5, 8, 5, 0, []), (42, 43, 27, 0, 0, 0, []), (43, 46, 4, 5, 5, 0, []), (46, 47, 27, 0, 0, 0, []), (47, 50, 4, 8, 5, 0, []), (50, 51, 6, 0, 0, 0, []), (51, 52, 2, 2, 0, 0, []), (52, 53, 27, 0, 0, 0, []), (53, 56, 4, 4, 5, 0, []), (56, 57, 27, 0, 0, 0, []), (57, 60, 4, 7, 5, 0, []), (60, 61, 1, 2, 0, 0, []), (61, 62, 7, 0, 0, 0, []), (62, 63, 27, 0, 0, 0, []), (63, 64, 16, 0, 0, 0, []), (64, 67, 4, 7, 5, 0, []), (67, 68, 0, 0, 0, 1, []), (68, 69, 10, 0, 0, 0, []), (69, 72, 5, 7, 5, 0, []), (72, 73, 27, 0, 0, 0, []), (73, 74, 1, 2, 0, 0, [])] _ _ _ _ [decide (0 ≤ (((μ 5 8) - (1 : Int32))).toInt ∧ (((μ 5 8) - (1 : Int32))).toInt < ((401 : Nat) : Int)), decide (0 ≤ ((μ 5 7)).toInt ∧ ((μ 5 7)).toInt < ((200 : Nat) : Int))] 74 [(0, .inr 5), (2, .inl (μ 21 (((μ 5 8) - (1 : Int32))).toNatClampNeg))] [.inl (μ 21 (((μ 5 8) - (1 : Int32))).toNatClampNeg), .inr 5] (zm_up (zm_up (zm_up μ 5 8 ((μ 5 8) - (1 : Int32))) 20 ((μ 5 7)).toNatClampNeg (μ 21 (((μ 5 8) - (1 : Int32))).toNatClampNeg)) 5 7 ((μ 5 7) + (1 : Int32))) (by decide +kernel) rfl (zm_bc (h2 (of_decide_eq_false z1) (of_decide_eq_false z2)) (zm_bc (h3 (of_decide_eq_false z1) (of_decide_eq_false z2)) rfl)) (by obtain ⟨G, he, hk⟩ := (h4 (of_decide_eq_false z1) (of_decide_eq_false z2)); exact zm_callV (as := [.inr 5, .inl (μ 21 (((μ 5 8) - (1 : Int32))).toNatClampNeg)]) (rest := []) (P := zpi G) (nx := 77) (a := 92) (b := 2) (k := 5) (sw := []) (zq_of (by decide +kernel)) rfl rfl rfl he (fun _ μ1 hp => by obtain ⟨v, rfl, hp⟩ := hp; exact (zm_V_pick [0, 2] rfl (hk v μ1 hp)))))))))))

theorem k95_77 {X : zm_T} {d : Nat} {s0 v2 : Int32} {μ : zm_u} {P : zm_u → Prop}
    (h0 : zV X d 95 80 [(0, .inr 5), (2, .inl v2), (3, .inl (s0 - (1 : Int32)))] [] μ (zpo P)) :
    zV X d 95 77 [(0, .inr 5), (2, .inl v2)] [.inl s0] μ (zpo P) :=
  (zm_run [(77, 78, 0, 0, 0, 1, []), (78, 79, 11, 0, 0, 0, []), (79, 80, 2, 3, 0, 0, [])] _ _ _ _ [] 80 [(0, .inr 5), (2, .inl v2), (3, .inl (s0 - (1 : Int32)))] [] μ (by decide +kernel) rfl rfl (zm_V_pick [0, 2, 3] rfl h0))

theorem k95_80 {X : zm_T} {d : Nat} {v2 v3 : Int32} {μ : zm_u} {P : zm_u → Prop}
    (h0 : v3 < 0 → zV X d 95 15 [(0, .inr 5)] [] μ (zpo P))
    (h1 : ¬ (v3 < 0) → ∃ G : Int32 → zm_u → Prop, zI X d 93 [.inr 5, .inl v2, .inl v3] μ G ∧ ∀ (r : Int32) (μ1 : zm_u), G r μ1 → zV X d 95 91 [(0, .inr 5), (2, .inl v2), (3, .inl v3)] [.inl r, .inr 5] μ1 (zpo P)) :
    zV X d 95 80 [(0, .inr 5), (2, .inl v2), (3, .inl v3)] [] μ (zpo P) :=
  (zm_run [(80, 81, 1, 3, 0, 0, [])] _ _ _ _ [] 81 [(0, .inr 5), (2, .inl v2), (3, .inl v3)] [.inl v3] μ (by decide +kernel) rfl rfl (zm_if (nx := 84) (a := 100) (b := 2) (k := 0) (sw := []) (zq_of (by decide +kernel)) (fun z1 => (zm_run [(100, 103, 19, 15, 0, 0, [])] _ _ _ _ [] 15 [(0, .inr 5), (2, .inl v2), (3, .inl v3)] [] μ (by decide +kernel) rfl rfl (zm_V_pick [0] rfl (h0 (of_decide_eq_true z1))))) (fun z1 => (zm_run [(84, 85, 27, 0, 0, 0, []), (85, 86, 27, 0, 0, 0, []), (86, 87, 1, 2, 0, 0, []), (87, 88, 1, 3, 0, 0, [])] _ _ _ _ [] 88 [(0, .inr 5), (2, .inl v2), (3, .inl v3)] [.inl v3, .inl v2, .inr 5, .inr 5] μ (by decide +kernel) rfl rfl (by obtain ⟨G, he, hk⟩ := (h1 (of_decide_eq_false z1)); exact zm_callV (as := [.inr 5, .inl v2, .inl v3]) (rest := [.inr 5]) (P := zpi G) (nx := 91) (a := 93) (b := 3) (k := 5) (sw := []) (zq_of (by decide +kernel)) rfl rfl rfl he (fun _ μ1 hp => by obtain ⟨v, rfl, hp⟩ := hp; exact (zm_V_pick [0, 2, 3] rfl (hk v μ1 hp))))))))

theorem k95_91 {X : zm_T} {d : Nat} {s1 v2 v3 : Int32} {μ : zm_u} {P : zm_u → Prop}
    (h0 : ∃ G : zm_u → Prop, zO X d 96 [.inr 5, .inl s1] μ G ∧ ∀ μ1 : zm_u, G μ1 → zV X d 95 94 [(0, .inr 5), (2, .inl v2), (3, .inl v3)] [] μ1 (zpo P)) :
    zV X d 95 91 [(0, .inr 5), (2, .inl v2), (3, .inl v3)] [.inl s1, .inr 5] μ (zpo P) :=
  (by obtain ⟨G, he, hk⟩ := h0; exact zm_callV (as := [.inr 5, .inl s1]) (rest := []) (P := zpo G) (nx := 94) (a := 96) (b := 2) (k := 5) (sw := []) (zq_of (by decide +kernel)) rfl rfl rfl he (fun _ μ1 hp => by obtain ⟨rfl, hp⟩ := hp; exact (zm_V_pick [0, 2, 3] rfl (hk μ1 hp))))

theorem k95_94 {X : zm_T} {d : Nat} {v2 v3 : Int32} {μ : zm_u} {P : zm_u → Prop}
    (h0 : zV X d 95 80 [(0, .inr 5), (2, .inl v2), (3, .inl (v3 + (-1)))] [] μ (zpo P)) :
    zV X d 95 94 [(0, .inr 5), (2, .inl v2), (3, .inl v3)] [] μ (zpo P) :=
  (zm_run [(94, 97, 3, 3, 0, (-1), []), (97, 100, 19, 80, 0, 0, [])] _ _ _ _ [] 80 [(0, .inr 5), (2, .inl v2), (3, .inl (v3 + (-1)))] [] μ (by decide +kernel) rfl rfl (zm_V_pick [0, 2, 3] rfl h0))

theorem k96_0 {X : zm_T} {d : Nat} {v1 : Int32} {μ : zm_u} {P : zm_u → Prop}
    (h0 : (401 : Int32) ≤ (μ 5 8) → P μ)
    (h1 : ¬ ((401 : Int32) ≤ (μ 5 8)) → 0 ≤ ((μ 5 8)).toInt ∧ ((μ 5 8)).toInt < ((401 : Nat) : Int))
    (h2 : ¬ ((401 : Int32) ≤ (μ 5 8)) → P (zm_up (zm_up μ 21 ((μ 5 8)).toNatClampNeg v1) 5 8 ((μ 5 8) + (1 : Int32)))) :
    zV X d 96 0 [(0, .inr 5), (1, .inl v1)] [] μ (zpo P) :=
  (zm_run [(0, 1, 27, 0, 0, 0, []), (1, 4, 4, 8, 5, 0, []), (4, 7, 0, 0, 0, 401, [])] _ _ _ _ [] 7 [(0, .inr 5), (1, .inl v1)] [.inl (401 : Int32), .inl (μ 5 8)] μ (by decide +kernel) rfl rfl (zm_icmp (nx := 10) (a := 30) (b := 3) (k := 0) (sw := []) (zq_of (by decide +kernel)) (fun z1 => (zm_vret (nx := 31) (a := 0) (b := 0) (k := 0) (sw := []) (zq_of (by decide +kernel)) ⟨rfl, (h0 (of_decide_eq_true z1))⟩)) (fun z1 => (zm_run [(10, 11, 27, 0, 0, 0, []), (11, 14, 4, 5, 5, 0, []), (14, 15, 27, 0, 0, 0, []), (15, 18, 4, 8, 5, 0, []), (18, 19, 1, 1, 0, 0, []), (19, 20, 7, 0, 0, 0, []), (20, 21, 27, 0, 0, 0, []), (21, 22, 16, 0, 0, 0, []), (22, 25, 4, 8, 5, 0, []), (25, 26, 0, 0, 0, 1, []), (26, 27, 10, 0, 0, 0, []), (27, 30, 5, 8, 5, 0, [])] _ _ _ _ [decide (0 ≤ ((μ 5 8)).toInt ∧ ((μ 5 8)).toInt < ((401 : Nat) : Int))] 30 [(0, .inr 5), (1, .inl v1)] [] (zm_up (zm_up μ 21 ((μ 5 8)).toNatClampNeg v1) 5 8 ((μ 5 8) + (1 : Int32))) (by decide +kernel) rfl (zm_bc (h1 (of_decide_eq_false z1)) rfl) (zm_vret (nx := 31) (a := 0) (b := 0) (k := 0) (sw := []) (zq_of (by decide +kernel)) ⟨rfl, (h2 (of_decide_eq_false z1))⟩)))))

theorem k97_0 {X : zm_T} {d : Nat} {v1 : Int32} {μ : zm_u} {P : Int32 → zm_u → Prop}
    (h0 : v1 < 0 → P (-1 : Int32) μ)
    (h1 : ¬ (v1 < 0) → (μ 5 7) ≤ v1 → P (-1 : Int32) μ)
    (h2 : ¬ (v1 < 0) → ¬ ((μ 5 7) ≤ v1) → 0 ≤ (v1).toInt ∧ (v1).toInt < ((200 : Nat) : Int))
    (h3 : ¬ (v1 < 0) → ¬ ((μ 5 7) ≤ v1) → ∃ G : Int32 → zm_u → Prop, zI X d 94 [.inr 5, .inl (μ 20 (v1).toNatClampNeg)] μ G ∧ ∀ (r : Int32) (μ1 : zm_u), G r μ1 → zV X d 97 22 [] [.inl r] μ1 (zpi P)) :
    zV X d 97 0 [(0, .inr 5), (1, .inl v1)] [] μ (zpi P) :=
  (zm_run [(0, 1, 1, 1, 0, 0, [])] _ _ _ _ [] 1 [(0, .inr 5), (1, .inl v1)] [.inl v1] μ (by decide +kernel) rfl rfl (zm_if (nx := 4) (a := 25) (b := 2) (k := 0) (sw := []) (zq_of (by decide +kernel)) (fun z1 => (zm_run [(25, 26, 0, 0, 0, (-1), [])] _ _ _ _ [] 26 [(0, .inr 5), (1, .inl v1)] [.inl (-1 : Int32)] μ (by decide +kernel) rfl rfl (zm_iret (nx := 27) (a := 0) (b := 0) (k := 0) (sw := []) (zq_of (by decide +kernel)) ⟨_, rfl, (h0 (of_decide_eq_true z1))⟩))) (fun z1 => (zm_run [(4, 5, 1, 1, 0, 0, []), (5, 6, 27, 0, 0, 0, []), (6, 9, 4, 7, 5, 0, [])] _ _ _ _ [] 9 [(0, .inr 5), (1, .inl v1)] [.inl (μ 5 7), .inl v1] μ (by decide +kernel) rfl rfl (zm_icmp (nx := 12) (a := 25) (b := 3) (k := 0) (sw := []) (zq_of (by decide +kernel)) (fun z2 => (zm_run [(25, 26, 0, 0, 0, (-1), [])] _ _ _ _ [] 26 [(0, .inr 5), (1, .inl v1)] [.inl (-1 : Int32)] μ (by decide +kernel) rfl rfl (zm_iret (nx := 27) (a := 0) (b := 0) (k := 0) (sw := []) (zq_of (by decide +kernel)) ⟨_, rfl, (h1 (of_decide_eq_false z1) (of_decide_eq_true z2))⟩))) (fun z2 => (zm_run [(12, 13, 27, 0, 0, 0, []), (13, 14, 27, 0, 0, 0, []), (14, 17, 4, 4, 5, 0, []), (17, 18, 1, 1, 0, 0, []), (18, 19, 6, 0, 0, 0, [])] _ _ _ _ [decide (0 ≤ (v1).toInt ∧ (v1).toInt < ((200 : Nat) : Int))] 19 [(0, .inr 5), (1, .inl v1)] [.inl (μ 20 (v1).toNatClampNeg), .inr 5] μ (by decide +kernel) rfl (zm_bc (h2 (of_decide_eq_false z1) (of_decide_eq_false z2)) rfl) (by obtain ⟨G, he, hk⟩ := (h3 (of_decide_eq_false z1) (of_decide_eq_false z2)); exact zm_callV (as := [.inr 5, .inl (μ 20 (v1).toNatClampNeg)]) (rest := []) (P := zpi G) (nx := 22) (a := 94) (b := 2) (k := 5) (sw := []) (zq_of (by decide +kernel)) rfl rfl rfl he (fun _ μ1 hp => by obtain ⟨v, rfl, hp⟩ := hp; exact (zm_V_pick [] rfl (hk v μ1 hp)))))))))))

theorem k97_22 {X : zm_T} {d : Nat} {s0 : Int32} {μ : zm_u} {P : Int32 → zm_u → Prop}
    (h0 : P s0 μ) :
    zV X d 97 22 [] [.inl s0] μ (zpi P) :=
  (zm_run [(22, 25, 19, 26, 0, 0, [])] _ _ _ _ [] 26 [] [.inl s0] μ (by decide +kernel) rfl rfl (zm_iret (nx := 27) (a := 0) (b := 0) (k := 0) (sw := []) (zq_of (by decide +kernel)) ⟨_, rfl, h0⟩))

theorem k98_0 {X : zm_T} {d : Nat} {v1 : Int32} {μ : zm_u} {P : Int32 → zm_u → Prop}
    (h0 : v1 < 0 → P (0 : Int32) μ)
    (h1 : ¬ (v1 < 0) → (μ 5 7) ≤ v1 → P (0 : Int32) μ)
    (h2 : ¬ (v1 < 0) → ¬ ((μ 5 7) ≤ v1) → 0 ≤ (v1).toInt ∧ (v1).toInt < ((200 : Nat) : Int))
    (h3 : ¬ (v1 < 0) → ¬ ((μ 5 7) ≤ v1) → ∃ G : Int32 → zm_u → Prop, zI X d 91 [.inr 5, .inl (μ 20 (v1).toNatClampNeg)] μ G ∧ ∀ (r : Int32) (μ1 : zm_u), G r μ1 → zV X d 98 22 [] [.inl r] μ1 (zpi P)) :
    zV X d 98 0 [(0, .inr 5), (1, .inl v1)] [] μ (zpi P) :=
  (zm_run [(0, 1, 1, 1, 0, 0, [])] _ _ _ _ [] 1 [(0, .inr 5), (1, .inl v1)] [.inl v1] μ (by decide +kernel) rfl rfl (zm_if (nx := 4) (a := 25) (b := 2) (k := 0) (sw := []) (zq_of (by decide +kernel)) (fun z1 => (zm_run [(25, 26, 0, 0, 0, 0, [])] _ _ _ _ [] 26 [(0, .inr 5), (1, .inl v1)] [.inl (0 : Int32)] μ (by decide +kernel) rfl rfl (zm_iret (nx := 27) (a := 0) (b := 0) (k := 0) (sw := []) (zq_of (by decide +kernel)) ⟨_, rfl, (h0 (of_decide_eq_true z1))⟩))) (fun z1 => (zm_run [(4, 5, 1, 1, 0, 0, []), (5, 6, 27, 0, 0, 0, []), (6, 9, 4, 7, 5, 0, [])] _ _ _ _ [] 9 [(0, .inr 5), (1, .inl v1)] [.inl (μ 5 7), .inl v1] μ (by decide +kernel) rfl rfl (zm_icmp (nx := 12) (a := 25) (b := 3) (k := 0) (sw := []) (zq_of (by decide +kernel)) (fun z2 => (zm_run [(25, 26, 0, 0, 0, 0, [])] _ _ _ _ [] 26 [(0, .inr 5), (1, .inl v1)] [.inl (0 : Int32)] μ (by decide +kernel) rfl rfl (zm_iret (nx := 27) (a := 0) (b := 0) (k := 0) (sw := []) (zq_of (by decide +kernel)) ⟨_, rfl, (h1 (of_decide_eq_false z1) (of_decide_eq_true z2))⟩))) (fun z2 => (zm_run [(12, 13, 27, 0, 0, 0, []), (13, 14, 27, 0, 0, 0, []), (14, 17, 4, 4, 5, 0, []), (17, 18, 1, 1, 0, 0, []), (18, 19, 6, 0, 0, 0, [])] _ _ _ _ [decide (0 ≤ (v1).toInt ∧ (v1).toInt < ((200 : Nat) : Int))] 19 [(0, .inr 5), (1, .inl v1)] [.inl (μ 20 (v1).toNatClampNeg), .inr 5] μ (by decide +kernel) rfl (zm_bc (h2 (of_decide_eq_false z1) (of_decide_eq_false z2)) rfl) (by obtain ⟨G, he, hk⟩ := (h3 (of_decide_eq_false z1) (of_decide_eq_false z2)); exact zm_callV (as := [.inr 5, .inl (μ 20 (v1).toNatClampNeg)]) (rest := []) (P := zpi G) (nx := 22) (a := 91) (b := 2) (k := 5) (sw := []) (zq_of (by decide +kernel)) rfl rfl rfl he (fun _ μ1 hp => by obtain ⟨v, rfl, hp⟩ := hp; exact (zm_V_pick [] rfl (hk v μ1 hp)))))))))))

theorem k98_22 {X : zm_T} {d : Nat} {s0 : Int32} {μ : zm_u} {P : Int32 → zm_u → Prop}
    (h0 : P s0 μ) :
    zV X d 98 22 [] [.inl s0] μ (zpi P) :=
  (zm_run [(22, 25, 19, 26, 0, 0, [])] _ _ _ _ [] 26 [] [.inl s0] μ (by decide +kernel) rfl rfl (zm_iret (nx := 27) (a := 0) (b := 0) (k := 0) (sw := []) (zq_of (by decide +kernel)) ⟨_, rfl, h0⟩))

theorem k99_0 {X : zm_T} {d : Nat} {v1 v2 v3 v4 : Int32} {μ : zm_u} {P : Int32 → zm_u → Prop}
    (h0 : 0 ≤ ((μ 22 1)).toInt ∧ ((μ 22 1)).toInt < ((600 : Nat) : Int))
    (h1 : 0 ≤ ((μ 22 1)).toInt ∧ ((μ 22 1)).toInt < ((600 : Nat) : Int))
    (h2 : 0 ≤ ((μ 22 1)).toInt ∧ ((μ 22 1)).toInt < ((600 : Nat) : Int))
    (h3 : 0 ≤ ((μ 22 1)).toInt ∧ ((μ 22 1)).toInt < ((600 : Nat) : Int))
    (h4 : P (((μ 22 1) + (1 : Int32)) - (1 : Int32)) (zm_up (zm_up (zm_up (zm_up (zm_up μ 23 ((μ 22 1)).toNatClampNeg v1) 24 ((μ 22 1)).toNatClampNeg v2) 25 ((μ 22 1)).toNatClampNeg v3) 26 ((μ 22 1)).toNatClampNeg v4) 22 1 ((μ 22 1) + (1 : Int32)))) :
    zV X d 99 0 [(0, .inr 22), (1, .inl v1), (2, .inl v2), (3, .inl v3), (4, .inl v4)] [] μ (zpi P) :=
  (zm_run [(0, 1, 27, 0, 0, 0, []), (1, 4, 4, 2, 6, 0, []), (4, 5, 27, 0, 0, 0, []), (5, 8, 4, 1, 6, 0, []), (8, 9, 1, 1, 0, 0, []), (9, 10, 7, 0, 0, 0, []), (10, 11, 27, 0, 0, 0, []), (11, 14, 4, 3, 6, 0, []), (14, 15, 27, 0, 0, 0, []), (15, 18, 4, 1, 6, 0, []), (18, 19, 1, 2, 0, 0, []), (19, 20, 7, 0, 0, 0, []), (20, 21, 27, 0, 0, 0, []), (21, 24, 4, 4, 6, 0, []), (24, 25, 27, 0, 0, 0, []), (25, 28, 4, 1, 6, 0, []), (28, 29, 1, 3, 0, 0, []), (29, 30, 7, 0, 0, 0, []), (30, 31, 27, 0, 0, 0, []), (31, 34, 4, 5, 6, 0, []), (34, 35, 27, 0, 0, 0, []), (35, 38, 4, 1, 6, 0, []), (38, 40, 1, 4, 0, 0, []), (40, 41, 7, 0, 0, 0, []), (41, 42, 27, 0, 0, 0, []), (42, 43, 16, 0, 0, 0, []), (43, 46, 4, 1, 6, 0, []), (46, 47, 0, 0, 0, 1, []), (47, 48, 10, 0, 0, 0, []), (48, 51, 5, 1, 6, 0, []), (51, 52, 27, 0, 0, 0, []), (52, 55, 4, 1, 6, 0, []), (55, 56, 0, 0, 0, 1, []), (56, 57, 11, 0, 0, 0, [])] _ _ _ _ [decide (0 ≤ ((μ 22 1)).toInt ∧ ((μ 22 1)).toInt < ((600 : Nat) : Int)), decide (0 ≤ ((μ 22 1)).toInt ∧ ((μ 22 1)).toInt < ((600 : Nat) : Int)), decide (0 ≤ ((μ 22 1)).toInt ∧ ((μ 22 1)).toInt < ((600 : Nat) : Int)), decide (0 ≤ ((μ 22 1)).toInt ∧ ((μ 22 1)).toInt < ((600 : Nat) : Int))] 57 [(0, .inr 22), (1, .inl v1), (2, .inl v2), (3, .inl v3), (4, .inl v4)] [.inl (((μ 22 1) + (1 : Int32)) - (1 : Int32))] (zm_up (zm_up (zm_up (zm_up (zm_up μ 23 ((μ 22 1)).toNatClampNeg v1) 24 ((μ 22 1)).toNatClampNeg v2) 25 ((μ 22 1)).toNatClampNeg v3) 26 ((μ 22 1)).toNatClampNeg v4) 22 1 ((μ 22 1) + (1 : Int32))) (by decide +kernel) rfl (zm_bc h0 (zm_bc h1 (zm_bc h2 (zm_bc h3 rfl)))) (zm_iret (nx := 58) (a := 0) (b := 0) (k := 0) (sw := []) (zq_of (by decide +kernel)) ⟨_, rfl, h4⟩))

theorem k100_0 {X : zm_T} {d : Nat} {v1 v2 v3 : Int32} {μ : zm_u} {P : Int32 → zm_u → Prop}
    (h0 : zV X d 100 6 [(0, .inr 22), (1, .inl v1), (2, .inl v2), (3, .inl v3), (4, .inl (-1 : Int32)), (5, .inl (0 : Int32))] [] μ (zpi P)) :
    zV X d 100 0 [(0, .inr 22), (1, .inl v1), (2, .inl v2), (3, .inl v3)] [] μ (zpi P) :=
  (zm_run [(0, 1, 0, 0, 0, (-1), []), (1, 3, 2, 4, 0, 0, []), (3, 4, 0, 0, 0, 0, []), (4, 6, 2, 5, 0, 0, [])] _ _ _ _ [] 6 [(0, .inr 22), (1, .inl v1), (2, .inl v2), (3, .inl v3), (4, .inl (-1 : Int32)), (5, .inl (0 : Int32))] [] μ (by decide +kernel) rfl rfl (zm_V_pick [0, 1, 2, 3, 4, 5] rfl h0))

set_option maxRecDepth 100000 in
theorem k100_6 {X : zm_T} {d : Nat} {v1 v2 v3 v4 v5 : Int32} {μ : zm_u} {P : Int32 → zm_u → Prop}
    (h0 : (μ 22 1) ≤ v5 → P v4 μ)
    (h1 : ¬ ((μ 22 1) ≤ v5) → 0 ≤ v4 → P v4 μ)
    (h2 : ¬ ((μ 22 1) ≤ v5) → ¬ (0 ≤ v4) → 0 ≤ (v5).toInt ∧ (v5).toInt < ((600 : Nat) : Int))
    (h3 : ¬ ((μ 22 1) ≤ v5) → ¬ (0 ≤ v4) → ¬ (μ 23 (v5).toNatClampNeg) = v1 → zV X d 100 58 [(0, .inr 22), (1, .inl v1), (2, .inl v2), (3, .inl v3), (4, .inl v4), (5, .inl v5)] [] μ (zpi P))
    (h4 : ¬ ((μ 22 1) ≤ v5) → ¬ (0 ≤ v4) → (μ 23 (v5).toNatClampNeg) = v1 → 0 ≤ (v5).toInt ∧ (v5).toInt < ((600 : Nat) : Int))
    (h5 : ¬ ((μ 22 1) ≤ v5) → ¬ (0 ≤ v4) → (μ 23 (v5).toNatClampNeg) = v1 → ¬ (μ 24 (v5).toNatClampNeg) = v2 → zV X d 100 58 [(0, .inr 22), (1, .inl v1), (2, .inl v2), (3, .inl v3), (4, .inl v4), (5, .inl v5)] [] μ (zpi P))
    (h6 : ¬ ((μ 22 1) ≤ v5) → ¬ (0 ≤ v4) → (μ 23 (v5).toNatClampNeg) = v1 → (μ 24 (v5).toNatClampNeg) = v2 → 0 ≤ (v5).toInt ∧ (v5).toInt < ((600 : Nat) : Int))
    (h7 : ¬ ((μ 22 1) ≤ v5) → ¬ (0 ≤ v4) → (μ 23 (v5).toNatClampNeg) = v1 → (μ 24 (v5).toNatClampNeg) = v2 → ¬ (μ 25 (v5).toNatClampNeg) = v3 → zV X d 100 58 [(0, .inr 22), (1, .inl v1), (2, .inl v2), (3, .inl v3), (4, .inl v4), (5, .inl v5)] [] μ (zpi P))
    (h8 : ¬ ((μ 22 1) ≤ v5) → ¬ (0 ≤ v4) → (μ 23 (v5).toNatClampNeg) = v1 → (μ 24 (v5).toNatClampNeg) = v2 → (μ 25 (v5).toNatClampNeg) = v3 → zV X d 100 60 [(0, .inr 22), (1, .inl v1), (2, .inl v2), (3, .inl v3), (5, .inl v5)] [.inl v5] μ (zpi P)) :
    zV X d 100 6 [(0, .inr 22), (1, .inl v1), (2, .inl v2), (3, .inl v3), (4, .inl v4), (5, .inl v5)] [] μ (zpi P) :=
  (zm_run [(6, 8, 1, 5, 0, 0, []), (8, 9, 27, 0, 0, 0, []), (9, 12, 4, 1, 6, 0, [])] _ _ _ _ [] 12 [(0, .inr 22), (1, .inl v1), (2, .inl v2), (3, .inl v3), (4, .inl v4), (5, .inl v5)] [.inl (μ 22 1), .inl v5] μ (by decide +kernel) rfl rfl (zm_icmp (nx := 15) (a := 68) (b := 3) (k := 0) (sw := []) (zq_of (by decide +kernel)) (fun z1 => (zm_run [(68, 70, 1, 4, 0, 0, [])] _ _ _ _ [] 70 [(0, .inr 22), (1, .inl v1), (2, .inl v2), (3, .inl v3), (4, .inl v4), (5, .inl v5)] [.inl v4] μ (by decide +kernel) rfl rfl (zm_iret (nx := 71) (a := 0) (b := 0) (k := 0) (sw := []) (zq_of (by decide +kernel)) ⟨_, rfl, (h0 (of_decide_eq_true z1))⟩))) (fun z1 => (zm_run [(15, 17, 1, 4, 0, 0, [])] _ _ _ _ [] 17 [(0, .inr 22), (1, .inl v1), (2, .inl v2), (3, .inl v3), (4, .inl v4), (5, .inl v5)] [.inl v4] μ (by decide +kernel) rfl rfl (zm_if (nx := 20) (a := 68) (b := 3) (k := 0) (sw := []) (zq_of (by decide +kernel)) (fun z2 => (zm_run [(68, 70, 1, 4, 0, 0, [])] _ _ _ _ [] 70 [(0, .inr 22), (1, .inl v1), (2, .inl v2), (3, .inl v3), (4, .inl v4), (5, .inl v5)] [.inl v4] μ (by decide +kernel) rfl rfl (zm_iret (nx := 71) (a := 0) (b := 0) (k := 0) (sw := []) (zq_of (by decide +kernel)) ⟨_, rfl, (h1 (of_decide_eq_false z1) (of_decide_eq_true z2))⟩))) (fun z2 => (zm_run [(20, 21, 27, 0, 0, 0, []), (21, 24, 4, 2, 6, 0, []), (24, 26, 1, 5, 0, 0, []), (26, 27, 6, 0, 0, 0, []), (27, 28, 1, 1, 0, 0, [])] _ _ _ _ [decide (0 ≤ (v5).toInt ∧ (v5).toInt < ((600 : Nat) : Int))] 28 [(0, .inr 22), (1, .inl v1), (2, .inl v2), (3, .inl v3), (4, .inl v4), (5, .inl v5)] [.inl v1, .inl (μ 23 (v5).toNatClampNeg)] μ (by decide +kernel) rfl (zm_bc (h2 (of_decide_eq_false z1) (of_decide_eq_false z2)) rfl) (zm_icmp (nx := 31) (a := 58) (b := 1) (k := 0) (sw := []) (zq_of (by decide +kernel)) (fun z3 => (zm_V_pick [0, 1, 2, 3, 4, 5] rfl (h3 (of_decide_eq_false z1) (of_decide_eq_false z2) (of_decide_eq_true z3)))) (fun z3 => (zm_run [(31, 32, 27, 0, 0, 0, []), (32, 35, 4, 3, 6, 0, []), (35, 37, 1, 5, 0, 0, []), (37, 38, 6, 0, 0, 0, []), (38, 39, 1, 2, 0, 0, [])] _ _ _ _ [decide (0 ≤ (v5).toInt ∧ (v5).toInt < ((600 : Nat) : Int))] 39 [(0, .inr 22), (1, .inl v1), (2, .inl v2), (3, .inl v3), (4, .inl v4), (5, .inl v5)] [.inl v2, .inl (μ 24 (v5).toNatClampNeg)] μ (by decide +kernel) rfl (zm_bc (h4 (of_decide_eq_false z1) (of_decide_eq_false z2) (Classical.byContradiction fun w => (of_decide_eq_false z3) w)) rfl) (zm_icmp (nx := 42) (a := 58) (b := 1) (k := 0) (sw := []) (zq_of (by decide +kernel)) (fun z4 => (zm_V_pick [0, 1, 2, 3, 4, 5] rfl (h5 (of_decide_eq_false z1) (of_decide_eq_false z2) (Classical.byContradiction fun w => (of_decide_eq_false z3) w) (of_decide_eq_true z4)))) (fun z4 => (zm_run [(42, 43, 27, 0, 0, 0, []), (43, 46, 4, 4, 6, 0, []), (46, 48, 1, 5, 0, 0, []), (48, 49, 6, 0, 0, 0, []), (49, 50, 1, 3, 0, 0, [])] _ _ _ _ [decide (0 ≤ (v5).toInt ∧ (v5).toInt < ((600 : Nat) : Int))] 50 [(0, .inr 22), (1, .inl v1), (2, .inl v2), (3, .inl v3), (4, .inl v4), (5, .inl v5)] [.inl v3, .inl (μ 25 (v5).toNatClampNeg)] μ (by decide +kernel) rfl (zm_bc (h6 (of_decide_eq_false z1) (of_decide_eq_false z2) (Classical.byContradiction fun w => (of_decide_eq_false z3) w) (Classical.byContradiction fun w => (of_decide_eq_false z4) w)) rfl) (zm_icmp (nx := 53) (a := 58) (b := 1) (k := 0) (sw := []) (zq_of (by decide +kernel)) (fun z5 => (zm_V_pick [0, 1, 2, 3, 4, 5] rfl (h7 (of_decide_eq_false z1) (of_decide_eq_false z2) (Classical.byContradiction fun w => (of_decide_eq_false z3) w) (Classical.byContradiction fun w => (of_decide_eq_false z4) w) (of_decide_eq_true z5)))) (fun z5 => (zm_run [(53, 55, 1, 5, 0, 0, []), (55, 58, 19, 60, 0, 0, [])] _ _ _ _ [] 60 [(0, .inr 22), (1, .inl v1), (2, .inl v2), (3, .inl v3), (4, .inl v4), (5, .inl v5)] [.inl v5] μ (by decide +kernel) rfl rfl (zm_V_pick [0, 1, 2, 3, 5] rfl (h8 (of_decide_eq_false z1) (of_decide_eq_false z2) (Classical.byContradiction fun w => (of_decide_eq_false z3) w) (Classical.byContradiction fun w => (of_decide_eq_false z4) w) (Classical.byContradiction fun w => (of_decide_eq_false z5) w)))))))))))))))))))

theorem k100_58 {X : zm_T} {d : Nat} {v1 v2 v3 v4 v5 : Int32} {μ : zm_u} {P : Int32 → zm_u → Prop}
    (h0 : zV X d 100 60 [(0, .inr 22), (1, .inl v1), (2, .inl v2), (3, .inl v3), (5, .inl v5)] [.inl v4] μ (zpi P)) :
    zV X d 100 58 [(0, .inr 22), (1, .inl v1), (2, .inl v2), (3, .inl v3), (4, .inl v4), (5, .inl v5)] [] μ (zpi P) :=
  (zm_run [(58, 60, 1, 4, 0, 0, [])] _ _ _ _ [] 60 [(0, .inr 22), (1, .inl v1), (2, .inl v2), (3, .inl v3), (4, .inl v4), (5, .inl v5)] [.inl v4] μ (by decide +kernel) rfl rfl (zm_V_pick [0, 1, 2, 3, 5] rfl h0))

theorem k100_60 {X : zm_T} {d : Nat} {s0 v1 v2 v3 v5 : Int32} {μ : zm_u} {P : Int32 → zm_u → Prop}
    (h0 : zV X d 100 6 [(0, .inr 22), (1, .inl v1), (2, .inl v2), (3, .inl v3), (4, .inl s0), (5, .inl (v5 + 1))] [] μ (zpi P)) :
    zV X d 100 60 [(0, .inr 22), (1, .inl v1), (2, .inl v2), (3, .inl v3), (5, .inl v5)] [.inl s0] μ (zpi P) :=
  (zm_run [(60, 62, 2, 4, 0, 0, []), (62, 65, 3, 5, 0, 1, []), (65, 68, 19, 6, 0, 0, [])] _ _ _ _ [] 6 [(0, .inr 22), (1, .inl v1), (2, .inl v2), (3, .inl v3), (4, .inl s0), (5, .inl (v5 + 1))] [] μ (by decide +kernel) rfl rfl (zm_V_pick [0, 1, 2, 3, 4, 5] rfl h0))

theorem k101_0 {X : zm_T} {d : Nat} {v1 v2 v3 : Int32} {μ : zm_u} {P : Int32 → zm_u → Prop}
    (h0 : ∃ G : Int32 → zm_u → Prop, zI X d 100 [.inr 22, .inl v1, .inl v2, .inl v3] μ G ∧ ∀ (r : Int32) (μ1 : zm_u), G r μ1 → zV X d 101 7 [(0, .inr 22), (1, .inl v1), (2, .inl v2), (3, .inl v3)] [.inl r] μ1 (zpi P)) :
    zV X d 101 0 [(0, .inr 22), (1, .inl v1), (2, .inl v2), (3, .inl v3)] [] μ (zpi P) :=
  (zm_run [(0, 1, 27, 0, 0, 0, []), (1, 2, 1, 1, 0, 0, []), (2, 3, 1, 2, 0, 0, []), (3, 4, 1, 3, 0, 0, [])] _ _ _ _ [] 4 [(0, .inr 22), (1, .inl v1), (2, .inl v2), (3, .inl v3)] [.inl v3, .inl v2, .inl v1, .inr 22] μ (by decide +kernel) rfl rfl (by obtain ⟨G, he, hk⟩ := h0; exact zm_callV (as := [.inr 22, .inl v1, .inl v2, .inl v3]) (rest := []) (P := zpi G) (nx := 7) (a := 100) (b := 4) (k := 6) (sw := []) (zq_of (by decide +kernel)) rfl rfl rfl he (fun _ μ1 hp => by obtain ⟨v, rfl, hp⟩ := hp; exact (zm_V_pick [0, 1, 2, 3] rfl (hk v μ1 hp)))))

theorem k101_7 {X : zm_T} {d : Nat} {s0 v1 v2 v3 : Int32} {μ : zm_u} {P : Int32 → zm_u → Prop}
    (h0 : 0 ≤ s0 → zV X d 101 37 [] [.inl s0] μ (zpi P))
    (h1 : ¬ (0 ≤ s0) → ¬ (μ 22 1) = (600 : Int32) → ∃ G : Int32 → zm_u → Prop, zI X d 99 [.inr 22, .inl v1, .inl v2, .inl v3, .inl (0 : Int32)] μ G ∧ ∀ (r : Int32) (μ1 : zm_u), G r μ1 → zV X d 101 37 [] [.inl r] μ1 (zpi P))
    (h2 : ¬ (0 ≤ s0) → (μ 22 1) = (600 : Int32) → zV X d 101 37 [] [.inl s0] μ (zpi P)) :
    zV X d 101 7 [(0, .inr 22), (1, .inl v1), (2, .inl v2), (3, .inl v3)] [.inl s0] μ (zpi P) :=
  (zm_run [(7, 9, 2, 4, 0, 0, []), (9, 11, 1, 4, 0, 0, [])] _ _ _ _ [] 11 [(0, .inr 22), (1, .inl v1), (2, .inl v2), (3, .inl v3), (4, .inl s0)] [.inl s0] μ (by decide +kernel) rfl rfl (zm_if (nx := 14) (a := 24) (b := 3) (k := 0) (sw := []) (zq_of (by decide +kernel)) (fun z1 => (zm_run [(24, 26, 1, 4, 0, 0, []), (26, 29, 19, 37, 0, 0, [])] _ _ _ _ [] 37 [(0, .inr 22), (1, .inl v1), (2, .inl v2), (3, .inl v3), (4, .inl s0)] [.inl s0] μ (by decide +kernel) rfl rfl (zm_V_pick [] rfl (h0 (of_decide_eq_true z1))))) (fun z1 => (zm_run [(14, 15, 27, 0, 0, 0, []), (15, 18, 4, 1, 6, 0, []), (18, 21, 0, 0, 0, 600, [])] _ _ _ _ [] 21 [(0, .inr 22), (1, .inl v1), (2, .inl v2), (3, .inl v3), (4, .inl s0)] [.inl (600 : Int32), .inl (μ 22 1)] μ (by decide +kernel) rfl rfl (zm_icmp (nx := 24) (a := 29) (b := 1) (k := 0) (sw := []) (zq_of (by decide +kernel)) (fun z2 => (zm_run [(29, 30, 27, 0, 0, 0, []), (30, 31, 1, 1, 0, 0, []), (31, 32, 1, 2, 0, 0, []), (32, 33, 1, 3, 0, 0, []), (33, 34, 0, 0, 0, 0, [])] _ _ _ _ [] 34 [(0, .inr 22), (1, .inl v1), (2, .inl v2), (3, .inl v3), (4, .inl s0)] [.inl (0 : Int32), .inl v3, .inl v2, .inl v1, .inr 22] μ (by decide +kernel) rfl rfl (by obtain ⟨G, he, hk⟩ := (h1 (of_decide_eq_false z1) (of_decide_eq_true z2)); exact zm_callV (as := [.inr 22, .inl v1, .inl v2, .inl v3, .inl (0 : Int32)]) (rest := []) (P := zpi G) (nx := 37) (a := 99) (b := 5) (k := 6) (sw := []) (zq_of (by decide +kernel)) rfl rfl rfl he (fun _ μ1 hp => by obtain ⟨v, rfl, hp⟩ := hp; exact (zm_V_pick [] rfl (hk v μ1 hp)))))) (fun z2 => (zm_run [(24, 26, 1, 4, 0, 0, []), (26, 29, 19, 37, 0, 0, [])] _ _ _ _ [] 37 [(0, .inr 22), (1, .inl v1), (2, .inl v2), (3, .inl v3), (4, .inl s0)] [.inl s0] μ (by decide +kernel) rfl rfl (zm_V_pick [] rfl (h2 (of_decide_eq_false z1) (Classical.byContradiction fun w => (of_decide_eq_false z2) w))))))))))

theorem k101_37 {X : zm_T} {d : Nat} {s0 : Int32} {μ : zm_u} {P : Int32 → zm_u → Prop}
    (h0 : P s0 μ) :
    zV X d 101 37 [] [.inl s0] μ (zpi P) :=
  (zm_iret (nx := 38) (a := 0) (b := 0) (k := 0) (sw := []) (zq_of (by decide +kernel)) ⟨_, rfl, h0⟩)

theorem k102_0 {X : zm_T} {d : Nat} {v1 : Int32} {μ : zm_u} {P : Int32 → zm_u → Prop}
    (h0 : ∃ G : Int32 → zm_u → Prop, zI X d 101 [.inr 22, .inl (3 : Int32), .inl v1, .inl (0 : Int32)] μ G ∧ ∀ (r : Int32) (μ1 : zm_u), G r μ1 → zV X d 102 7 [] [.inl r] μ1 (zpi P)) :
    zV X d 102 0 [(0, .inr 22), (1, .inl v1)] [] μ (zpi P) :=
  (zm_run [(0, 1, 27, 0, 0, 0, []), (1, 2, 0, 0, 0, 3, []), (2, 3, 1, 1, 0, 0, []), (3, 4, 0, 0, 0, 0, [])] _ _ _ _ [] 4 [(0, .inr 22), (1, .inl v1)] [.inl (0 : Int32), .inl v1, .inl (3 : Int32), .inr 22] μ (by decide +kernel) rfl rfl (by obtain ⟨G, he, hk⟩ := h0; exact zm_callV (as := [.inr 22, .inl (3 : Int32), .inl v1, .inl (0 : Int32)]) (rest := []) (P := zpi G) (nx := 7) (a := 101) (b := 4) (k := 6) (sw := []) (zq_of (by decide +kernel)) rfl rfl rfl he (fun _ μ1 hp => by obtain ⟨v, rfl, hp⟩ := hp; exact (zm_V_pick [] rfl (hk v μ1 hp)))))

theorem k102_7 {X : zm_T} {d : Nat} {s0 : Int32} {μ : zm_u} {P : Int32 → zm_u → Prop}
    (h0 : P s0 μ) :
    zV X d 102 7 [] [.inl s0] μ (zpi P) :=
  (zm_iret (nx := 8) (a := 0) (b := 0) (k := 0) (sw := []) (zq_of (by decide +kernel)) ⟨_, rfl, h0⟩)

theorem k103_0 {X : zm_T} {d : Nat} {v1 : Int32} {μ : zm_u} {P : Int32 → zm_u → Prop}
    (h0 : v1 < 0 → P (0 : Int32) μ)
    (h1 : ¬ (v1 < 0) → (μ 22 0) ≤ v1 → P (0 : Int32) μ)
    (h2 : ¬ (v1 < 0) → ¬ ((μ 22 0) ≤ v1) → P (1 : Int32) μ) :
    zV X d 103 0 [(0, .inr 22), (1, .inl v1)] [] μ (zpi P) :=
  (zm_run [(0, 1, 1, 1, 0, 0, [])] _ _ _ _ [] 1 [(0, .inr 22), (1, .inl v1)] [.inl v1] μ (by decide +kernel) rfl rfl (zm_if (nx := 4) (a := 16) (b := 2) (k := 0) (sw := []) (zq_of (by decide +kernel)) (fun z1 => (zm_run [(16, 17, 0, 0, 0, 0, [])] _ _ _ _ [] 17 [(0, .inr 22), (1, .inl v1)] [.inl (0 : Int32)] μ (by decide +kernel) rfl rfl (zm_zret (nx := 18) (a := 0) (b := 0) (k := 0) (sw := []) (zq_of (by decide +kernel)) (Or.inl rfl) ⟨_, rfl, (h0 (of_decide_eq_true z1))⟩))) (fun z1 => (zm_run [(4, 5, 1, 1, 0, 0, []), (5, 6, 27, 0, 0, 0, []), (6, 9, 4, 0, 6, 0, [])] _ _ _ _ [] 9 [(0, .inr 22), (1, .inl v1)] [.inl (μ 22 0), .inl v1] μ (by decide +kernel) rfl rfl (zm_icmp (nx := 12) (a := 16) (b := 3) (k := 0) (sw := []) (zq_of (by decide +kernel)) (fun z2 => (zm_run [(16, 17, 0, 0, 0, 0, [])] _ _ _ _ [] 17 [(0, .inr 22), (1, .inl v1)] [.inl (0 : Int32)] μ (by decide +kernel) rfl rfl (zm_zret (nx := 18) (a := 0) (b := 0) (k := 0) (sw := []) (zq_of (by decide +kernel)) (Or.inl rfl) ⟨_, rfl, (h1 (of_decide_eq_false z1) (of_decide_eq_true z2))⟩))) (fun z2 => (zm_run [(12, 13, 0, 0, 0, 1, []), (13, 16, 19, 17, 0, 0, [])] _ _ _ _ [] 17 [(0, .inr 22), (1, .inl v1)] [.inl (1 : Int32)] μ (by decide +kernel) rfl rfl (zm_zret (nx := 18) (a := 0) (b := 0) (k := 0) (sw := []) (zq_of (by decide +kernel)) (Or.inr rfl) ⟨_, rfl, (h2 (of_decide_eq_false z1) (of_decide_eq_false z2))⟩))))))))


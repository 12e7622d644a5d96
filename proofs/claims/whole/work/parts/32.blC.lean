theorem k44_0 {X : zm_T} {d : Nat} {v1 : Int32} {μ : zm_u} {P : Int32 → zm_u → Prop}
    (h0 : ∃ G : Int32 → zm_u → Prop, zI X d 14 [.inr 1] μ G ∧ ∀ (r : Int32) (μ1 : zm_u), G r μ1 → zV X d 44 7 [(0, .inr 3), (1, .inl v1)] [.inl r] μ1 (zpi P)) :
    zV X d 44 0 [(0, .inr 3), (1, .inl v1)] [] μ (zpi P) :=
  (zm_run [(0, 1, 27, 0, 0, 0, []), (1, 4, 4, 0, 3, 0, [])] _ _ _ _ [] 4 [(0, .inr 3), (1, .inl v1)] [.inr 1] μ (by decide +kernel) rfl rfl (by obtain ⟨G, he, hk⟩ := h0; exact zm_callV (as := [.inr 1]) (rest := []) (P := zpi G) (nx := 7) (a := 14) (b := 1) (k := 1) (sw := []) (zq_of (by decide +kernel)) rfl rfl rfl he (fun _ μ1 hp => by obtain ⟨v, rfl, hp⟩ := hp; exact (zm_V_pick [0, 1] rfl (hk v μ1 hp)))))

theorem k44_7 {X : zm_T} {d : Nat} {s0 v1 : Int32} {μ : zm_u} {P : Int32 → zm_u → Prop}
    (h0 : ∃ G : Int32 → zm_u → Prop, zI X d 26 [.inr 1, .inl (0 : Int32)] (zm_up (zm_up μ 3 5 v1) 3 4 (0 : Int32)) G ∧ ∀ (r : Int32) (μ1 : zm_u), G r μ1 → zV X d 44 31 [(0, .inr 3), (1, .inl v1), (2, .inl s0)] [.inl r, .inr 1, .inr 3] μ1 (zpi P)) :
    zV X d 44 7 [(0, .inr 3), (1, .inl v1)] [.inl s0] μ (zpi P) :=
  (zm_run [(7, 8, 2, 2, 0, 0, []), (8, 9, 27, 0, 0, 0, []), (9, 10, 1, 1, 0, 0, []), (10, 13, 5, 5, 3, 0, []), (13, 14, 27, 0, 0, 0, []), (14, 15, 0, 0, 0, 0, []), (15, 18, 5, 4, 3, 0, []), (18, 19, 27, 0, 0, 0, []), (19, 20, 27, 0, 0, 0, []), (20, 23, 4, 0, 3, 0, []), (23, 24, 27, 0, 0, 0, []), (24, 27, 4, 0, 3, 0, []), (27, 28, 0, 0, 0, 0, [])] _ _ _ _ [] 28 [(0, .inr 3), (1, .inl v1), (2, .inl s0)] [.inl (0 : Int32), .inr 1, .inr 1, .inr 3] (zm_up (zm_up μ 3 5 v1) 3 4 (0 : Int32)) (by decide +kernel) rfl rfl (by obtain ⟨G, he, hk⟩ := h0; exact zm_callV (as := [.inr 1, .inl (0 : Int32)]) (rest := [.inr 1, .inr 3]) (P := zpi G) (nx := 31) (a := 26) (b := 2) (k := 1) (sw := []) (zq_of (by decide +kernel)) rfl rfl rfl he (fun _ μ1 hp => by obtain ⟨v, rfl, hp⟩ := hp; exact (zm_V_pick [0, 1, 2] rfl (hk v μ1 hp)))))

theorem k44_31 {X : zm_T} {d : Nat} {s2 v1 v2 : Int32} {μ : zm_u} {P : Int32 → zm_u → Prop}
    (h0 : ∃ G : Int32 → zm_u → Prop, zI X d 25 [.inr 1, .inl s2] μ G ∧ ∀ (r : Int32) (μ1 : zm_u), G r μ1 → zV X d 44 34 [(0, .inr 3), (1, .inl v1), (2, .inl v2)] [.inl r, .inr 3] μ1 (zpi P)) :
    zV X d 44 31 [(0, .inr 3), (1, .inl v1), (2, .inl v2)] [.inl s2, .inr 1, .inr 3] μ (zpi P) :=
  (by obtain ⟨G, he, hk⟩ := h0; exact zm_callV (as := [.inr 1, .inl s2]) (rest := [.inr 3]) (P := zpi G) (nx := 34) (a := 25) (b := 2) (k := 1) (sw := []) (zq_of (by decide +kernel)) rfl rfl rfl he (fun _ μ1 hp => by obtain ⟨v, rfl, hp⟩ := hp; exact (zm_V_pick [0, 1, 2] rfl (hk v μ1 hp))))

theorem k44_34 {X : zm_T} {d : Nat} {s1 v1 v2 : Int32} {μ : zm_u} {P : Int32 → zm_u → Prop}
    (h0 : ∃ G : zm_u → Prop, zO X d 52 [.inr 3, .inl s1] μ G ∧ ∀ μ1 : zm_u, G μ1 → zV X d 44 37 [(0, .inr 3), (1, .inl v1), (2, .inl v2)] [] μ1 (zpi P)) :
    zV X d 44 34 [(0, .inr 3), (1, .inl v1), (2, .inl v2)] [.inl s1, .inr 3] μ (zpi P) :=
  (by obtain ⟨G, he, hk⟩ := h0; exact zm_callV (as := [.inr 3, .inl s1]) (rest := []) (P := zpo G) (nx := 37) (a := 52) (b := 2) (k := 3) (sw := []) (zq_of (by decide +kernel)) rfl rfl rfl he (fun _ μ1 hp => by obtain ⟨rfl, hp⟩ := hp; exact (zm_V_pick [0, 1, 2] rfl (hk μ1 hp))))

theorem k44_37 {X : zm_T} {d : Nat} {v1 v2 : Int32} {μ : zm_u} {P : Int32 → zm_u → Prop}
    (h0 : ∃ G : Int32 → zm_u → Prop, zI X d 30 [.inr 2] μ G ∧ ∀ (r : Int32) (μ1 : zm_u), G r μ1 → zV X d 44 45 [(0, .inr 3), (1, .inl v1), (2, .inl v2)] [.inl r, .inr 3] μ1 (zpi P)) :
    zV X d 44 37 [(0, .inr 3), (1, .inl v1), (2, .inl v2)] [] μ (zpi P) :=
  (zm_run [(37, 38, 27, 0, 0, 0, []), (38, 39, 27, 0, 0, 0, []), (39, 42, 4, 1, 3, 0, [])] _ _ _ _ [] 42 [(0, .inr 3), (1, .inl v1), (2, .inl v2)] [.inr 2, .inr 3] μ (by decide +kernel) rfl rfl (by obtain ⟨G, he, hk⟩ := h0; exact zm_callV (as := [.inr 2]) (rest := [.inr 3]) (P := zpi G) (nx := 45) (a := 30) (b := 1) (k := 2) (sw := []) (zq_of (by decide +kernel)) rfl rfl rfl he (fun _ μ1 hp => by obtain ⟨v, rfl, hp⟩ := hp; exact (zm_V_pick [0, 1, 2] rfl (hk v μ1 hp)))))

theorem k44_45 {X : zm_T} {d : Nat} {s1 v1 v2 : Int32} {μ : zm_u} {P : Int32 → zm_u → Prop}
    (h0 : ∃ G : Int32 → zm_u → Prop, zI X d 46 [.inr 3, .inl s1, .inl v1] μ G ∧ ∀ (r : Int32) (μ1 : zm_u), G r μ1 → zV X d 44 49 [(0, .inr 3), (2, .inl v2)] [.inl r] μ1 (zpi P)) :
    zV X d 44 45 [(0, .inr 3), (1, .inl v1), (2, .inl v2)] [.inl s1, .inr 3] μ (zpi P) :=
  (zm_run [(45, 46, 1, 1, 0, 0, [])] _ _ _ _ [] 46 [(0, .inr 3), (1, .inl v1), (2, .inl v2)] [.inl v1, .inl s1, .inr 3] μ (by decide +kernel) rfl rfl (by obtain ⟨G, he, hk⟩ := h0; exact zm_callV (as := [.inr 3, .inl s1, .inl v1]) (rest := []) (P := zpi G) (nx := 49) (a := 46) (b := 3) (k := 3) (sw := []) (zq_of (by decide +kernel)) rfl rfl rfl he (fun _ μ1 hp => by obtain ⟨v, rfl, hp⟩ := hp; exact (zm_V_pick [0, 2] rfl (hk v μ1 hp)))))

theorem k44_49 {X : zm_T} {d : Nat} {s0 v2 : Int32} {μ : zm_u} {P : Int32 → zm_u → Prop}
    (h0 : ∃ G : zm_u → Prop, zO X d 28 [.inr 1, .inl v2] μ G ∧ ∀ μ1 : zm_u, G μ1 → zV X d 44 58 [(3, .inl s0)] [] μ1 (zpi P)) :
    zV X d 44 49 [(0, .inr 3), (2, .inl v2)] [.inl s0] μ (zpi P) :=
  (zm_run [(49, 50, 2, 3, 0, 0, []), (50, 51, 27, 0, 0, 0, []), (51, 54, 4, 0, 3, 0, []), (54, 55, 1, 2, 0, 0, [])] _ _ _ _ [] 55 [(0, .inr 3), (2, .inl v2), (3, .inl s0)] [.inl v2, .inr 1] μ (by decide +kernel) rfl rfl (by obtain ⟨G, he, hk⟩ := h0; exact zm_callV (as := [.inr 1, .inl v2]) (rest := []) (P := zpo G) (nx := 58) (a := 28) (b := 2) (k := 1) (sw := []) (zq_of (by decide +kernel)) rfl rfl rfl he (fun _ μ1 hp => by obtain ⟨rfl, hp⟩ := hp; exact (zm_V_pick [3] rfl (hk μ1 hp)))))

theorem k44_58 {X : zm_T} {d : Nat} {v3 : Int32} {μ : zm_u} {P : Int32 → zm_u → Prop}
    (h0 : v3 = 0 ∨ v3 = 1)
    (h1 : P v3 μ) :
    zV X d 44 58 [(3, .inl v3)] [] μ (zpi P) :=
  (zm_run [(58, 59, 1, 3, 0, 0, [])] _ _ _ _ [] 59 [(3, .inl v3)] [.inl v3] μ (by decide +kernel) rfl rfl (zm_zret (nx := 60) (a := 0) (b := 0) (k := 0) (sw := []) (zq_of (by decide +kernel)) h0 ⟨_, rfl, h1⟩))

theorem k45_0 {X : zm_T} {d : Nat} {v1 v2 : Int32} {μ : zm_u} {P : Int32 → zm_u → Prop}
    (h0 : ∃ G : Int32 → zm_u → Prop, zI X d 14 [.inr 1] μ G ∧ ∀ (r : Int32) (μ1 : zm_u), G r μ1 → zV X d 45 7 [(0, .inr 3), (1, .inl v1), (2, .inl v2)] [.inl r] μ1 (zpi P)) :
    zV X d 45 0 [(0, .inr 3), (1, .inl v1), (2, .inl v2)] [] μ (zpi P) :=
  (zm_run [(0, 1, 27, 0, 0, 0, []), (1, 4, 4, 0, 3, 0, [])] _ _ _ _ [] 4 [(0, .inr 3), (1, .inl v1), (2, .inl v2)] [.inr 1] μ (by decide +kernel) rfl rfl (by obtain ⟨G, he, hk⟩ := h0; exact zm_callV (as := [.inr 1]) (rest := []) (P := zpi G) (nx := 7) (a := 14) (b := 1) (k := 1) (sw := []) (zq_of (by decide +kernel)) rfl rfl rfl he (fun _ μ1 hp => by obtain ⟨v, rfl, hp⟩ := hp; exact (zm_V_pick [0, 1, 2] rfl (hk v μ1 hp)))))

theorem k45_7 {X : zm_T} {d : Nat} {s0 v1 v2 : Int32} {μ : zm_u} {P : Int32 → zm_u → Prop}
    (h0 : ∃ G : Int32 → zm_u → Prop, zI X d 31 [.inr 2] (zm_up (zm_up μ 3 5 v2) 3 4 (0 : Int32)) G ∧ ∀ (r : Int32) (μ1 : zm_u), G r μ1 → zV X d 45 26 [(0, .inr 3), (1, .inl v1), (3, .inl s0)] [.inl r, .inr 3] μ1 (zpi P)) :
    zV X d 45 7 [(0, .inr 3), (1, .inl v1), (2, .inl v2)] [.inl s0] μ (zpi P) :=
  (zm_run [(7, 8, 2, 3, 0, 0, []), (8, 9, 27, 0, 0, 0, []), (9, 10, 1, 2, 0, 0, []), (10, 13, 5, 5, 3, 0, []), (13, 14, 27, 0, 0, 0, []), (14, 15, 0, 0, 0, 0, []), (15, 18, 5, 4, 3, 0, []), (18, 19, 27, 0, 0, 0, []), (19, 20, 27, 0, 0, 0, []), (20, 23, 4, 1, 3, 0, [])] _ _ _ _ [] 23 [(0, .inr 3), (1, .inl v1), (2, .inl v2), (3, .inl s0)] [.inr 2, .inr 3] (zm_up (zm_up μ 3 5 v2) 3 4 (0 : Int32)) (by decide +kernel) rfl rfl (by obtain ⟨G, he, hk⟩ := h0; exact zm_callV (as := [.inr 2]) (rest := [.inr 3]) (P := zpi G) (nx := 26) (a := 31) (b := 1) (k := 2) (sw := []) (zq_of (by decide +kernel)) rfl rfl rfl he (fun _ μ1 hp => by obtain ⟨v, rfl, hp⟩ := hp; exact (zm_V_pick [0, 1, 3] rfl (hk v μ1 hp)))))

theorem k45_26 {X : zm_T} {d : Nat} {s1 v1 v3 : Int32} {μ : zm_u} {P : Int32 → zm_u → Prop}
    (h0 : ∃ G : Int32 → zm_u → Prop, zI X d 46 [.inr 3, .inl s1, .inl v1] μ G ∧ ∀ (r : Int32) (μ1 : zm_u), G r μ1 → zV X d 45 30 [(0, .inr 3), (3, .inl v3)] [.inl r] μ1 (zpi P)) :
    zV X d 45 26 [(0, .inr 3), (1, .inl v1), (3, .inl v3)] [.inl s1, .inr 3] μ (zpi P) :=
  (zm_run [(26, 27, 1, 1, 0, 0, [])] _ _ _ _ [] 27 [(0, .inr 3), (1, .inl v1), (3, .inl v3)] [.inl v1, .inl s1, .inr 3] μ (by decide +kernel) rfl rfl (by obtain ⟨G, he, hk⟩ := h0; exact zm_callV (as := [.inr 3, .inl s1, .inl v1]) (rest := []) (P := zpi G) (nx := 30) (a := 46) (b := 3) (k := 3) (sw := []) (zq_of (by decide +kernel)) rfl rfl rfl he (fun _ μ1 hp => by obtain ⟨v, rfl, hp⟩ := hp; exact (zm_V_pick [0, 3] rfl (hk v μ1 hp)))))

theorem k45_30 {X : zm_T} {d : Nat} {s0 v3 : Int32} {μ : zm_u} {P : Int32 → zm_u → Prop}
    (h0 : ∃ G : zm_u → Prop, zO X d 28 [.inr 1, .inl v3] μ G ∧ ∀ μ1 : zm_u, G μ1 → zV X d 45 40 [(4, .inl s0)] [] μ1 (zpi P)) :
    zV X d 45 30 [(0, .inr 3), (3, .inl v3)] [.inl s0] μ (zpi P) :=
  (zm_run [(30, 32, 2, 4, 0, 0, []), (32, 33, 27, 0, 0, 0, []), (33, 36, 4, 0, 3, 0, []), (36, 37, 1, 3, 0, 0, [])] _ _ _ _ [] 37 [(0, .inr 3), (3, .inl v3), (4, .inl s0)] [.inl v3, .inr 1] μ (by decide +kernel) rfl rfl (by obtain ⟨G, he, hk⟩ := h0; exact zm_callV (as := [.inr 1, .inl v3]) (rest := []) (P := zpo G) (nx := 40) (a := 28) (b := 2) (k := 1) (sw := []) (zq_of (by decide +kernel)) rfl rfl rfl he (fun _ μ1 hp => by obtain ⟨rfl, hp⟩ := hp; exact (zm_V_pick [4] rfl (hk μ1 hp)))))

theorem k45_40 {X : zm_T} {d : Nat} {v4 : Int32} {μ : zm_u} {P : Int32 → zm_u → Prop}
    (h0 : v4 = 0 ∨ v4 = 1)
    (h1 : P v4 μ) :
    zV X d 45 40 [(4, .inl v4)] [] μ (zpi P) :=
  (zm_run [(40, 42, 1, 4, 0, 0, [])] _ _ _ _ [] 42 [(4, .inl v4)] [.inl v4] μ (by decide +kernel) rfl rfl (zm_zret (nx := 43) (a := 0) (b := 0) (k := 0) (sw := []) (zq_of (by decide +kernel)) h0 ⟨_, rfl, h1⟩))

theorem k46_0 {X : zm_T} {d : Nat} {v1 v2 : Int32} {μ : zm_u} {P : Int32 → zm_u → Prop}
    (h0 : ∃ G : Int32 → zm_u → Prop, zI X d 32 [.inr 2, .inl v1] μ G ∧ ∀ (r : Int32) (μ1 : zm_u), G r μ1 → zV X d 46 8 [(0, .inr 3), (1, .inl v1), (2, .inl v2)] [.inl r] μ1 (zpi P)) :
    zV X d 46 0 [(0, .inr 3), (1, .inl v1), (2, .inl v2)] [] μ (zpi P) :=
  (zm_run [(0, 1, 27, 0, 0, 0, []), (1, 4, 4, 1, 3, 0, []), (4, 5, 1, 1, 0, 0, [])] _ _ _ _ [] 5 [(0, .inr 3), (1, .inl v1), (2, .inl v2)] [.inl v1, .inr 2] μ (by decide +kernel) rfl rfl (by obtain ⟨G, he, hk⟩ := h0; exact zm_callV (as := [.inr 2, .inl v1]) (rest := []) (P := zpi G) (nx := 8) (a := 32) (b := 2) (k := 2) (sw := []) (zq_of (by decide +kernel)) rfl rfl rfl he (fun _ μ1 hp => by obtain ⟨v, rfl, hp⟩ := hp; exact (zm_V_pick [0, 1, 2] rfl (hk v μ1 hp)))))

theorem k46_8 {X : zm_T} {d : Nat} {s0 v1 v2 : Int32} {μ : zm_u} {P : Int32 → zm_u → Prop}
    (h0 : s0 = 5 → ∃ G : Int32 → zm_u → Prop, zI X d 34 [.inr 2, .inl v1, .inl (0 : Int32)] μ G ∧ ∀ (r : Int32) (μ1 : zm_u), G r μ1 → zV X d 46 46 [(0, .inr 3), (1, .inl v1), (2, .inl v2)] [.inl r, .inr 3] μ1 (zpi P))
    (h1 : ¬ s0 = 5 → s0 = 17 → ∃ G : Int32 → zm_u → Prop, zI X d 48 [.inr 3, .inl v1, .inl v2] μ G ∧ ∀ (r : Int32) (μ1 : zm_u), G r μ1 → zV X d 46 99 [] [.inl r] μ1 (zpi P))
    (h2 : ¬ s0 = 5 → ¬ s0 = 17 → ∃ G : Int32 → zm_u → Prop, zI X d 53 [.inr 3, .inl v1] μ G ∧ ∀ (r : Int32) (μ1 : zm_u), G r μ1 → zV X d 46 106 [(2, .inl v2)] [.inl r, .inr 3] μ1 (zpi P)) :
    zV X d 46 8 [(0, .inr 3), (1, .inl v1), (2, .inl v2)] [.inl s0] μ (zpi P) :=
  (zm_switch (nx := 36) (a := 100) (b := 0) (k := 0) (sw := [(5, 36), (17, 93)]) (zq_of (by decide +kernel)) (zsw_e (fun z1 => (zm_run [(36, 37, 27, 0, 0, 0, []), (37, 38, 27, 0, 0, 0, []), (38, 41, 4, 1, 3, 0, []), (41, 42, 1, 1, 0, 0, []), (42, 43, 0, 0, 0, 0, [])] _ _ _ _ [] 43 [(0, .inr 3), (1, .inl v1), (2, .inl v2)] [.inl (0 : Int32), .inl v1, .inr 2, .inr 3] μ (by decide +kernel) rfl rfl (by obtain ⟨G, he, hk⟩ := (h0 z1); exact zm_callV (as := [.inr 2, .inl v1, .inl (0 : Int32)]) (rest := [.inr 3]) (P := zpi G) (nx := 46) (a := 34) (b := 3) (k := 2) (sw := []) (zq_of (by decide +kernel)) rfl rfl rfl he (fun _ μ1 hp => by obtain ⟨v, rfl, hp⟩ := hp; exact (zm_V_pick [0, 1, 2] rfl (hk v μ1 hp)))))) (fun z1 => (zsw_e (fun z2 => (zm_run [(93, 94, 27, 0, 0, 0, []), (94, 95, 1, 1, 0, 0, []), (95, 96, 1, 2, 0, 0, [])] _ _ _ _ [] 96 [(0, .inr 3), (1, .inl v1), (2, .inl v2)] [.inl v2, .inl v1, .inr 3] μ (by decide +kernel) rfl rfl (by obtain ⟨G, he, hk⟩ := (h1 z1 z2); exact zm_callV (as := [.inr 3, .inl v1, .inl v2]) (rest := []) (P := zpi G) (nx := 99) (a := 48) (b := 3) (k := 3) (sw := []) (zq_of (by decide +kernel)) rfl rfl rfl he (fun _ μ1 hp => by obtain ⟨v, rfl, hp⟩ := hp; exact (zm_V_pick [] rfl (hk v μ1 hp)))))) (fun z2 => (zm_run [(100, 101, 27, 0, 0, 0, []), (101, 102, 27, 0, 0, 0, []), (102, 103, 1, 1, 0, 0, [])] _ _ _ _ [] 103 [(0, .inr 3), (1, .inl v1), (2, .inl v2)] [.inl v1, .inr 3, .inr 3] μ (by decide +kernel) rfl rfl (by obtain ⟨G, he, hk⟩ := (h2 z1 z2); exact zm_callV (as := [.inr 3, .inl v1]) (rest := [.inr 3]) (P := zpi G) (nx := 106) (a := 53) (b := 2) (k := 3) (sw := []) (zq_of (by decide +kernel)) rfl rfl rfl he (fun _ μ1 hp => by obtain ⟨v, rfl, hp⟩ := hp; exact (zm_V_pick [2] rfl (hk v μ1 hp))))))))))

theorem k46_46 {X : zm_T} {d : Nat} {s1 v1 v2 : Int32} {μ : zm_u} {P : Int32 → zm_u → Prop}
    (h0 : ∃ G : Int32 → zm_u → Prop, zI X d 46 [.inr 3, .inl s1, .inl (1 : Int32)] μ G ∧ ∀ (r : Int32) (μ1 : zm_u), G r μ1 → zV X d 46 50 [(0, .inr 3), (1, .inl v1), (2, .inl v2)] [.inl r] μ1 (zpi P)) :
    zV X d 46 46 [(0, .inr 3), (1, .inl v1), (2, .inl v2)] [.inl s1, .inr 3] μ (zpi P) :=
  (zm_run [(46, 47, 0, 0, 0, 1, [])] _ _ _ _ [] 47 [(0, .inr 3), (1, .inl v1), (2, .inl v2)] [.inl (1 : Int32), .inl s1, .inr 3] μ (by decide +kernel) rfl rfl (by obtain ⟨G, he, hk⟩ := h0; exact zm_callV (as := [.inr 3, .inl s1, .inl (1 : Int32)]) (rest := []) (P := zpi G) (nx := 50) (a := 46) (b := 3) (k := 3) (sw := []) (zq_of (by decide +kernel)) rfl rfl rfl he (fun _ μ1 hp => by obtain ⟨v, rfl, hp⟩ := hp; exact (zm_V_pick [0, 1, 2] rfl (hk v μ1 hp)))))

theorem k46_99 {X : zm_T} {d : Nat} {s0 : Int32} {μ : zm_u} {P : Int32 → zm_u → Prop}
    (h0 : s0 = 0 ∨ s0 = 1)
    (h1 : P s0 μ) :
    zV X d 46 99 [] [.inl s0] μ (zpi P) :=
  (zm_zret (nx := 100) (a := 0) (b := 0) (k := 0) (sw := []) (zq_of (by decide +kernel)) h0 ⟨_, rfl, h1⟩)

theorem k46_106 {X : zm_T} {d : Nat} {s1 v2 : Int32} {μ : zm_u} {P : Int32 → zm_u → Prop}
    (h0 : ∃ G : Int32 → zm_u → Prop, zI X d 63 [.inr 3, .inl s1, .inl v2, .inl (40 : Int32)] μ G ∧ ∀ (r : Int32) (μ1 : zm_u), G r μ1 → zV X d 46 112 [] [.inl r] μ1 (zpi P)) :
    zV X d 46 106 [(2, .inl v2)] [.inl s1, .inr 3] μ (zpi P) :=
  (zm_run [(106, 107, 1, 2, 0, 0, []), (107, 109, 0, 0, 0, 40, [])] _ _ _ _ [] 109 [(2, .inl v2)] [.inl (40 : Int32), .inl v2, .inl s1, .inr 3] μ (by decide +kernel) rfl rfl (by obtain ⟨G, he, hk⟩ := h0; exact zm_callV (as := [.inr 3, .inl s1, .inl v2, .inl (40 : Int32)]) (rest := []) (P := zpi G) (nx := 112) (a := 63) (b := 4) (k := 3) (sw := []) (zq_of (by decide +kernel)) rfl rfl rfl he (fun _ μ1 hp => by obtain ⟨v, rfl, hp⟩ := hp; exact (zm_V_pick [] rfl (hk v μ1 hp)))))

theorem k46_50 {X : zm_T} {d : Nat} {s0 v1 v2 : Int32} {μ : zm_u} {P : Int32 → zm_u → Prop}
    (h0 : s0 = 0 → P (0 : Int32) μ)
    (h1 : ¬ (s0 = 0) → ∃ G : Int32 → zm_u → Prop, zI X d 34 [.inr 2, .inl v1, .inl (1 : Int32)] μ G ∧ ∀ (r : Int32) (μ1 : zm_u), G r μ1 → zV X d 46 63 [(0, .inr 3), (1, .inl v1), (2, .inl v2)] [.inl r, .inr 3] μ1 (zpi P)) :
    zV X d 46 50 [(0, .inr 3), (1, .inl v1), (2, .inl v2)] [.inl s0] μ (zpi P) :=
  (zm_if (nx := 53) (a := 91) (b := 0) (k := 0) (sw := []) (zq_of (by decide +kernel)) (fun z1 => (zm_run [(91, 92, 0, 0, 0, 0, [])] _ _ _ _ [] 92 [(0, .inr 3), (1, .inl v1), (2, .inl v2)] [.inl (0 : Int32)] μ (by decide +kernel) rfl rfl (zm_zret (nx := 93) (a := 0) (b := 0) (k := 0) (sw := []) (zq_of (by decide +kernel)) (Or.inl rfl) ⟨_, rfl, (h0 (of_decide_eq_true z1))⟩))) (fun z1 => (zm_run [(53, 54, 27, 0, 0, 0, []), (54, 55, 27, 0, 0, 0, []), (55, 58, 4, 1, 3, 0, []), (58, 59, 1, 1, 0, 0, []), (59, 60, 0, 0, 0, 1, [])] _ _ _ _ [] 60 [(0, .inr 3), (1, .inl v1), (2, .inl v2)] [.inl (1 : Int32), .inl v1, .inr 2, .inr 3] μ (by decide +kernel) rfl rfl (by obtain ⟨G, he, hk⟩ := (h1 (of_decide_eq_false z1)); exact zm_callV (as := [.inr 2, .inl v1, .inl (1 : Int32)]) (rest := [.inr 3]) (P := zpi G) (nx := 63) (a := 34) (b := 3) (k := 2) (sw := []) (zq_of (by decide +kernel)) rfl rfl rfl he (fun _ μ1 hp => by obtain ⟨v, rfl, hp⟩ := hp; exact (zm_V_pick [0, 1, 2] rfl (hk v μ1 hp)))))))

theorem k46_112 {X : zm_T} {d : Nat} {s0 : Int32} {μ : zm_u} {P : Int32 → zm_u → Prop}
    (h0 : s0 = 0 ∨ s0 = 1)
    (h1 : P s0 μ) :
    zV X d 46 112 [] [.inl s0] μ (zpi P) :=
  (zm_zret (nx := 113) (a := 0) (b := 0) (k := 0) (sw := []) (zq_of (by decide +kernel)) h0 ⟨_, rfl, h1⟩)

theorem k46_63 {X : zm_T} {d : Nat} {s1 v1 v2 : Int32} {μ : zm_u} {P : Int32 → zm_u → Prop}
    (h0 : ∃ G : Int32 → zm_u → Prop, zI X d 46 [.inr 3, .inl s1, .inl v2] μ G ∧ ∀ (r : Int32) (μ1 : zm_u), G r μ1 → zV X d 46 67 [(0, .inr 3), (1, .inl v1), (2, .inl v2)] [.inl r] μ1 (zpi P)) :
    zV X d 46 63 [(0, .inr 3), (1, .inl v1), (2, .inl v2)] [.inl s1, .inr 3] μ (zpi P) :=
  (zm_run [(63, 64, 1, 2, 0, 0, [])] _ _ _ _ [] 64 [(0, .inr 3), (1, .inl v1), (2, .inl v2)] [.inl v2, .inl s1, .inr 3] μ (by decide +kernel) rfl rfl (by obtain ⟨G, he, hk⟩ := h0; exact zm_callV (as := [.inr 3, .inl s1, .inl v2]) (rest := []) (P := zpi G) (nx := 67) (a := 46) (b := 3) (k := 3) (sw := []) (zq_of (by decide +kernel)) rfl rfl rfl he (fun _ μ1 hp => by obtain ⟨v, rfl, hp⟩ := hp; exact (zm_V_pick [0, 1, 2] rfl (hk v μ1 hp)))))

theorem k46_67 {X : zm_T} {d : Nat} {s0 v1 v2 : Int32} {μ : zm_u} {P : Int32 → zm_u → Prop}
    (h0 : s0 = 0 → P (0 : Int32) μ)
    (h1 : ¬ (s0 = 0) → ∃ G : Int32 → zm_u → Prop, zI X d 34 [.inr 2, .inl v1, .inl (2 : Int32)] μ G ∧ ∀ (r : Int32) (μ1 : zm_u), G r μ1 → zV X d 46 80 [(2, .inl v2)] [.inl r, .inr 3] μ1 (zpi P)) :
    zV X d 46 67 [(0, .inr 3), (1, .inl v1), (2, .inl v2)] [.inl s0] μ (zpi P) :=
  (zm_if (nx := 70) (a := 91) (b := 0) (k := 0) (sw := []) (zq_of (by decide +kernel)) (fun z1 => (zm_run [(91, 92, 0, 0, 0, 0, [])] _ _ _ _ [] 92 [(0, .inr 3), (1, .inl v1), (2, .inl v2)] [.inl (0 : Int32)] μ (by decide +kernel) rfl rfl (zm_zret (nx := 93) (a := 0) (b := 0) (k := 0) (sw := []) (zq_of (by decide +kernel)) (Or.inl rfl) ⟨_, rfl, (h0 (of_decide_eq_true z1))⟩))) (fun z1 => (zm_run [(70, 71, 27, 0, 0, 0, []), (71, 72, 27, 0, 0, 0, []), (72, 75, 4, 1, 3, 0, []), (75, 76, 1, 1, 0, 0, []), (76, 77, 0, 0, 0, 2, [])] _ _ _ _ [] 77 [(0, .inr 3), (1, .inl v1), (2, .inl v2)] [.inl (2 : Int32), .inl v1, .inr 2, .inr 3] μ (by decide +kernel) rfl rfl (by obtain ⟨G, he, hk⟩ := (h1 (of_decide_eq_false z1)); exact zm_callV (as := [.inr 2, .inl v1, .inl (2 : Int32)]) (rest := [.inr 3]) (P := zpi G) (nx := 80) (a := 34) (b := 3) (k := 2) (sw := []) (zq_of (by decide +kernel)) rfl rfl rfl he (fun _ μ1 hp => by obtain ⟨v, rfl, hp⟩ := hp; exact (zm_V_pick [2] rfl (hk v μ1 hp)))))))

theorem k46_80 {X : zm_T} {d : Nat} {s1 v2 : Int32} {μ : zm_u} {P : Int32 → zm_u → Prop}
    (h0 : ∃ G : Int32 → zm_u → Prop, zI X d 46 [.inr 3, .inl s1, .inl v2] μ G ∧ ∀ (r : Int32) (μ1 : zm_u), G r μ1 → zV X d 46 84 [] [.inl r] μ1 (zpi P)) :
    zV X d 46 80 [(2, .inl v2)] [.inl s1, .inr 3] μ (zpi P) :=
  (zm_run [(80, 81, 1, 2, 0, 0, [])] _ _ _ _ [] 81 [(2, .inl v2)] [.inl v2, .inl s1, .inr 3] μ (by decide +kernel) rfl rfl (by obtain ⟨G, he, hk⟩ := h0; exact zm_callV (as := [.inr 3, .inl s1, .inl v2]) (rest := []) (P := zpi G) (nx := 84) (a := 46) (b := 3) (k := 3) (sw := []) (zq_of (by decide +kernel)) rfl rfl rfl he (fun _ μ1 hp => by obtain ⟨v, rfl, hp⟩ := hp; exact (zm_V_pick [] rfl (hk v μ1 hp)))))

theorem k46_84 {X : zm_T} {d : Nat} {s0 : Int32} {μ : zm_u} {P : Int32 → zm_u → Prop}
    (h0 : s0 = 0 → P (0 : Int32) μ)
    (h1 : ¬ (s0 = 0) → P (1 : Int32) μ) :
    zV X d 46 84 [] [.inl s0] μ (zpi P) :=
  (zm_if (nx := 87) (a := 91) (b := 0) (k := 0) (sw := []) (zq_of (by decide +kernel)) (fun z1 => (zm_run [(91, 92, 0, 0, 0, 0, [])] _ _ _ _ [] 92 [] [.inl (0 : Int32)] μ (by decide +kernel) rfl rfl (zm_zret (nx := 93) (a := 0) (b := 0) (k := 0) (sw := []) (zq_of (by decide +kernel)) (Or.inl rfl) ⟨_, rfl, (h0 (of_decide_eq_true z1))⟩))) (fun z1 => (zm_run [(87, 88, 0, 0, 0, 1, []), (88, 91, 19, 92, 0, 0, [])] _ _ _ _ [] 92 [] [.inl (1 : Int32)] μ (by decide +kernel) rfl rfl (zm_zret (nx := 93) (a := 0) (b := 0) (k := 0) (sw := []) (zq_of (by decide +kernel)) (Or.inr rfl) ⟨_, rfl, (h1 (of_decide_eq_false z1))⟩))))

theorem k47_0 {X : zm_T} {d : Nat} {v1 v2 : Int32} {μ : zm_u} {P : Int32 → zm_u → Prop}
    (h0 : ∃ G : Int32 → zm_u → Prop, zI X d 34 [.inr 2, .inl v1, .inl (0 : Int32)] μ G ∧ ∀ (r : Int32) (μ1 : zm_u), G r μ1 → zV X d 47 10 [(0, .inr 3), (1, .inl v1), (2, .inl v2)] [.inl r, .inr 3] μ1 (zpi P)) :
    zV X d 47 0 [(0, .inr 3), (1, .inl v1), (2, .inl v2)] [] μ (zpi P) :=
  (zm_run [(0, 1, 27, 0, 0, 0, []), (1, 2, 27, 0, 0, 0, []), (2, 5, 4, 1, 3, 0, []), (5, 6, 1, 1, 0, 0, []), (6, 7, 0, 0, 0, 0, [])] _ _ _ _ [] 7 [(0, .inr 3), (1, .inl v1), (2, .inl v2)] [.inl (0 : Int32), .inl v1, .inr 2, .inr 3] μ (by decide +kernel) rfl rfl (by obtain ⟨G, he, hk⟩ := h0; exact zm_callV (as := [.inr 2, .inl v1, .inl (0 : Int32)]) (rest := [.inr 3]) (P := zpi G) (nx := 10) (a := 34) (b := 3) (k := 2) (sw := []) (zq_of (by decide +kernel)) rfl rfl rfl he (fun _ μ1 hp => by obtain ⟨v, rfl, hp⟩ := hp; exact (zm_V_pick [0, 1, 2] rfl (hk v μ1 hp)))))

theorem k47_10 {X : zm_T} {d : Nat} {s1 v1 v2 : Int32} {μ : zm_u} {P : Int32 → zm_u → Prop}
    (h0 : ∃ G : Int32 → zm_u → Prop, zI X d 46 [.inr 3, .inl s1, .inl v2] μ G ∧ ∀ (r : Int32) (μ1 : zm_u), G r μ1 → zV X d 47 14 [(0, .inr 3), (1, .inl v1), (2, .inl v2)] [.inl r] μ1 (zpi P)) :
    zV X d 47 10 [(0, .inr 3), (1, .inl v1), (2, .inl v2)] [.inl s1, .inr 3] μ (zpi P) :=
  (zm_run [(10, 11, 1, 2, 0, 0, [])] _ _ _ _ [] 11 [(0, .inr 3), (1, .inl v1), (2, .inl v2)] [.inl v2, .inl s1, .inr 3] μ (by decide +kernel) rfl rfl (by obtain ⟨G, he, hk⟩ := h0; exact zm_callV (as := [.inr 3, .inl s1, .inl v2]) (rest := []) (P := zpi G) (nx := 14) (a := 46) (b := 3) (k := 3) (sw := []) (zq_of (by decide +kernel)) rfl rfl rfl he (fun _ μ1 hp => by obtain ⟨v, rfl, hp⟩ := hp; exact (zm_V_pick [0, 1, 2] rfl (hk v μ1 hp)))))

theorem k47_14 {X : zm_T} {d : Nat} {s0 v1 v2 : Int32} {μ : zm_u} {P : Int32 → zm_u → Prop}
    (h0 : s0 = 0 → P (0 : Int32) μ)
    (h1 : ¬ (s0 = 0) → ∃ G : Int32 → zm_u → Prop, zI X d 34 [.inr 2, .inl v1, .inl (1 : Int32)] μ G ∧ ∀ (r : Int32) (μ1 : zm_u), G r μ1 → zV X d 47 27 [(2, .inl v2)] [.inl r, .inr 3] μ1 (zpi P)) :
    zV X d 47 14 [(0, .inr 3), (1, .inl v1), (2, .inl v2)] [.inl s0] μ (zpi P) :=
  (zm_if (nx := 17) (a := 38) (b := 0) (k := 0) (sw := []) (zq_of (by decide +kernel)) (fun z1 => (zm_run [(38, 39, 0, 0, 0, 0, [])] _ _ _ _ [] 39 [(0, .inr 3), (1, .inl v1), (2, .inl v2)] [.inl (0 : Int32)] μ (by decide +kernel) rfl rfl (zm_zret (nx := 40) (a := 0) (b := 0) (k := 0) (sw := []) (zq_of (by decide +kernel)) (Or.inl rfl) ⟨_, rfl, (h0 (of_decide_eq_true z1))⟩))) (fun z1 => (zm_run [(17, 18, 27, 0, 0, 0, []), (18, 19, 27, 0, 0, 0, []), (19, 22, 4, 1, 3, 0, []), (22, 23, 1, 1, 0, 0, []), (23, 24, 0, 0, 0, 1, [])] _ _ _ _ [] 24 [(0, .inr 3), (1, .inl v1), (2, .inl v2)] [.inl (1 : Int32), .inl v1, .inr 2, .inr 3] μ (by decide +kernel) rfl rfl (by obtain ⟨G, he, hk⟩ := (h1 (of_decide_eq_false z1)); exact zm_callV (as := [.inr 2, .inl v1, .inl (1 : Int32)]) (rest := [.inr 3]) (P := zpi G) (nx := 27) (a := 34) (b := 3) (k := 2) (sw := []) (zq_of (by decide +kernel)) rfl rfl rfl he (fun _ μ1 hp => by obtain ⟨v, rfl, hp⟩ := hp; exact (zm_V_pick [2] rfl (hk v μ1 hp)))))))

theorem k47_27 {X : zm_T} {d : Nat} {s1 v2 : Int32} {μ : zm_u} {P : Int32 → zm_u → Prop}
    (h0 : ∃ G : Int32 → zm_u → Prop, zI X d 46 [.inr 3, .inl s1, .inl v2] μ G ∧ ∀ (r : Int32) (μ1 : zm_u), G r μ1 → zV X d 47 31 [] [.inl r] μ1 (zpi P)) :
    zV X d 47 27 [(2, .inl v2)] [.inl s1, .inr 3] μ (zpi P) :=
  (zm_run [(27, 28, 1, 2, 0, 0, [])] _ _ _ _ [] 28 [(2, .inl v2)] [.inl v2, .inl s1, .inr 3] μ (by decide +kernel) rfl rfl (by obtain ⟨G, he, hk⟩ := h0; exact zm_callV (as := [.inr 3, .inl s1, .inl v2]) (rest := []) (P := zpi G) (nx := 31) (a := 46) (b := 3) (k := 3) (sw := []) (zq_of (by decide +kernel)) rfl rfl rfl he (fun _ μ1 hp => by obtain ⟨v, rfl, hp⟩ := hp; exact (zm_V_pick [] rfl (hk v μ1 hp)))))

theorem k47_31 {X : zm_T} {d : Nat} {s0 : Int32} {μ : zm_u} {P : Int32 → zm_u → Prop}
    (h0 : s0 = 0 → P (0 : Int32) μ)
    (h1 : ¬ (s0 = 0) → P (1 : Int32) μ) :
    zV X d 47 31 [] [.inl s0] μ (zpi P) :=
  (zm_if (nx := 34) (a := 38) (b := 0) (k := 0) (sw := []) (zq_of (by decide +kernel)) (fun z1 => (zm_run [(38, 39, 0, 0, 0, 0, [])] _ _ _ _ [] 39 [] [.inl (0 : Int32)] μ (by decide +kernel) rfl rfl (zm_zret (nx := 40) (a := 0) (b := 0) (k := 0) (sw := []) (zq_of (by decide +kernel)) (Or.inl rfl) ⟨_, rfl, (h0 (of_decide_eq_true z1))⟩))) (fun z1 => (zm_run [(34, 35, 0, 0, 0, 1, []), (35, 38, 19, 39, 0, 0, [])] _ _ _ _ [] 39 [] [.inl (1 : Int32)] μ (by decide +kernel) rfl rfl (zm_zret (nx := 40) (a := 0) (b := 0) (k := 0) (sw := []) (zq_of (by decide +kernel)) (Or.inr rfl) ⟨_, rfl, (h1 (of_decide_eq_false z1))⟩))))

theorem k48_0 {X : zm_T} {d : Nat} {v1 v2 : Int32} {μ : zm_u} {P : Int32 → zm_u → Prop}
    (h0 : ∃ G : Int32 → zm_u → Prop, zI X d 54 [.inr 3, .inl v1, .inl (0 : Int32)] μ G ∧ ∀ (r : Int32) (μ1 : zm_u), G r μ1 → zV X d 48 7 [(0, .inr 3), (1, .inl v1), (2, .inl v2)] [.inl r, .inr 3] μ1 (zpi P)) :
    zV X d 48 0 [(0, .inr 3), (1, .inl v1), (2, .inl v2)] [] μ (zpi P) :=
  (zm_run [(0, 1, 27, 0, 0, 0, []), (1, 2, 27, 0, 0, 0, []), (2, 3, 1, 1, 0, 0, []), (3, 4, 0, 0, 0, 0, [])] _ _ _ _ [] 4 [(0, .inr 3), (1, .inl v1), (2, .inl v2)] [.inl (0 : Int32), .inl v1, .inr 3, .inr 3] μ (by decide +kernel) rfl rfl (by obtain ⟨G, he, hk⟩ := h0; exact zm_callV (as := [.inr 3, .inl v1, .inl (0 : Int32)]) (rest := [.inr 3]) (P := zpi G) (nx := 7) (a := 54) (b := 3) (k := 3) (sw := []) (zq_of (by decide +kernel)) rfl rfl rfl he (fun _ μ1 hp => by obtain ⟨v, rfl, hp⟩ := hp; exact (zm_V_pick [0, 1, 2] rfl (hk v μ1 hp)))))

theorem k48_7 {X : zm_T} {d : Nat} {s1 v1 v2 : Int32} {μ : zm_u} {P : Int32 → zm_u → Prop}
    (h0 : ∃ G : Int32 → zm_u → Prop, zI X d 58 [.inr 3, .inl s1] μ G ∧ ∀ (r : Int32) (μ1 : zm_u), G r μ1 → zV X d 48 10 [(0, .inr 3), (1, .inl v1), (2, .inl v2)] [.inl r] μ1 (zpi P)) :
    zV X d 48 7 [(0, .inr 3), (1, .inl v1), (2, .inl v2)] [.inl s1, .inr 3] μ (zpi P) :=
  (by obtain ⟨G, he, hk⟩ := h0; exact zm_callV (as := [.inr 3, .inl s1]) (rest := []) (P := zpi G) (nx := 10) (a := 58) (b := 2) (k := 3) (sw := []) (zq_of (by decide +kernel)) rfl rfl rfl he (fun _ μ1 hp => by obtain ⟨v, rfl, hp⟩ := hp; exact (zm_V_pick [0, 1, 2] rfl (hk v μ1 hp))))

theorem k48_10 {X : zm_T} {d : Nat} {s0 v1 v2 : Int32} {μ : zm_u} {P : Int32 → zm_u → Prop}
    (h0 : ¬ s0 = (-1 : Int32) → zV X d 48 22 [(0, .inr 3), (1, .inl v1), (2, .inl v2), (3, .inl s0), (4, .inl (11 : Int32))] [] μ (zpi P))
    (h1 : s0 = (-1 : Int32) → P (0 : Int32) μ) :
    zV X d 48 10 [(0, .inr 3), (1, .inl v1), (2, .inl v2)] [.inl s0] μ (zpi P) :=
  (zm_run [(10, 11, 2, 3, 0, 0, []), (11, 12, 1, 3, 0, 0, []), (12, 13, 0, 0, 0, (-1), [])] _ _ _ _ [] 13 [(0, .inr 3), (1, .inl v1), (2, .inl v2), (3, .inl s0)] [.inl (-1 : Int32), .inl s0] μ (by decide +kernel) rfl rfl (zm_icmp (nx := 16) (a := 18) (b := 1) (k := 0) (sw := []) (zq_of (by decide +kernel)) (fun z1 => (zm_run [(18, 20, 0, 0, 0, 11, []), (20, 22, 2, 4, 0, 0, [])] _ _ _ _ [] 22 [(0, .inr 3), (1, .inl v1), (2, .inl v2), (3, .inl s0), (4, .inl (11 : Int32))] [] μ (by decide +kernel) rfl rfl (zm_V_pick [0, 1, 2, 3, 4] rfl (h0 (of_decide_eq_true z1))))) (fun z1 => (zm_run [(16, 17, 0, 0, 0, 0, [])] _ _ _ _ [] 17 [(0, .inr 3), (1, .inl v1), (2, .inl v2), (3, .inl s0)] [.inl (0 : Int32)] μ (by decide +kernel) rfl rfl (zm_zret (nx := 18) (a := 0) (b := 0) (k := 0) (sw := []) (zq_of (by decide +kernel)) (Or.inl rfl) ⟨_, rfl, (h1 (Classical.byContradiction fun w => (of_decide_eq_false z1) w))⟩)))))

theorem k48_22 {X : zm_T} {d : Nat} {v1 v2 v3 v4 : Int32} {μ : zm_u} {P : Int32 → zm_u → Prop}
    (h0 : (16 : Int32) < v4 → P (1 : Int32) μ)
    (h1 : ¬ ((16 : Int32) < v4) → ∃ G : Int32 → zm_u → Prop, zI X d 35 [.inr 2, .inl v1, .inl v4] μ G ∧ ∀ (r : Int32) (μ1 : zm_u), G r μ1 → zV X d 48 42 [(0, .inr 3), (1, .inl v1), (2, .inl v2), (3, .inl v3), (4, .inl v4)] [.inl r, .inl v4, .inr 3] μ1 (zpi P)) :
    zV X d 48 22 [(0, .inr 3), (1, .inl v1), (2, .inl v2), (3, .inl v3), (4, .inl v4)] [] μ (zpi P) :=
  (zm_run [(22, 24, 1, 4, 0, 0, []), (24, 26, 0, 0, 0, 16, [])] _ _ _ _ [] 26 [(0, .inr 3), (1, .inl v1), (2, .inl v2), (3, .inl v3), (4, .inl v4)] [.inl (16 : Int32), .inl v4] μ (by decide +kernel) rfl rfl (zm_icmp (nx := 29) (a := 62) (b := 4) (k := 0) (sw := []) (zq_of (by decide +kernel)) (fun z1 => (zm_run [(62, 63, 0, 0, 0, 1, [])] _ _ _ _ [] 63 [(0, .inr 3), (1, .inl v1), (2, .inl v2), (3, .inl v3), (4, .inl v4)] [.inl (1 : Int32)] μ (by decide +kernel) rfl rfl (zm_zret (nx := 64) (a := 0) (b := 0) (k := 0) (sw := []) (zq_of (by decide +kernel)) (Or.inr rfl) ⟨_, rfl, (h0 (of_decide_eq_true z1))⟩))) (fun z1 => (zm_run [(29, 30, 27, 0, 0, 0, []), (30, 32, 1, 4, 0, 0, []), (32, 33, 27, 0, 0, 0, []), (33, 36, 4, 1, 3, 0, []), (36, 37, 1, 1, 0, 0, []), (37, 39, 1, 4, 0, 0, [])] _ _ _ _ [] 39 [(0, .inr 3), (1, .inl v1), (2, .inl v2), (3, .inl v3), (4, .inl v4)] [.inl v4, .inl v1, .inr 2, .inl v4, .inr 3] μ (by decide +kernel) rfl rfl (by obtain ⟨G, he, hk⟩ := (h1 (of_decide_eq_false z1)); exact zm_callV (as := [.inr 2, .inl v1, .inl v4]) (rest := [.inl v4, .inr 3]) (P := zpi G) (nx := 42) (a := 35) (b := 3) (k := 2) (sw := []) (zq_of (by decide +kernel)) rfl rfl rfl he (fun _ μ1 hp => by obtain ⟨v, rfl, hp⟩ := hp; exact (zm_V_pick [0, 1, 2, 3, 4] rfl (hk v μ1 hp))))))))

theorem k48_42 {X : zm_T} {d : Nat} {s1 s2 v1 v2 v3 v4 : Int32} {μ : zm_u} {P : Int32 → zm_u → Prop}
    (h0 : ∃ G : Int32 → zm_u → Prop, zI X d 61 [.inr 3, .inl v3] μ G ∧ ∀ (r : Int32) (μ1 : zm_u), G r μ1 → zV X d 48 47 [(0, .inr 3), (1, .inl v1), (2, .inl v2), (3, .inl v3), (4, .inl v4)] [.inl r, .inl s2, .inl s1, .inr 3] μ1 (zpi P)) :
    zV X d 48 42 [(0, .inr 3), (1, .inl v1), (2, .inl v2), (3, .inl v3), (4, .inl v4)] [.inl s2, .inl s1, .inr 3] μ (zpi P) :=
  (zm_run [(42, 43, 27, 0, 0, 0, []), (43, 44, 1, 3, 0, 0, [])] _ _ _ _ [] 44 [(0, .inr 3), (1, .inl v1), (2, .inl v2), (3, .inl v3), (4, .inl v4)] [.inl v3, .inr 3, .inl s2, .inl s1, .inr 3] μ (by decide +kernel) rfl rfl (by obtain ⟨G, he, hk⟩ := h0; exact zm_callV (as := [.inr 3, .inl v3]) (rest := [.inl s2, .inl s1, .inr 3]) (P := zpi G) (nx := 47) (a := 61) (b := 2) (k := 3) (sw := []) (zq_of (by decide +kernel)) rfl rfl rfl he (fun _ μ1 hp => by obtain ⟨v, rfl, hp⟩ := hp; exact (zm_V_pick [0, 1, 2, 3, 4] rfl (hk v μ1 hp)))))

theorem k48_47 {X : zm_T} {d : Nat} {s1 s2 s3 v1 v2 v3 v4 : Int32} {μ : zm_u} {P : Int32 → zm_u → Prop}
    (h0 : ∃ G : Int32 → zm_u → Prop, zI X d 49 [.inr 3, .inl s1, .inl s2, .inl s3, .inl v2] μ G ∧ ∀ (r : Int32) (μ1 : zm_u), G r μ1 → zV X d 48 51 [(0, .inr 3), (1, .inl v1), (2, .inl v2), (3, .inl v3), (4, .inl v4)] [.inl r] μ1 (zpi P)) :
    zV X d 48 47 [(0, .inr 3), (1, .inl v1), (2, .inl v2), (3, .inl v3), (4, .inl v4)] [.inl s3, .inl s2, .inl s1, .inr 3] μ (zpi P) :=
  (zm_run [(47, 48, 1, 2, 0, 0, [])] _ _ _ _ [] 48 [(0, .inr 3), (1, .inl v1), (2, .inl v2), (3, .inl v3), (4, .inl v4)] [.inl v2, .inl s3, .inl s2, .inl s1, .inr 3] μ (by decide +kernel) rfl rfl (by obtain ⟨G, he, hk⟩ := h0; exact zm_callV (as := [.inr 3, .inl s1, .inl s2, .inl s3, .inl v2]) (rest := []) (P := zpi G) (nx := 51) (a := 49) (b := 5) (k := 3) (sw := []) (zq_of (by decide +kernel)) rfl rfl rfl he (fun _ μ1 hp => by obtain ⟨v, rfl, hp⟩ := hp; exact (zm_V_pick [0, 1, 2, 3, 4] rfl (hk v μ1 hp)))))

theorem k48_51 {X : zm_T} {d : Nat} {s0 v1 v2 v3 v4 : Int32} {μ : zm_u} {P : Int32 → zm_u → Prop}
    (h0 : ¬ s0 = 0 → zV X d 48 22 [(0, .inr 3), (1, .inl v1), (2, .inl v2), (3, .inl v3), (4, .inl (v4 + 1))] [] μ (zpi P))
    (h1 : s0 = 0 → P (0 : Int32) μ) :
    zV X d 48 51 [(0, .inr 3), (1, .inl v1), (2, .inl v2), (3, .inl v3), (4, .inl v4)] [.inl s0] μ (zpi P) :=
  (zm_if (nx := 54) (a := 56) (b := 1) (k := 0) (sw := []) (zq_of (by decide +kernel)) (fun z1 => (zm_run [(56, 59, 3, 4, 0, 1, []), (59, 62, 19, 22, 0, 0, [])] _ _ _ _ [] 22 [(0, .inr 3), (1, .inl v1), (2, .inl v2), (3, .inl v3), (4, .inl (v4 + 1))] [] μ (by decide +kernel) rfl rfl (zm_V_pick [0, 1, 2, 3, 4] rfl (h0 (of_decide_eq_true z1))))) (fun z1 => (zm_run [(54, 55, 0, 0, 0, 0, [])] _ _ _ _ [] 55 [(0, .inr 3), (1, .inl v1), (2, .inl v2), (3, .inl v3), (4, .inl v4)] [.inl (0 : Int32)] μ (by decide +kernel) rfl rfl (zm_zret (nx := 56) (a := 0) (b := 0) (k := 0) (sw := []) (zq_of (by decide +kernel)) (Or.inl rfl) ⟨_, rfl, (h1 (Classical.byContradiction fun w => (of_decide_eq_false z1) w))⟩))))

theorem k49_0 {X : zm_T} {d : Nat} {v1 v2 v3 v4 : Int32} {μ : zm_u} {P : Int32 → zm_u → Prop}
    (h0 : ∃ G : Int32 → zm_u → Prop, zI X d 50 [.inr 3, .inl v1, .inl v3] μ G ∧ ∀ (r : Int32) (μ1 : zm_u), G r μ1 → zV X d 49 6 [(0, .inr 3), (1, .inl v1), (2, .inl v2), (3, .inl v3), (4, .inl v4)] [.inl r] μ1 (zpi P)) :
    zV X d 49 0 [(0, .inr 3), (1, .inl v1), (2, .inl v2), (3, .inl v3), (4, .inl v4)] [] μ (zpi P) :=
  (zm_run [(0, 1, 27, 0, 0, 0, []), (1, 2, 1, 1, 0, 0, []), (2, 3, 1, 3, 0, 0, [])] _ _ _ _ [] 3 [(0, .inr 3), (1, .inl v1), (2, .inl v2), (3, .inl v3), (4, .inl v4)] [.inl v3, .inl v1, .inr 3] μ (by decide +kernel) rfl rfl (by obtain ⟨G, he, hk⟩ := h0; exact zm_callV (as := [.inr 3, .inl v1, .inl v3]) (rest := []) (P := zpi G) (nx := 6) (a := 50) (b := 3) (k := 3) (sw := []) (zq_of (by decide +kernel)) rfl rfl rfl he (fun _ μ1 hp => by obtain ⟨v, rfl, hp⟩ := hp; exact (zm_V_pick [0, 1, 2, 3, 4] rfl (hk v μ1 hp)))))

theorem k49_6 {X : zm_T} {d : Nat} {s0 v1 v2 v3 v4 : Int32} {μ : zm_u} {P : Int32 → zm_u → Prop}
    (h0 : ∃ G : Int32 → zm_u → Prop, zI X d 16 [.inr 1, .inl v3] μ G ∧ ∀ (r : Int32) (μ1 : zm_u), G r μ1 → zV X d 49 16 [(0, .inr 3), (1, .inl v1), (2, .inl v2), (3, .inl v3), (4, .inl v4), (5, .inl s0)] [.inl r] μ1 (zpi P)) :
    zV X d 49 6 [(0, .inr 3), (1, .inl v1), (2, .inl v2), (3, .inl v3), (4, .inl v4)] [.inl s0] μ (zpi P) :=
  (zm_run [(6, 8, 2, 5, 0, 0, []), (8, 9, 27, 0, 0, 0, []), (9, 12, 4, 0, 3, 0, []), (12, 13, 1, 3, 0, 0, [])] _ _ _ _ [] 13 [(0, .inr 3), (1, .inl v1), (2, .inl v2), (3, .inl v3), (4, .inl v4), (5, .inl s0)] [.inl v3, .inr 1] μ (by decide +kernel) rfl rfl (by obtain ⟨G, he, hk⟩ := h0; exact zm_callV (as := [.inr 1, .inl v3]) (rest := []) (P := zpi G) (nx := 16) (a := 16) (b := 2) (k := 1) (sw := []) (zq_of (by decide +kernel)) rfl rfl rfl he (fun _ μ1 hp => by obtain ⟨v, rfl, hp⟩ := hp; exact (zm_V_pick [0, 1, 2, 3, 4, 5] rfl (hk v μ1 hp)))))

theorem k49_16 {X : zm_T} {d : Nat} {s0 v1 v2 v3 v4 v5 : Int32} {μ : zm_u} {P : Int32 → zm_u → Prop}
    (h0 : ¬ s0 = (2 : Int32) → zV X d 49 25 [(0, .inr 3), (1, .inl v1), (2, .inl v2), (3, .inl v3), (4, .inl v4), (5, .inl v5)] [.inl (0 : Int32)] μ (zpi P))
    (h1 : s0 = (2 : Int32) → zV X d 49 25 [(0, .inr 3), (1, .inl v1), (2, .inl v2), (3, .inl v3), (4, .inl v4), (5, .inl v5)] [.inl (1 : Int32)] μ (zpi P)) :
    zV X d 49 16 [(0, .inr 3), (1, .inl v1), (2, .inl v2), (3, .inl v3), (4, .inl v4), (5, .inl v5)] [.inl s0] μ (zpi P) :=
  (zm_run [(16, 17, 0, 0, 0, 2, [])] _ _ _ _ [] 17 [(0, .inr 3), (1, .inl v1), (2, .inl v2), (3, .inl v3), (4, .inl v4), (5, .inl v5)] [.inl (2 : Int32), .inl s0] μ (by decide +kernel) rfl rfl (zm_icmp (nx := 20) (a := 24) (b := 1) (k := 0) (sw := []) (zq_of (by decide +kernel)) (fun z1 => (zm_run [(24, 25, 0, 0, 0, 0, [])] _ _ _ _ [] 25 [(0, .inr 3), (1, .inl v1), (2, .inl v2), (3, .inl v3), (4, .inl v4), (5, .inl v5)] [.inl (0 : Int32)] μ (by decide +kernel) rfl rfl (zm_V_pick [0, 1, 2, 3, 4, 5] rfl (h0 (of_decide_eq_true z1))))) (fun z1 => (zm_run [(20, 21, 0, 0, 0, 1, []), (21, 24, 19, 25, 0, 0, [])] _ _ _ _ [] 25 [(0, .inr 3), (1, .inl v1), (2, .inl v2), (3, .inl v3), (4, .inl v4), (5, .inl v5)] [.inl (1 : Int32)] μ (by decide +kernel) rfl rfl (zm_V_pick [0, 1, 2, 3, 4, 5] rfl (h1 (Classical.byContradiction fun w => (of_decide_eq_false z1) w)))))))

theorem k49_25 {X : zm_T} {d : Nat} {s0 v1 v2 v3 v4 v5 : Int32} {μ : zm_u} {P : Int32 → zm_u → Prop}
    (h0 : ¬ s0 = 0 → zV X d 49 54 [(0, .inr 3), (1, .inl v1), (2, .inl v2), (3, .inl v3), (4, .inl v4), (5, .inl v5), (6, .inl s0)] [] μ (zpi P))
    (h1 : s0 = 0 → ∃ G : Int32 → zm_u → Prop, zI X d 16 [.inr 1, .inl v3] μ G ∧ ∀ (r : Int32) (μ1 : zm_u), G r μ1 → zV X d 49 40 [(0, .inr 3), (1, .inl v1), (2, .inl v2), (3, .inl v3), (4, .inl v4), (5, .inl v5), (6, .inl s0)] [.inl r] μ1 (zpi P)) :
    zV X d 49 25 [(0, .inr 3), (1, .inl v1), (2, .inl v2), (3, .inl v3), (4, .inl v4), (5, .inl v5)] [.inl s0] μ (zpi P) :=
  (zm_run [(25, 27, 2, 6, 0, 0, []), (27, 29, 1, 6, 0, 0, [])] _ _ _ _ [] 29 [(0, .inr 3), (1, .inl v1), (2, .inl v2), (3, .inl v3), (4, .inl v4), (5, .inl v5), (6, .inl s0)] [.inl s0] μ (by decide +kernel) rfl rfl (zm_if (nx := 32) (a := 54) (b := 1) (k := 0) (sw := []) (zq_of (by decide +kernel)) (fun z1 => (zm_V_pick [0, 1, 2, 3, 4, 5, 6] rfl (h0 (of_decide_eq_true z1)))) (fun z1 => (zm_run [(32, 33, 27, 0, 0, 0, []), (33, 36, 4, 0, 3, 0, []), (36, 37, 1, 3, 0, 0, [])] _ _ _ _ [] 37 [(0, .inr 3), (1, .inl v1), (2, .inl v2), (3, .inl v3), (4, .inl v4), (5, .inl v5), (6, .inl s0)] [.inl v3, .inr 1] μ (by decide +kernel) rfl rfl (by obtain ⟨G, he, hk⟩ := (h1 (Classical.byContradiction fun w => (of_decide_eq_false z1) w)); exact zm_callV (as := [.inr 1, .inl v3]) (rest := []) (P := zpi G) (nx := 40) (a := 16) (b := 2) (k := 1) (sw := []) (zq_of (by decide +kernel)) rfl rfl rfl he (fun _ μ1 hp => by obtain ⟨v, rfl, hp⟩ := hp; exact (zm_V_pick [0, 1, 2, 3, 4, 5, 6] rfl (hk v μ1 hp))))))))

theorem k49_54 {X : zm_T} {d : Nat} {v1 v2 v3 v4 v5 v6 : Int32} {μ : zm_u} {P : Int32 → zm_u → Prop}
    (h0 : v2 = (-1 : Int32) → P (0 : Int32) μ)
    (h1 : ¬ (v2 = (-1 : Int32)) → ¬ v5 = (-1 : Int32) → ∃ G : zm_u → Prop, zO X d 51 [.inr 3, .inl v1, .inl v3, .inl v5] μ G ∧ ∀ μ1 : zm_u, G μ1 → zV X d 49 81 [(0, .inr 3), (2, .inl v2), (3, .inl v3), (4, .inl v4), (5, .inl v5), (6, .inl v6), (7, .inl (μ 3 4))] [] μ1 (zpi P))
    (h2 : ¬ (v2 = (-1 : Int32)) → v5 = (-1 : Int32) → P (0 : Int32) μ) :
    zV X d 49 54 [(0, .inr 3), (1, .inl v1), (2, .inl v2), (3, .inl v3), (4, .inl v4), (5, .inl v5), (6, .inl v6)] [] μ (zpi P) :=
  (zm_run [(54, 55, 1, 2, 0, 0, []), (55, 56, 0, 0, 0, (-1), [])] _ _ _ _ [] 56 [(0, .inr 3), (1, .inl v1), (2, .inl v2), (3, .inl v3), (4, .inl v4), (5, .inl v5), (6, .inl v6)] [.inl (-1 : Int32), .inl v2] μ (by decide +kernel) rfl rfl (zm_icmp (nx := 59) (a := 65) (b := 0) (k := 0) (sw := []) (zq_of (by decide +kernel)) (fun z1 => (zm_run [(65, 66, 0, 0, 0, 0, [])] _ _ _ _ [] 66 [(0, .inr 3), (1, .inl v1), (2, .inl v2), (3, .inl v3), (4, .inl v4), (5, .inl v5), (6, .inl v6)] [.inl (0 : Int32)] μ (by decide +kernel) rfl rfl (zm_zret (nx := 67) (a := 0) (b := 0) (k := 0) (sw := []) (zq_of (by decide +kernel)) (Or.inl rfl) ⟨_, rfl, (h0 (of_decide_eq_true z1))⟩))) (fun z1 => (zm_run [(59, 61, 1, 5, 0, 0, []), (61, 62, 0, 0, 0, (-1), [])] _ _ _ _ [] 62 [(0, .inr 3), (1, .inl v1), (2, .inl v2), (3, .inl v3), (4, .inl v4), (5, .inl v5), (6, .inl v6)] [.inl (-1 : Int32), .inl v5] μ (by decide +kernel) rfl rfl (zm_icmp (nx := 65) (a := 67) (b := 1) (k := 0) (sw := []) (zq_of (by decide +kernel)) (fun z2 => (zm_run [(67, 68, 27, 0, 0, 0, []), (68, 71, 4, 4, 3, 0, []), (71, 73, 2, 7, 0, 0, []), (73, 74, 27, 0, 0, 0, []), (74, 75, 1, 1, 0, 0, []), (75, 76, 1, 3, 0, 0, []), (76, 78, 1, 5, 0, 0, [])] _ _ _ _ [] 78 [(0, .inr 3), (1, .inl v1), (2, .inl v2), (3, .inl v3), (4, .inl v4), (5, .inl v5), (6, .inl v6), (7, .inl (μ 3 4))] [.inl v5, .inl v3, .inl v1, .inr 3] μ (by decide +kernel) rfl rfl (by obtain ⟨G, he, hk⟩ := (h1 (of_decide_eq_false z1) (of_decide_eq_true z2)); exact zm_callV (as := [.inr 3, .inl v1, .inl v3, .inl v5]) (rest := []) (P := zpo G) (nx := 81) (a := 51) (b := 4) (k := 3) (sw := []) (zq_of (by decide +kernel)) rfl rfl rfl he (fun _ μ1 hp => by obtain ⟨rfl, hp⟩ := hp; exact (zm_V_pick [0, 2, 3, 4, 5, 6, 7] rfl (hk μ1 hp)))))) (fun z2 => (zm_run [(65, 66, 0, 0, 0, 0, [])] _ _ _ _ [] 66 [(0, .inr 3), (1, .inl v1), (2, .inl v2), (3, .inl v3), (4, .inl v4), (5, .inl v5), (6, .inl v6)] [.inl (0 : Int32)] μ (by decide +kernel) rfl rfl (zm_zret (nx := 67) (a := 0) (b := 0) (k := 0) (sw := []) (zq_of (by decide +kernel)) (Or.inl rfl) ⟨_, rfl, (h2 (of_decide_eq_false z1) (Classical.byContradiction fun w => (of_decide_eq_false z2) w))⟩))))))))

theorem k49_40 {X : zm_T} {d : Nat} {s0 v1 v2 v3 v4 v5 v6 : Int32} {μ : zm_u} {P : Int32 → zm_u → Prop}
    (h0 : ∃ G : Int32 → zm_u → Prop, zI X d 16 [.inr 1, .inl v5] μ G ∧ ∀ (r : Int32) (μ1 : zm_u), G r μ1 → zV X d 49 49 [(0, .inr 3), (1, .inl v1), (2, .inl v2), (3, .inl v3), (4, .inl v4), (5, .inl v5), (6, .inl v6)] [.inl r, .inl s0] μ1 (zpi P)) :
    zV X d 49 40 [(0, .inr 3), (1, .inl v1), (2, .inl v2), (3, .inl v3), (4, .inl v4), (5, .inl v5), (6, .inl v6)] [.inl s0] μ (zpi P) :=
  (zm_run [(40, 41, 27, 0, 0, 0, []), (41, 44, 4, 0, 3, 0, []), (44, 46, 1, 5, 0, 0, [])] _ _ _ _ [] 46 [(0, .inr 3), (1, .inl v1), (2, .inl v2), (3, .inl v3), (4, .inl v4), (5, .inl v5), (6, .inl v6)] [.inl v5, .inr 1, .inl s0] μ (by decide +kernel) rfl rfl (by obtain ⟨G, he, hk⟩ := h0; exact zm_callV (as := [.inr 1, .inl v5]) (rest := [.inl s0]) (P := zpi G) (nx := 49) (a := 16) (b := 2) (k := 1) (sw := []) (zq_of (by decide +kernel)) rfl rfl rfl he (fun _ μ1 hp => by obtain ⟨v, rfl, hp⟩ := hp; exact (zm_V_pick [0, 1, 2, 3, 4, 5, 6] rfl (hk v μ1 hp)))))

theorem k49_81 {X : zm_T} {d : Nat} {v2 v3 v4 v5 v6 v7 : Int32} {μ : zm_u} {P : Int32 → zm_u → Prop}
    (h0 : v6 = 0 → zV X d 49 100 [(0, .inr 3), (2, .inl v2), (3, .inl v3), (4, .inl v4), (7, .inl v7)] [] μ (zpi P))
    (h1 : ¬ (v6 = 0) → v5 = v3 → zV X d 49 100 [(0, .inr 3), (2, .inl v2), (3, .inl v3), (4, .inl v4), (7, .inl v7)] [] μ (zpi P))
    (h2 : ¬ (v6 = 0) → ¬ (v5 = v3) → 0 ≤ (v3).toInt ∧ (v3).toInt < ((466 : Nat) : Int))
    (h3 : ¬ (v6 = 0) → ¬ (v5 = v3) → zV X d 49 100 [(0, .inr 3), (2, .inl v2), (3, .inl v3), (4, .inl v4), (7, .inl v7)] [] (zm_up μ 13 (v3).toNatClampNeg v5) (zpi P)) :
    zV X d 49 81 [(0, .inr 3), (2, .inl v2), (3, .inl v3), (4, .inl v4), (5, .inl v5), (6, .inl v6), (7, .inl v7)] [] μ (zpi P) :=
  (zm_run [(81, 83, 1, 6, 0, 0, [])] _ _ _ _ [] 83 [(0, .inr 3), (2, .inl v2), (3, .inl v3), (4, .inl v4), (5, .inl v5), (6, .inl v6), (7, .inl v7)] [.inl v6] μ (by decide +kernel) rfl rfl (zm_if (nx := 86) (a := 100) (b := 0) (k := 0) (sw := []) (zq_of (by decide +kernel)) (fun z1 => (zm_V_pick [0, 2, 3, 4, 7] rfl (h0 (of_decide_eq_true z1)))) (fun z1 => (zm_run [(86, 88, 1, 5, 0, 0, []), (88, 89, 1, 3, 0, 0, [])] _ _ _ _ [] 89 [(0, .inr 3), (2, .inl v2), (3, .inl v3), (4, .inl v4), (5, .inl v5), (6, .inl v6), (7, .inl v7)] [.inl v3, .inl v5] μ (by decide +kernel) rfl rfl (zm_icmp (nx := 92) (a := 100) (b := 0) (k := 0) (sw := []) (zq_of (by decide +kernel)) (fun z2 => (zm_V_pick [0, 2, 3, 4, 7] rfl (h1 (of_decide_eq_false z1) (of_decide_eq_true z2)))) (fun z2 => (zm_run [(92, 93, 27, 0, 0, 0, []), (93, 96, 4, 2, 3, 0, []), (96, 97, 1, 3, 0, 0, []), (97, 99, 1, 5, 0, 0, []), (99, 100, 7, 0, 0, 0, [])] _ _ _ _ [decide (0 ≤ (v3).toInt ∧ (v3).toInt < ((466 : Nat) : Int))] 100 [(0, .inr 3), (2, .inl v2), (3, .inl v3), (4, .inl v4), (5, .inl v5), (6, .inl v6), (7, .inl v7)] [] (zm_up μ 13 (v3).toNatClampNeg v5) (by decide +kernel) rfl (zm_bc (h2 (of_decide_eq_false z1) (of_decide_eq_false z2)) rfl) (zm_V_pick [0, 2, 3, 4, 7] rfl (h3 (of_decide_eq_false z1) (of_decide_eq_false z2))))))))))

theorem k49_49 {X : zm_T} {d : Nat} {s0 s1 v1 v2 v3 v4 v5 v6 : Int32} {μ : zm_u} {P : Int32 → zm_u → Prop}
    (h0 : s0 = s1 → zV X d 49 54 [(0, .inr 3), (1, .inl v1), (2, .inl v2), (3, .inl v3), (4, .inl v4), (5, .inl v5), (6, .inl v6)] [] μ (zpi P))
    (h1 : ¬ (s0 = s1) → P (1 : Int32) μ) :
    zV X d 49 49 [(0, .inr 3), (1, .inl v1), (2, .inl v2), (3, .inl v3), (4, .inl v4), (5, .inl v5), (6, .inl v6)] [.inl s1, .inl s0] μ (zpi P) :=
  (zm_icmp (nx := 52) (a := 54) (b := 0) (k := 0) (sw := []) (zq_of (by decide +kernel)) (fun z1 => (zm_V_pick [0, 1, 2, 3, 4, 5, 6] rfl (h0 (of_decide_eq_true z1)))) (fun z1 => (zm_run [(52, 53, 0, 0, 0, 1, [])] _ _ _ _ [] 53 [(0, .inr 3), (1, .inl v1), (2, .inl v2), (3, .inl v3), (4, .inl v4), (5, .inl v5), (6, .inl v6)] [.inl (1 : Int32)] μ (by decide +kernel) rfl rfl (zm_zret (nx := 54) (a := 0) (b := 0) (k := 0) (sw := []) (zq_of (by decide +kernel)) (Or.inr rfl) ⟨_, rfl, (h1 (of_decide_eq_false z1))⟩))))

theorem k49_100 {X : zm_T} {d : Nat} {v2 v3 v4 v7 : Int32} {μ : zm_u} {P : Int32 → zm_u → Prop}
    (h0 : ∃ G : Int32 → zm_u → Prop, zI X d 46 [.inr 3, .inl v2, .inl v4] μ G ∧ ∀ (r : Int32) (μ1 : zm_u), G r μ1 → zV X d 49 107 [(0, .inr 3), (3, .inl v3), (7, .inl v7)] [.inl r] μ1 (zpi P)) :
    zV X d 49 100 [(0, .inr 3), (2, .inl v2), (3, .inl v3), (4, .inl v4), (7, .inl v7)] [] μ (zpi P) :=
  (zm_run [(100, 101, 27, 0, 0, 0, []), (101, 102, 1, 2, 0, 0, []), (102, 104, 1, 4, 0, 0, [])] _ _ _ _ [] 104 [(0, .inr 3), (2, .inl v2), (3, .inl v3), (4, .inl v4), (7, .inl v7)] [.inl v4, .inl v2, .inr 3] μ (by decide +kernel) rfl rfl (by obtain ⟨G, he, hk⟩ := h0; exact zm_callV (as := [.inr 3, .inl v2, .inl v4]) (rest := []) (P := zpi G) (nx := 107) (a := 46) (b := 3) (k := 3) (sw := []) (zq_of (by decide +kernel)) rfl rfl rfl he (fun _ μ1 hp => by obtain ⟨v, rfl, hp⟩ := hp; exact (zm_V_pick [0, 3, 7] rfl (hk v μ1 hp)))))

theorem k49_107 {X : zm_T} {d : Nat} {s0 v3 v7 : Int32} {μ : zm_u} {P : Int32 → zm_u → Prop}
    (h0 : 0 ≤ (v3).toInt ∧ (v3).toInt < ((466 : Nat) : Int))
    (h1 : s0 = 0 ∨ s0 = 1)
    (h2 : P s0 (zm_up (zm_up μ 13 (v3).toNatClampNeg (-1 : Int32)) 3 4 v7)) :
    zV X d 49 107 [(0, .inr 3), (3, .inl v3), (7, .inl v7)] [.inl s0] μ (zpi P) :=
  (zm_run [(107, 109, 2, 8, 0, 0, []), (109, 110, 27, 0, 0, 0, []), (110, 113, 4, 2, 3, 0, []), (113, 114, 1, 3, 0, 0, []), (114, 115, 0, 0, 0, (-1), []), (115, 116, 7, 0, 0, 0, []), (116, 117, 27, 0, 0, 0, []), (117, 119, 1, 7, 0, 0, []), (119, 122, 5, 4, 3, 0, []), (122, 124, 1, 8, 0, 0, [])] _ _ _ _ [decide (0 ≤ (v3).toInt ∧ (v3).toInt < ((466 : Nat) : Int))] 124 [(0, .inr 3), (3, .inl v3), (7, .inl v7), (8, .inl s0)] [.inl s0] (zm_up (zm_up μ 13 (v3).toNatClampNeg (-1 : Int32)) 3 4 v7) (by decide +kernel) rfl (zm_bc h0 rfl) (zm_zret (nx := 125) (a := 0) (b := 0) (k := 0) (sw := []) (zq_of (by decide +kernel)) h1 ⟨_, rfl, h2⟩))

theorem k50_0 {X : zm_T} {d : Nat} {v1 v2 : Int32} {μ : zm_u} {P : Int32 → zm_u → Prop}
    (h0 : v1 = 11 → P (0 : Int32) μ)
    (h1 : ¬ v1 = 11 → v1 = 12 → P (1 : Int32) μ)
    (h2 : ¬ v1 = 11 → ¬ v1 = 12 → v1 = 13 → P (0 : Int32) μ)
    (h3 : ¬ v1 = 11 → ¬ v1 = 12 → ¬ v1 = 13 → v1 = 14 → P v2 μ)
    (h4 : ¬ v1 = 11 → ¬ v1 = 12 → ¬ v1 = 13 → ¬ v1 = 14 → v1 = 15 → ∃ G : Int32 → zm_u → Prop, zI X d 16 [.inr 1, .inl v2] μ G ∧ ∀ (r : Int32) (μ1 : zm_u), G r μ1 → zV X d 50 48 [(0, .inr 3), (2, .inl v2)] [.inl r] μ1 (zpi P))
    (h5 : ¬ v1 = 11 → ¬ v1 = 12 → ¬ v1 = 13 → ¬ v1 = 14 → ¬ v1 = 15 → P v2 μ) :
    zV X d 50 0 [(0, .inr 3), (1, .inl v1), (2, .inl v2)] [] μ (zpi P) :=
  (zm_run [(0, 1, 1, 1, 0, 0, [])] _ _ _ _ [] 1 [(0, .inr 3), (1, .inl v1), (2, .inl v2)] [.inl v1] μ (by decide +kernel) rfl rfl (zm_switch (nx := 36) (a := 77) (b := 0) (k := 0) (sw := [(11, 36), (12, 38), (13, 36), (14, 77), (15, 40)]) (zq_of (by decide +kernel)) (zsw_e (fun z1 => (zm_run [(36, 37, 0, 0, 0, 0, [])] _ _ _ _ [] 37 [(0, .inr 3), (1, .inl v1), (2, .inl v2)] [.inl (0 : Int32)] μ (by decide +kernel) rfl rfl (zm_iret (nx := 38) (a := 0) (b := 0) (k := 0) (sw := []) (zq_of (by decide +kernel)) ⟨_, rfl, (h0 z1)⟩))) (fun z1 => (zsw_e (fun z2 => (zm_run [(38, 39, 0, 0, 0, 1, [])] _ _ _ _ [] 39 [(0, .inr 3), (1, .inl v1), (2, .inl v2)] [.inl (1 : Int32)] μ (by decide +kernel) rfl rfl (zm_iret (nx := 40) (a := 0) (b := 0) (k := 0) (sw := []) (zq_of (by decide +kernel)) ⟨_, rfl, (h1 z1 z2)⟩))) (fun z2 => (zsw_e (fun z3 => (zm_run [(36, 37, 0, 0, 0, 0, [])] _ _ _ _ [] 37 [(0, .inr 3), (1, .inl v1), (2, .inl v2)] [.inl (0 : Int32)] μ (by decide +kernel) rfl rfl (zm_iret (nx := 38) (a := 0) (b := 0) (k := 0) (sw := []) (zq_of (by decide +kernel)) ⟨_, rfl, (h2 z1 z2 z3)⟩))) (fun z3 => (zsw_e (fun z4 => (zm_run [(77, 78, 1, 2, 0, 0, [])] _ _ _ _ [] 78 [(0, .inr 3), (1, .inl v1), (2, .inl v2)] [.inl v2] μ (by decide +kernel) rfl rfl (zm_iret (nx := 79) (a := 0) (b := 0) (k := 0) (sw := []) (zq_of (by decide +kernel)) ⟨_, rfl, (h3 z1 z2 z3 z4)⟩))) (fun z4 => (zsw_e (fun z5 => (zm_run [(40, 41, 27, 0, 0, 0, []), (41, 44, 4, 0, 3, 0, []), (44, 45, 1, 2, 0, 0, [])] _ _ _ _ [] 45 [(0, .inr 3), (1, .inl v1), (2, .inl v2)] [.inl v2, .inr 1] μ (by decide +kernel) rfl rfl (by obtain ⟨G, he, hk⟩ := (h4 z1 z2 z3 z4 z5); exact zm_callV (as := [.inr 1, .inl v2]) (rest := []) (P := zpi G) (nx := 48) (a := 16) (b := 2) (k := 1) (sw := []) (zq_of (by decide +kernel)) rfl rfl rfl he (fun _ μ1 hp => by obtain ⟨v, rfl, hp⟩ := hp; exact (zm_V_pick [0, 2] rfl (hk v μ1 hp)))))) (fun z5 => (zm_run [(77, 78, 1, 2, 0, 0, [])] _ _ _ _ [] 78 [(0, .inr 3), (1, .inl v1), (2, .inl v2)] [.inl v2] μ (by decide +kernel) rfl rfl (zm_iret (nx := 79) (a := 0) (b := 0) (k := 0) (sw := []) (zq_of (by decide +kernel)) ⟨_, rfl, (h5 z1 z2 z3 z4 z5)⟩))))))))))))))

theorem k50_48 {X : zm_T} {d : Nat} {s0 v2 : Int32} {μ : zm_u} {P : Int32 → zm_u → Prop}
    (h0 : ¬ s0 = 0 → ∃ G : Int32 → zm_u → Prop, zI X d 27 [.inr 1] μ G ∧ ∀ (r : Int32) (μ1 : zm_u), G r μ1 → zV X d 50 66 [(0, .inr 3)] [.inl r, .inr 1] μ1 (zpi P))
    (h1 : s0 = 0 → zV X d 50 76 [] [.inl v2] μ (zpi P)) :
    zV X d 50 48 [(0, .inr 3), (2, .inl v2)] [.inl s0] μ (zpi P) :=
  (zm_if (nx := 51) (a := 55) (b := 1) (k := 0) (sw := []) (zq_of (by decide +kernel)) (fun z1 => (zm_run [(55, 56, 27, 0, 0, 0, []), (56, 59, 4, 0, 3, 0, []), (59, 60, 27, 0, 0, 0, []), (60, 63, 4, 0, 3, 0, [])] _ _ _ _ [] 63 [(0, .inr 3), (2, .inl v2)] [.inr 1, .inr 1] μ (by decide +kernel) rfl rfl (by obtain ⟨G, he, hk⟩ := (h0 (of_decide_eq_true z1)); exact zm_callV (as := [.inr 1]) (rest := [.inr 1]) (P := zpi G) (nx := 66) (a := 27) (b := 1) (k := 1) (sw := []) (zq_of (by decide +kernel)) rfl rfl rfl he (fun _ μ1 hp => by obtain ⟨v, rfl, hp⟩ := hp; exact (zm_V_pick [0] rfl (hk v μ1 hp)))))) (fun z1 => (zm_run [(51, 52, 1, 2, 0, 0, []), (52, 55, 19, 76, 0, 0, [])] _ _ _ _ [] 76 [(0, .inr 3), (2, .inl v2)] [.inl v2] μ (by decide +kernel) rfl rfl (zm_V_pick [] rfl (h1 (Classical.byContradiction fun w => (of_decide_eq_false z1) w))))))

theorem k50_66 {X : zm_T} {d : Nat} {s1 : Int32} {μ : zm_u} {P : Int32 → zm_u → Prop}
    (h0 : ∃ G : Int32 → zm_u → Prop, zI X d 27 [.inr 1] μ G ∧ ∀ (r : Int32) (μ1 : zm_u), G r μ1 → zV X d 50 73 [] [.inl r, .inl s1, .inr 1] μ1 (zpi P)) :
    zV X d 50 66 [(0, .inr 3)] [.inl s1, .inr 1] μ (zpi P) :=
  (zm_run [(66, 67, 27, 0, 0, 0, []), (67, 70, 4, 0, 3, 0, [])] _ _ _ _ [] 70 [(0, .inr 3)] [.inr 1, .inl s1, .inr 1] μ (by decide +kernel) rfl rfl (by obtain ⟨G, he, hk⟩ := h0; exact zm_callV (as := [.inr 1]) (rest := [.inl s1, .inr 1]) (P := zpi G) (nx := 73) (a := 27) (b := 1) (k := 1) (sw := []) (zq_of (by decide +kernel)) rfl rfl rfl he (fun _ μ1 hp => by obtain ⟨v, rfl, hp⟩ := hp; exact (zm_V_pick [] rfl (hk v μ1 hp)))))

theorem k50_76 {X : zm_T} {d : Nat} {s0 : Int32} {μ : zm_u} {P : Int32 → zm_u → Prop}
    (h0 : P s0 μ) :
    zV X d 50 76 [] [.inl s0] μ (zpi P) :=
  (zm_iret (nx := 77) (a := 0) (b := 0) (k := 0) (sw := []) (zq_of (by decide +kernel)) ⟨_, rfl, h0⟩)

theorem k50_73 {X : zm_T} {d : Nat} {s1 s2 : Int32} {μ : zm_u} {P : Int32 → zm_u → Prop}
    (h0 : ∃ G : Int32 → zm_u → Prop, zI X d 24 [.inr 1, .inl s1, .inl s2] μ G ∧ ∀ (r : Int32) (μ1 : zm_u), G r μ1 → zV X d 50 76 [] [.inl r] μ1 (zpi P)) :
    zV X d 50 73 [] [.inl s2, .inl s1, .inr 1] μ (zpi P) :=
  (by obtain ⟨G, he, hk⟩ := h0; exact zm_callV (as := [.inr 1, .inl s1, .inl s2]) (rest := []) (P := zpi G) (nx := 76) (a := 24) (b := 3) (k := 1) (sw := []) (zq_of (by decide +kernel)) rfl rfl rfl he (fun _ μ1 hp => by obtain ⟨v, rfl, hp⟩ := hp; exact (zm_V_pick [] rfl (hk v μ1 hp))))

set_option maxRecDepth 100000 in
theorem k51_0 {X : zm_T} {d : Nat} {v1 v2 v3 : Int32} {μ : zm_u} {P : zm_u → Prop}
    (h0 : v1 = 11 → ∃ G : zm_u → Prop, zO X d 52 [.inr 3, .inl (0 : Int32)] μ G ∧ ∀ μ1 : zm_u, G μ1 → zV X d 51 41 [] [] μ1 (zpo P))
    (h1 : ¬ v1 = 11 → v1 = 12 → ∃ G : zm_u → Prop, zO X d 52 [.inr 3, .inl (1 : Int32)] μ G ∧ ∀ μ1 : zm_u, G μ1 → zV X d 51 49 [] [] μ1 (zpo P))
    (h2 : ¬ v1 = 11 → ¬ v1 = 12 → v1 = 13 → ∃ G : Int32 → zm_u → Prop, zI X d 25 [.inr 1, .inl (0 : Int32)] μ G ∧ ∀ (r : Int32) (μ1 : zm_u), G r μ1 → zV X d 51 61 [(0, .inr 3)] [.inl r, .inr 3] μ1 (zpo P))
    (h3 : ¬ v1 = 11 → ¬ v1 = 12 → ¬ v1 = 13 → v1 = 14 → ∃ G : Int32 → zm_u → Prop, zI X d 25 [.inr 1, .inl (1 : Int32)] μ G ∧ ∀ (r : Int32) (μ1 : zm_u), G r μ1 → zV X d 51 88 [(0, .inr 3), (2, .inl v2)] [.inl r, .inr 3] μ1 (zpo P))
    (h4 : ¬ v1 = 11 → ¬ v1 = 12 → ¬ v1 = 13 → ¬ v1 = 14 → v1 = 15 → ∃ G : Int32 → zm_u → Prop, zI X d 17 [.inr 1, .inl v3] μ G ∧ ∀ (r : Int32) (μ1 : zm_u), G r μ1 → zV X d 51 131 [(0, .inr 3), (3, .inl v3)] [.inl r, .inr 1, .inr 3] μ1 (zpo P))
    (h5 : ¬ v1 = 11 → ¬ v1 = 12 → ¬ v1 = 13 → ¬ v1 = 14 → ¬ v1 = 15 → ∃ G : Int32 → zm_u → Prop, zI X d 27 [.inr 1] μ G ∧ ∀ (r : Int32) (μ1 : zm_u), G r μ1 → zV X d 51 176 [] [.inl r, .inl v2, .inr 1, .inr 1, .inr 3] μ1 (zpo P)) :
    zV X d 51 0 [(0, .inr 3), (1, .inl v1), (2, .inl v2), (3, .inl v3)] [] μ (zpo P) :=
  (zm_run [(0, 1, 1, 1, 0, 0, [])] _ _ _ _ [] 1 [(0, .inr 3), (1, .inl v1), (2, .inl v2), (3, .inl v3)] [.inl v1] μ (by decide +kernel) rfl rfl (zm_switch (nx := 36) (a := 159) (b := 0) (k := 0) (sw := [(11, 36), (12, 44), (13, 52), (14, 79), (15, 118)]) (zq_of (by decide +kernel)) (zsw_e (fun z1 => (zm_run [(36, 37, 27, 0, 0, 0, []), (37, 38, 0, 0, 0, 0, [])] _ _ _ _ [] 38 [(0, .inr 3), (1, .inl v1), (2, .inl v2), (3, .inl v3)] [.inl (0 : Int32), .inr 3] μ (by decide +kernel) rfl rfl (by obtain ⟨G, he, hk⟩ := (h0 z1); exact zm_callV (as := [.inr 3, .inl (0 : Int32)]) (rest := []) (P := zpo G) (nx := 41) (a := 52) (b := 2) (k := 3) (sw := []) (zq_of (by decide +kernel)) rfl rfl rfl he (fun _ μ1 hp => by obtain ⟨rfl, hp⟩ := hp; exact (zm_V_pick [] rfl (hk μ1 hp)))))) (fun z1 => (zsw_e (fun z2 => (zm_run [(44, 45, 27, 0, 0, 0, []), (45, 46, 0, 0, 0, 1, [])] _ _ _ _ [] 46 [(0, .inr 3), (1, .inl v1), (2, .inl v2), (3, .inl v3)] [.inl (1 : Int32), .inr 3] μ (by decide +kernel) rfl rfl (by obtain ⟨G, he, hk⟩ := (h1 z1 z2); exact zm_callV (as := [.inr 3, .inl (1 : Int32)]) (rest := []) (P := zpo G) (nx := 49) (a := 52) (b := 2) (k := 3) (sw := []) (zq_of (by decide +kernel)) rfl rfl rfl he (fun _ μ1 hp => by obtain ⟨rfl, hp⟩ := hp; exact (zm_V_pick [] rfl (hk μ1 hp)))))) (fun z2 => (zsw_e (fun z3 => (zm_run [(52, 53, 27, 0, 0, 0, []), (53, 54, 27, 0, 0, 0, []), (54, 57, 4, 0, 3, 0, []), (57, 58, 0, 0, 0, 0, [])] _ _ _ _ [] 58 [(0, .inr 3), (1, .inl v1), (2, .inl v2), (3, .inl v3)] [.inl (0 : Int32), .inr 1, .inr 3] μ (by decide +kernel) rfl rfl (by obtain ⟨G, he, hk⟩ := (h2 z1 z2 z3); exact zm_callV (as := [.inr 1, .inl (0 : Int32)]) (rest := [.inr 3]) (P := zpi G) (nx := 61) (a := 25) (b := 2) (k := 1) (sw := []) (zq_of (by decide +kernel)) rfl rfl rfl he (fun _ μ1 hp => by obtain ⟨v, rfl, hp⟩ := hp; exact (zm_V_pick [0] rfl (hk v μ1 hp)))))) (fun z3 => (zsw_e (fun z4 => (zm_run [(79, 80, 27, 0, 0, 0, []), (80, 81, 27, 0, 0, 0, []), (81, 84, 4, 0, 3, 0, []), (84, 85, 0, 0, 0, 1, [])] _ _ _ _ [] 85 [(0, .inr 3), (1, .inl v1), (2, .inl v2), (3, .inl v3)] [.inl (1 : Int32), .inr 1, .inr 3] μ (by decide +kernel) rfl rfl (by obtain ⟨G, he, hk⟩ := (h3 z1 z2 z3 z4); exact zm_callV (as := [.inr 1, .inl (1 : Int32)]) (rest := [.inr 3]) (P := zpi G) (nx := 88) (a := 25) (b := 2) (k := 1) (sw := []) (zq_of (by decide +kernel)) rfl rfl rfl he (fun _ μ1 hp => by obtain ⟨v, rfl, hp⟩ := hp; exact (zm_V_pick [0, 2] rfl (hk v μ1 hp)))))) (fun z4 => (zsw_e (fun z5 => (zm_run [(118, 119, 27, 0, 0, 0, []), (119, 120, 27, 0, 0, 0, []), (120, 123, 4, 0, 3, 0, []), (123, 124, 27, 0, 0, 0, []), (124, 127, 4, 0, 3, 0, []), (127, 128, 1, 3, 0, 0, [])] _ _ _ _ [] 128 [(0, .inr 3), (1, .inl v1), (2, .inl v2), (3, .inl v3)] [.inl v3, .inr 1, .inr 1, .inr 3] μ (by decide +kernel) rfl rfl (by obtain ⟨G, he, hk⟩ := (h4 z1 z2 z3 z4 z5); exact zm_callV (as := [.inr 1, .inl v3]) (rest := [.inr 1, .inr 3]) (P := zpi G) (nx := 131) (a := 17) (b := 2) (k := 1) (sw := []) (zq_of (by decide +kernel)) rfl rfl rfl he (fun _ μ1 hp => by obtain ⟨v, rfl, hp⟩ := hp; exact (zm_V_pick [0, 3] rfl (hk v μ1 hp)))))) (fun z5 => (zm_run [(159, 160, 27, 0, 0, 0, []), (160, 161, 27, 0, 0, 0, []), (161, 164, 4, 0, 3, 0, []), (164, 165, 27, 0, 0, 0, []), (165, 168, 4, 0, 3, 0, []), (168, 169, 1, 2, 0, 0, []), (169, 170, 27, 0, 0, 0, []), (170, 173, 4, 0, 3, 0, [])] _ _ _ _ [] 173 [(0, .inr 3), (1, .inl v1), (2, .inl v2), (3, .inl v3)] [.inr 1, .inl v2, .inr 1, .inr 1, .inr 3] μ (by decide +kernel) rfl rfl (by obtain ⟨G, he, hk⟩ := (h5 z1 z2 z3 z4 z5); exact zm_callV (as := [.inr 1]) (rest := [.inl v2, .inr 1, .inr 1, .inr 3]) (P := zpi G) (nx := 176) (a := 27) (b := 1) (k := 1) (sw := []) (zq_of (by decide +kernel)) rfl rfl rfl he (fun _ μ1 hp => by obtain ⟨v, rfl, hp⟩ := hp; exact (zm_V_pick [] rfl (hk v μ1 hp)))))))))))))))))

theorem k51_41 {X : zm_T} {d : Nat} {μ : zm_u} {P : zm_u → Prop}
    (h0 : zV X d 51 185 [] [] μ (zpo P)) :
    zV X d 51 41 [] [] μ (zpo P) :=
  (zm_run [(41, 44, 19, 185, 0, 0, [])] _ _ _ _ [] 185 [] [] μ (by decide +kernel) rfl rfl (zm_V_pick [] rfl h0))

theorem k51_49 {X : zm_T} {d : Nat} {μ : zm_u} {P : zm_u → Prop}
    (h0 : zV X d 51 185 [] [] μ (zpo P)) :
    zV X d 51 49 [] [] μ (zpo P) :=
  (zm_run [(49, 52, 19, 185, 0, 0, [])] _ _ _ _ [] 185 [] [] μ (by decide +kernel) rfl rfl (zm_V_pick [] rfl h0))

theorem k51_61 {X : zm_T} {d : Nat} {s1 : Int32} {μ : zm_u} {P : zm_u → Prop}
    (h0 : ∃ G : zm_u → Prop, zO X d 52 [.inr 3, .inl s1] μ G ∧ ∀ μ1 : zm_u, G μ1 → zV X d 51 64 [(0, .inr 3)] [] μ1 (zpo P)) :
    zV X d 51 61 [(0, .inr 3)] [.inl s1, .inr 3] μ (zpo P) :=
  (by obtain ⟨G, he, hk⟩ := h0; exact zm_callV (as := [.inr 3, .inl s1]) (rest := []) (P := zpo G) (nx := 64) (a := 52) (b := 2) (k := 3) (sw := []) (zq_of (by decide +kernel)) rfl rfl rfl he (fun _ μ1 hp => by obtain ⟨rfl, hp⟩ := hp; exact (zm_V_pick [0] rfl (hk μ1 hp))))

theorem k51_88 {X : zm_T} {d : Nat} {s1 v2 : Int32} {μ : zm_u} {P : zm_u → Prop}
    (h0 : ∃ G : zm_u → Prop, zO X d 52 [.inr 3, .inl s1] μ G ∧ ∀ μ1 : zm_u, G μ1 → zV X d 51 91 [(0, .inr 3), (2, .inl v2)] [] μ1 (zpo P)) :
    zV X d 51 88 [(0, .inr 3), (2, .inl v2)] [.inl s1, .inr 3] μ (zpo P) :=
  (by obtain ⟨G, he, hk⟩ := h0; exact zm_callV (as := [.inr 3, .inl s1]) (rest := []) (P := zpo G) (nx := 91) (a := 52) (b := 2) (k := 3) (sw := []) (zq_of (by decide +kernel)) rfl rfl rfl he (fun _ μ1 hp => by obtain ⟨rfl, hp⟩ := hp; exact (zm_V_pick [0, 2] rfl (hk μ1 hp))))

theorem k51_131 {X : zm_T} {d : Nat} {s2 v3 : Int32} {μ : zm_u} {P : zm_u → Prop}
    (h0 : ∃ G : Int32 → zm_u → Prop, zI X d 25 [.inr 1, .inl s2] μ G ∧ ∀ (r : Int32) (μ1 : zm_u), G r μ1 → zV X d 51 134 [(0, .inr 3), (3, .inl v3)] [.inl r, .inr 3] μ1 (zpo P)) :
    zV X d 51 131 [(0, .inr 3), (3, .inl v3)] [.inl s2, .inr 1, .inr 3] μ (zpo P) :=
  (by obtain ⟨G, he, hk⟩ := h0; exact zm_callV (as := [.inr 1, .inl s2]) (rest := [.inr 3]) (P := zpi G) (nx := 134) (a := 25) (b := 2) (k := 1) (sw := []) (zq_of (by decide +kernel)) rfl rfl rfl he (fun _ μ1 hp => by obtain ⟨v, rfl, hp⟩ := hp; exact (zm_V_pick [0, 3] rfl (hk v μ1 hp))))

theorem k51_176 {X : zm_T} {d : Nat} {s3 s4 : Int32} {μ : zm_u} {P : zm_u → Prop}
    (h0 : ∃ G : Int32 → zm_u → Prop, zI X d 24 [.inr 1, .inl s3, .inl s4] μ G ∧ ∀ (r : Int32) (μ1 : zm_u), G r μ1 → zV X d 51 179 [] [.inl r, .inr 1, .inr 3] μ1 (zpo P)) :
    zV X d 51 176 [] [.inl s4, .inl s3, .inr 1, .inr 1, .inr 3] μ (zpo P) :=
  (by obtain ⟨G, he, hk⟩ := h0; exact zm_callV (as := [.inr 1, .inl s3, .inl s4]) (rest := [.inr 1, .inr 3]) (P := zpi G) (nx := 179) (a := 24) (b := 3) (k := 1) (sw := []) (zq_of (by decide +kernel)) rfl rfl rfl he (fun _ μ1 hp => by obtain ⟨v, rfl, hp⟩ := hp; exact (zm_V_pick [] rfl (hk v μ1 hp))))

theorem k51_185 {X : zm_T} {d : Nat} {μ : zm_u} {P : zm_u → Prop}
    (h0 : P μ) :
    zV X d 51 185 [] [] μ (zpo P) :=
  (zm_vret (nx := 186) (a := 0) (b := 0) (k := 0) (sw := []) (zq_of (by decide +kernel)) ⟨rfl, h0⟩)

theorem k51_64 {X : zm_T} {d : Nat} {μ : zm_u} {P : zm_u → Prop}
    (h0 : ∃ G : Int32 → zm_u → Prop, zI X d 25 [.inr 1, .inl (0 : Int32)] μ G ∧ ∀ (r : Int32) (μ1 : zm_u), G r μ1 → zV X d 51 73 [] [.inl r, .inr 3] μ1 (zpo P)) :
    zV X d 51 64 [(0, .inr 3)] [] μ (zpo P) :=
  (zm_run [(64, 65, 27, 0, 0, 0, []), (65, 66, 27, 0, 0, 0, []), (66, 69, 4, 0, 3, 0, []), (69, 70, 0, 0, 0, 0, [])] _ _ _ _ [] 70 [(0, .inr 3)] [.inl (0 : Int32), .inr 1, .inr 3] μ (by decide +kernel) rfl rfl (by obtain ⟨G, he, hk⟩ := h0; exact zm_callV (as := [.inr 1, .inl (0 : Int32)]) (rest := [.inr 3]) (P := zpi G) (nx := 73) (a := 25) (b := 2) (k := 1) (sw := []) (zq_of (by decide +kernel)) rfl rfl rfl he (fun _ μ1 hp => by obtain ⟨v, rfl, hp⟩ := hp; exact (zm_V_pick [] rfl (hk v μ1 hp)))))

theorem k51_91 {X : zm_T} {d : Nat} {v2 : Int32} {μ : zm_u} {P : zm_u → Prop}
    (h0 : ∃ G : Int32 → zm_u → Prop, zI X d 25 [.inr 1, .inl v2] μ G ∧ ∀ (r : Int32) (μ1 : zm_u), G r μ1 → zV X d 51 100 [(0, .inr 3), (2, .inl v2)] [.inl r, .inr 3] μ1 (zpo P)) :
    zV X d 51 91 [(0, .inr 3), (2, .inl v2)] [] μ (zpo P) :=
  (zm_run [(91, 92, 27, 0, 0, 0, []), (92, 93, 27, 0, 0, 0, []), (93, 96, 4, 0, 3, 0, []), (96, 97, 1, 2, 0, 0, [])] _ _ _ _ [] 97 [(0, .inr 3), (2, .inl v2)] [.inl v2, .inr 1, .inr 3] μ (by decide +kernel) rfl rfl (by obtain ⟨G, he, hk⟩ := h0; exact zm_callV (as := [.inr 1, .inl v2]) (rest := [.inr 3]) (P := zpi G) (nx := 100) (a := 25) (b := 2) (k := 1) (sw := []) (zq_of (by decide +kernel)) rfl rfl rfl he (fun _ μ1 hp => by obtain ⟨v, rfl, hp⟩ := hp; exact (zm_V_pick [0, 2] rfl (hk v μ1 hp)))))

theorem k51_134 {X : zm_T} {d : Nat} {s1 v3 : Int32} {μ : zm_u} {P : zm_u → Prop}
    (h0 : ∃ G : zm_u → Prop, zO X d 52 [.inr 3, .inl s1] μ G ∧ ∀ μ1 : zm_u, G μ1 → zV X d 51 137 [(0, .inr 3), (3, .inl v3)] [] μ1 (zpo P)) :
    zV X d 51 134 [(0, .inr 3), (3, .inl v3)] [.inl s1, .inr 3] μ (zpo P) :=
  (by obtain ⟨G, he, hk⟩ := h0; exact zm_callV (as := [.inr 3, .inl s1]) (rest := []) (P := zpo G) (nx := 137) (a := 52) (b := 2) (k := 3) (sw := []) (zq_of (by decide +kernel)) rfl rfl rfl he (fun _ μ1 hp => by obtain ⟨rfl, hp⟩ := hp; exact (zm_V_pick [0, 3] rfl (hk μ1 hp))))

theorem k51_179 {X : zm_T} {d : Nat} {s2 : Int32} {μ : zm_u} {P : zm_u → Prop}
    (h0 : ∃ G : Int32 → zm_u → Prop, zI X d 25 [.inr 1, .inl s2] μ G ∧ ∀ (r : Int32) (μ1 : zm_u), G r μ1 → zV X d 51 182 [] [.inl r, .inr 3] μ1 (zpo P)) :
    zV X d 51 179 [] [.inl s2, .inr 1, .inr 3] μ (zpo P) :=
  (by obtain ⟨G, he, hk⟩ := h0; exact zm_callV (as := [.inr 1, .inl s2]) (rest := [.inr 3]) (P := zpi G) (nx := 182) (a := 25) (b := 2) (k := 1) (sw := []) (zq_of (by decide +kernel)) rfl rfl rfl he (fun _ μ1 hp => by obtain ⟨v, rfl, hp⟩ := hp; exact (zm_V_pick [] rfl (hk v μ1 hp))))

theorem k51_73 {X : zm_T} {d : Nat} {s1 : Int32} {μ : zm_u} {P : zm_u → Prop}
    (h0 : ∃ G : zm_u → Prop, zO X d 52 [.inr 3, .inl s1] μ G ∧ ∀ μ1 : zm_u, G μ1 → zV X d 51 76 [] [] μ1 (zpo P)) :
    zV X d 51 73 [] [.inl s1, .inr 3] μ (zpo P) :=
  (by obtain ⟨G, he, hk⟩ := h0; exact zm_callV (as := [.inr 3, .inl s1]) (rest := []) (P := zpo G) (nx := 76) (a := 52) (b := 2) (k := 3) (sw := []) (zq_of (by decide +kernel)) rfl rfl rfl he (fun _ μ1 hp => by obtain ⟨rfl, hp⟩ := hp; exact (zm_V_pick [] rfl (hk μ1 hp))))

theorem k51_100 {X : zm_T} {d : Nat} {s1 v2 : Int32} {μ : zm_u} {P : zm_u → Prop}
    (h0 : ∃ G : zm_u → Prop, zO X d 52 [.inr 3, .inl s1] μ G ∧ ∀ μ1 : zm_u, G μ1 → zV X d 51 103 [(0, .inr 3), (2, .inl v2)] [] μ1 (zpo P)) :
    zV X d 51 100 [(0, .inr 3), (2, .inl v2)] [.inl s1, .inr 3] μ (zpo P) :=
  (by obtain ⟨G, he, hk⟩ := h0; exact zm_callV (as := [.inr 3, .inl s1]) (rest := []) (P := zpo G) (nx := 103) (a := 52) (b := 2) (k := 3) (sw := []) (zq_of (by decide +kernel)) rfl rfl rfl he (fun _ μ1 hp => by obtain ⟨rfl, hp⟩ := hp; exact (zm_V_pick [0, 2] rfl (hk μ1 hp))))

theorem k51_137 {X : zm_T} {d : Nat} {v3 : Int32} {μ : zm_u} {P : zm_u → Prop}
    (h0 : ∃ G : Int32 → zm_u → Prop, zI X d 18 [.inr 1, .inl v3] μ G ∧ ∀ (r : Int32) (μ1 : zm_u), G r μ1 → zV X d 51 150 [] [.inl r, .inr 1, .inr 3] μ1 (zpo P)) :
    zV X d 51 137 [(0, .inr 3), (3, .inl v3)] [] μ (zpo P) :=
  (zm_run [(137, 138, 27, 0, 0, 0, []), (138, 139, 27, 0, 0, 0, []), (139, 142, 4, 0, 3, 0, []), (142, 143, 27, 0, 0, 0, []), (143, 146, 4, 0, 3, 0, []), (146, 147, 1, 3, 0, 0, [])] _ _ _ _ [] 147 [(0, .inr 3), (3, .inl v3)] [.inl v3, .inr 1, .inr 1, .inr 3] μ (by decide +kernel) rfl rfl (by obtain ⟨G, he, hk⟩ := h0; exact zm_callV (as := [.inr 1, .inl v3]) (rest := [.inr 1, .inr 3]) (P := zpi G) (nx := 150) (a := 18) (b := 2) (k := 1) (sw := []) (zq_of (by decide +kernel)) rfl rfl rfl he (fun _ μ1 hp => by obtain ⟨v, rfl, hp⟩ := hp; exact (zm_V_pick [] rfl (hk v μ1 hp)))))

theorem k51_182 {X : zm_T} {d : Nat} {s1 : Int32} {μ : zm_u} {P : zm_u → Prop}
    (h0 : ∃ G : zm_u → Prop, zO X d 52 [.inr 3, .inl s1] μ G ∧ ∀ μ1 : zm_u, G μ1 → zV X d 51 185 [] [] μ1 (zpo P)) :
    zV X d 51 182 [] [.inl s1, .inr 3] μ (zpo P) :=
  (by obtain ⟨G, he, hk⟩ := h0; exact zm_callV (as := [.inr 3, .inl s1]) (rest := []) (P := zpo G) (nx := 185) (a := 52) (b := 2) (k := 3) (sw := []) (zq_of (by decide +kernel)) rfl rfl rfl he (fun _ μ1 hp => by obtain ⟨rfl, hp⟩ := hp; exact (zm_V_pick [] rfl (hk μ1 hp))))

theorem k51_76 {X : zm_T} {d : Nat} {μ : zm_u} {P : zm_u → Prop}
    (h0 : zV X d 51 185 [] [] μ (zpo P)) :
    zV X d 51 76 [] [] μ (zpo P) :=
  (zm_run [(76, 79, 19, 185, 0, 0, [])] _ _ _ _ [] 185 [] [] μ (by decide +kernel) rfl rfl (zm_V_pick [] rfl h0))

theorem k51_103 {X : zm_T} {d : Nat} {v2 : Int32} {μ : zm_u} {P : zm_u → Prop}
    (h0 : ∃ G : Int32 → zm_u → Prop, zI X d 25 [.inr 1, .inl v2] μ G ∧ ∀ (r : Int32) (μ1 : zm_u), G r μ1 → zV X d 51 112 [] [.inl r, .inr 3] μ1 (zpo P)) :
    zV X d 51 103 [(0, .inr 3), (2, .inl v2)] [] μ (zpo P) :=
  (zm_run [(103, 104, 27, 0, 0, 0, []), (104, 105, 27, 0, 0, 0, []), (105, 108, 4, 0, 3, 0, []), (108, 109, 1, 2, 0, 0, [])] _ _ _ _ [] 109 [(0, .inr 3), (2, .inl v2)] [.inl v2, .inr 1, .inr 3] μ (by decide +kernel) rfl rfl (by obtain ⟨G, he, hk⟩ := h0; exact zm_callV (as := [.inr 1, .inl v2]) (rest := [.inr 3]) (P := zpi G) (nx := 112) (a := 25) (b := 2) (k := 1) (sw := []) (zq_of (by decide +kernel)) rfl rfl rfl he (fun _ μ1 hp => by obtain ⟨v, rfl, hp⟩ := hp; exact (zm_V_pick [] rfl (hk v μ1 hp)))))

theorem k51_150 {X : zm_T} {d : Nat} {s2 : Int32} {μ : zm_u} {P : zm_u → Prop}
    (h0 : ∃ G : Int32 → zm_u → Prop, zI X d 25 [.inr 1, .inl s2] μ G ∧ ∀ (r : Int32) (μ1 : zm_u), G r μ1 → zV X d 51 153 [] [.inl r, .inr 3] μ1 (zpo P)) :
    zV X d 51 150 [] [.inl s2, .inr 1, .inr 3] μ (zpo P) :=
  (by obtain ⟨G, he, hk⟩ := h0; exact zm_callV (as := [.inr 1, .inl s2]) (rest := [.inr 3]) (P := zpi G) (nx := 153) (a := 25) (b := 2) (k := 1) (sw := []) (zq_of (by decide +kernel)) rfl rfl rfl he (fun _ μ1 hp => by obtain ⟨v, rfl, hp⟩ := hp; exact (zm_V_pick [] rfl (hk v μ1 hp))))

theorem k51_112 {X : zm_T} {d : Nat} {s1 : Int32} {μ : zm_u} {P : zm_u → Prop}
    (h0 : ∃ G : zm_u → Prop, zO X d 52 [.inr 3, .inl s1] μ G ∧ ∀ μ1 : zm_u, G μ1 → zV X d 51 115 [] [] μ1 (zpo P)) :
    zV X d 51 112 [] [.inl s1, .inr 3] μ (zpo P) :=
  (by obtain ⟨G, he, hk⟩ := h0; exact zm_callV (as := [.inr 3, .inl s1]) (rest := []) (P := zpo G) (nx := 115) (a := 52) (b := 2) (k := 3) (sw := []) (zq_of (by decide +kernel)) rfl rfl rfl he (fun _ μ1 hp => by obtain ⟨rfl, hp⟩ := hp; exact (zm_V_pick [] rfl (hk μ1 hp))))

theorem k51_153 {X : zm_T} {d : Nat} {s1 : Int32} {μ : zm_u} {P : zm_u → Prop}
    (h0 : ∃ G : zm_u → Prop, zO X d 52 [.inr 3, .inl s1] μ G ∧ ∀ μ1 : zm_u, G μ1 → zV X d 51 156 [] [] μ1 (zpo P)) :
    zV X d 51 153 [] [.inl s1, .inr 3] μ (zpo P) :=
  (by obtain ⟨G, he, hk⟩ := h0; exact zm_callV (as := [.inr 3, .inl s1]) (rest := []) (P := zpo G) (nx := 156) (a := 52) (b := 2) (k := 3) (sw := []) (zq_of (by decide +kernel)) rfl rfl rfl he (fun _ μ1 hp => by obtain ⟨rfl, hp⟩ := hp; exact (zm_V_pick [] rfl (hk μ1 hp))))

theorem k51_115 {X : zm_T} {d : Nat} {μ : zm_u} {P : zm_u → Prop}
    (h0 : zV X d 51 185 [] [] μ (zpo P)) :
    zV X d 51 115 [] [] μ (zpo P) :=
  (zm_run [(115, 118, 19, 185, 0, 0, [])] _ _ _ _ [] 185 [] [] μ (by decide +kernel) rfl rfl (zm_V_pick [] rfl h0))

theorem k51_156 {X : zm_T} {d : Nat} {μ : zm_u} {P : zm_u → Prop}
    (h0 : zV X d 51 185 [] [] μ (zpo P)) :
    zV X d 51 156 [] [] μ (zpo P) :=
  (zm_run [(156, 159, 19, 185, 0, 0, [])] _ _ _ _ [] 185 [] [] μ (by decide +kernel) rfl rfl (zm_V_pick [] rfl h0))

theorem k52_0 {X : zm_T} {d : Nat} {v1 : Int32} {μ : zm_u} {P : zm_u → Prop}
    (h0 : (16 : Int32) ≤ (μ 3 4) → P μ)
    (h1 : ¬ ((16 : Int32) ≤ (μ 3 4)) → 0 ≤ ((μ 3 4)).toInt ∧ ((μ 3 4)).toInt < ((16 : Nat) : Int))
    (h2 : ¬ ((16 : Int32) ≤ (μ 3 4)) → P (zm_up (zm_up μ 14 ((μ 3 4)).toNatClampNeg v1) 3 4 ((μ 3 4) + (1 : Int32)))) :
    zV X d 52 0 [(0, .inr 3), (1, .inl v1)] [] μ (zpo P) :=
  (zm_run [(0, 1, 27, 0, 0, 0, []), (1, 4, 4, 4, 3, 0, []), (4, 6, 0, 0, 0, 16, [])] _ _ _ _ [] 6 [(0, .inr 3), (1, .inl v1)] [.inl (16 : Int32), .inl (μ 3 4)] μ (by decide +kernel) rfl rfl (zm_icmp (nx := 9) (a := 29) (b := 3) (k := 0) (sw := []) (zq_of (by decide +kernel)) (fun z1 => (zm_vret (nx := 30) (a := 0) (b := 0) (k := 0) (sw := []) (zq_of (by decide +kernel)) ⟨rfl, (h0 (of_decide_eq_true z1))⟩)) (fun z1 => (zm_run [(9, 10, 27, 0, 0, 0, []), (10, 13, 4, 3, 3, 0, []), (13, 14, 27, 0, 0, 0, []), (14, 17, 4, 4, 3, 0, []), (17, 18, 1, 1, 0, 0, []), (18, 19, 7, 0, 0, 0, []), (19, 20, 27, 0, 0, 0, []), (20, 21, 16, 0, 0, 0, []), (21, 24, 4, 4, 3, 0, []), (24, 25, 0, 0, 0, 1, []), (25, 26, 10, 0, 0, 0, []), (26, 29, 5, 4, 3, 0, [])] _ _ _ _ [decide (0 ≤ ((μ 3 4)).toInt ∧ ((μ 3 4)).toInt < ((16 : Nat) : Int))] 29 [(0, .inr 3), (1, .inl v1)] [] (zm_up (zm_up μ 14 ((μ 3 4)).toNatClampNeg v1) 3 4 ((μ 3 4) + (1 : Int32))) (by decide +kernel) rfl (zm_bc (h1 (of_decide_eq_false z1)) rfl) (zm_vret (nx := 30) (a := 0) (b := 0) (k := 0) (sw := []) (zq_of (by decide +kernel)) ⟨rfl, (h2 (of_decide_eq_false z1))⟩)))))

theorem k53_0 {X : zm_T} {d : Nat} {v1 : Int32} {μ : zm_u} {P : Int32 → zm_u → Prop}
    (h0 : ∃ G : Int32 → zm_u → Prop, zI X d 32 [.inr 2, .inl v1] μ G ∧ ∀ (r : Int32) (μ1 : zm_u), G r μ1 → zV X d 53 8 [(0, .inr 3), (1, .inl v1)] [.inl r] μ1 (zpi P)) :
    zV X d 53 0 [(0, .inr 3), (1, .inl v1)] [] μ (zpi P) :=
  (zm_run [(0, 1, 27, 0, 0, 0, []), (1, 4, 4, 1, 3, 0, []), (4, 5, 1, 1, 0, 0, [])] _ _ _ _ [] 5 [(0, .inr 3), (1, .inl v1)] [.inl v1, .inr 2] μ (by decide +kernel) rfl rfl (by obtain ⟨G, he, hk⟩ := h0; exact zm_callV (as := [.inr 2, .inl v1]) (rest := []) (P := zpi G) (nx := 8) (a := 32) (b := 2) (k := 2) (sw := []) (zq_of (by decide +kernel)) rfl rfl rfl he (fun _ μ1 hp => by obtain ⟨v, rfl, hp⟩ := hp; exact (zm_V_pick [0, 1] rfl (hk v μ1 hp)))))

set_option maxRecDepth 100000 in
theorem k53_8 {X : zm_T} {d : Nat} {s0 v1 : Int32} {μ : zm_u} {P : Int32 → zm_u → Prop}
    (h0 : s0 = 0 → P (0 : Int32) μ)
    (h1 : ¬ s0 = 0 → s0 = 1 → P (1 : Int32) μ)
    (h2 : ¬ s0 = 0 → ¬ s0 = 1 → s0 = 2 → ∃ G : Int32 → zm_u → Prop, zI X d 33 [.inr 2, .inl v1] μ G ∧ ∀ (r : Int32) (μ1 : zm_u), G r μ1 → zV X d 53 81 [] [.inl r, .inr 3] μ1 (zpi P))
    (h3 : ¬ s0 = 0 → ¬ s0 = 1 → ¬ s0 = 2 → s0 = 3 → ∃ G : Int32 → zm_u → Prop, zI X d 47 [.inr 3, .inl v1, .inl (0 : Int32)] μ G ∧ ∀ (r : Int32) (μ1 : zm_u), G r μ1 → zV X d 53 91 [] [.inl r] μ1 (zpi P))
    (h4 : ¬ s0 = 0 → ¬ s0 = 1 → ¬ s0 = 2 → ¬ s0 = 3 → s0 = 4 → ∃ G : Int32 → zm_u → Prop, zI X d 47 [.inr 3, .inl v1, .inl (0 : Int32)] μ G ∧ ∀ (r : Int32) (μ1 : zm_u), G r μ1 → zV X d 53 106 [] [.inl r] μ1 (zpi P))
    (h5 : ¬ s0 = 0 → ¬ s0 = 1 → ¬ s0 = 2 → ¬ s0 = 3 → ¬ s0 = 4 → s0 = 5 → ∃ G : Int32 → zm_u → Prop, zI X d 55 [.inr 3, .inl v1] μ G ∧ ∀ (r : Int32) (μ1 : zm_u), G r μ1 → zV X d 53 219 [] [.inl r] μ1 (zpi P))
    (h6 : ¬ s0 = 0 → ¬ s0 = 1 → ¬ s0 = 2 → ¬ s0 = 3 → ¬ s0 = 4 → ¬ s0 = 5 → s0 = 6 → ∃ G : Int32 → zm_u → Prop, zI X d 54 [.inr 3, .inl v1, .inl (0 : Int32)] μ G ∧ ∀ (r : Int32) (μ1 : zm_u), G r μ1 → zV X d 53 125 [(0, .inr 3), (1, .inl v1)] [.inl r, .inr 1] μ1 (zpi P))
    (h7 : ¬ s0 = 0 → ¬ s0 = 1 → ¬ s0 = 2 → ¬ s0 = 3 → ¬ s0 = 4 → ¬ s0 = 5 → ¬ s0 = 6 → s0 = 7 → ∃ G : Int32 → zm_u → Prop, zI X d 54 [.inr 3, .inl v1, .inl (0 : Int32)] μ G ∧ ∀ (r : Int32) (μ1 : zm_u), G r μ1 → zV X d 53 142 [] [.inl r, .inr 3] μ1 (zpi P))
    (h8 : ¬ s0 = 0 → ¬ s0 = 1 → ¬ s0 = 2 → ¬ s0 = 3 → ¬ s0 = 4 → ¬ s0 = 5 → ¬ s0 = 6 → ¬ s0 = 7 → s0 = 8 → ∃ G : Int32 → zm_u → Prop, zI X d 54 [.inr 3, .inl v1, .inl (0 : Int32)] μ G ∧ ∀ (r : Int32) (μ1 : zm_u), G r μ1 → zV X d 53 153 [] [.inl r, .inr 3] μ1 (zpi P))
    (h9 : ¬ s0 = 0 → ¬ s0 = 1 → ¬ s0 = 2 → ¬ s0 = 3 → ¬ s0 = 4 → ¬ s0 = 5 → ¬ s0 = 6 → ¬ s0 = 7 → ¬ s0 = 8 → s0 = 9 → ∃ G : Int32 → zm_u → Prop, zI X d 54 [.inr 3, .inl v1, .inl (0 : Int32)] μ G ∧ ∀ (r : Int32) (μ1 : zm_u), G r μ1 → zV X d 53 169 [] [.inl r, .inr 3, .inl (μ 3 5), .inr 3] μ1 (zpi P))
    (h10 : ¬ s0 = 0 → ¬ s0 = 1 → ¬ s0 = 2 → ¬ s0 = 3 → ¬ s0 = 4 → ¬ s0 = 5 → ¬ s0 = 6 → ¬ s0 = 7 → ¬ s0 = 8 → ¬ s0 = 9 → s0 = 10 → ∃ G : Int32 → zm_u → Prop, zI X d 34 [.inr 2, .inl v1, .inl (0 : Int32)] μ G ∧ ∀ (r : Int32) (μ1 : zm_u), G r μ1 → zV X d 53 187 [(0, .inr 3), (1, .inl v1)] [.inl r, .inr 3] μ1 (zpi P))
    (h11 : ¬ s0 = 0 → ¬ s0 = 1 → ¬ s0 = 2 → ¬ s0 = 3 → ¬ s0 = 4 → ¬ s0 = 5 → ¬ s0 = 6 → ¬ s0 = 7 → ¬ s0 = 8 → ¬ s0 = 9 → ¬ s0 = 10 → ∃ G : Int32 → zm_u → Prop, zI X d 55 [.inr 3, .inl v1] μ G ∧ ∀ (r : Int32) (μ1 : zm_u), G r μ1 → zV X d 53 219 [] [.inl r] μ1 (zpi P)) :
    zV X d 53 8 [(0, .inr 3), (1, .inl v1)] [.inl s0] μ (zpi P) :=
  (zm_switch (nx := 68) (a := 214) (b := 0) (k := 0) (sw := [(0, 68), (1, 70), (2, 72), (3, 85), (4, 100), (5, 214), (6, 115), (7, 135), (8, 146), (9, 157), (10, 177)]) (zq_of (by decide +kernel)) (zsw_e (fun z1 => (zm_run [(68, 69, 0, 0, 0, 0, [])] _ _ _ _ [] 69 [(0, .inr 3), (1, .inl v1)] [.inl (0 : Int32)] μ (by decide +kernel) rfl rfl (zm_iret (nx := 70) (a := 0) (b := 0) (k := 0) (sw := []) (zq_of (by decide +kernel)) ⟨_, rfl, (h0 z1)⟩))) (fun z1 => (zsw_e (fun z2 => (zm_run [(70, 71, 0, 0, 0, 1, [])] _ _ _ _ [] 71 [(0, .inr 3), (1, .inl v1)] [.inl (1 : Int32)] μ (by decide +kernel) rfl rfl (zm_iret (nx := 72) (a := 0) (b := 0) (k := 0) (sw := []) (zq_of (by decide +kernel)) ⟨_, rfl, (h1 z1 z2)⟩))) (fun z2 => (zsw_e (fun z3 => (zm_run [(72, 73, 27, 0, 0, 0, []), (73, 74, 27, 0, 0, 0, []), (74, 77, 4, 1, 3, 0, []), (77, 78, 1, 1, 0, 0, [])] _ _ _ _ [] 78 [(0, .inr 3), (1, .inl v1)] [.inl v1, .inr 2, .inr 3] μ (by decide +kernel) rfl rfl (by obtain ⟨G, he, hk⟩ := (h2 z1 z2 z3); exact zm_callV (as := [.inr 2, .inl v1]) (rest := [.inr 3]) (P := zpi G) (nx := 81) (a := 33) (b := 2) (k := 2) (sw := []) (zq_of (by decide +kernel)) rfl rfl rfl he (fun _ μ1 hp => by obtain ⟨v, rfl, hp⟩ := hp; exact (zm_V_pick [] rfl (hk v μ1 hp)))))) (fun z3 => (zsw_e (fun z4 => (zm_run [(85, 86, 27, 0, 0, 0, []), (86, 87, 1, 1, 0, 0, []), (87, 88, 0, 0, 0, 0, [])] _ _ _ _ [] 88 [(0, .inr 3), (1, .inl v1)] [.inl (0 : Int32), .inl v1, .inr 3] μ (by decide +kernel) rfl rfl (by obtain ⟨G, he, hk⟩ := (h3 z1 z2 z3 z4); exact zm_callV (as := [.inr 3, .inl v1, .inl (0 : Int32)]) (rest := []) (P := zpi G) (nx := 91) (a := 47) (b := 3) (k := 3) (sw := []) (zq_of (by decide +kernel)) rfl rfl rfl he (fun _ μ1 hp => by obtain ⟨v, rfl, hp⟩ := hp; exact (zm_V_pick [] rfl (hk v μ1 hp)))))) (fun z4 => (zsw_e (fun z5 => (zm_run [(100, 101, 27, 0, 0, 0, []), (101, 102, 1, 1, 0, 0, []), (102, 103, 0, 0, 0, 0, [])] _ _ _ _ [] 103 [(0, .inr 3), (1, .inl v1)] [.inl (0 : Int32), .inl v1, .inr 3] μ (by decide +kernel) rfl rfl (by obtain ⟨G, he, hk⟩ := (h4 z1 z2 z3 z4 z5); exact zm_callV (as := [.inr 3, .inl v1, .inl (0 : Int32)]) (rest := []) (P := zpi G) (nx := 106) (a := 47) (b := 3) (k := 3) (sw := []) (zq_of (by decide +kernel)) rfl rfl rfl he (fun _ μ1 hp => by obtain ⟨v, rfl, hp⟩ := hp; exact (zm_V_pick [] rfl (hk v μ1 hp)))))) (fun z5 => (zsw_e (fun z6 => (zm_run [(214, 215, 27, 0, 0, 0, []), (215, 216, 1, 1, 0, 0, [])] _ _ _ _ [] 216 [(0, .inr 3), (1, .inl v1)] [.inl v1, .inr 3] μ (by decide +kernel) rfl rfl (by obtain ⟨G, he, hk⟩ := (h5 z1 z2 z3 z4 z5 z6); exact zm_callV (as := [.inr 3, .inl v1]) (rest := []) (P := zpi G) (nx := 219) (a := 55) (b := 2) (k := 3) (sw := []) (zq_of (by decide +kernel)) rfl rfl rfl he (fun _ μ1 hp => by obtain ⟨v, rfl, hp⟩ := hp; exact (zm_V_pick [] rfl (hk v μ1 hp)))))) (fun z6 => (zsw_e (fun z7 => (zm_run [(115, 116, 27, 0, 0, 0, []), (116, 119, 4, 0, 3, 0, []), (119, 120, 27, 0, 0, 0, []), (120, 121, 1, 1, 0, 0, []), (121, 122, 0, 0, 0, 0, [])] _ _ _ _ [] 122 [(0, .inr 3), (1, .inl v1)] [.inl (0 : Int32), .inl v1, .inr 3, .inr 1] μ (by decide +kernel) rfl rfl (by obtain ⟨G, he, hk⟩ := (h6 z1 z2 z3 z4 z5 z6 z7); exact zm_callV (as := [.inr 3, .inl v1, .inl (0 : Int32)]) (rest := [.inr 1]) (P := zpi G) (nx := 125) (a := 54) (b := 3) (k := 3) (sw := []) (zq_of (by decide +kernel)) rfl rfl rfl he (fun _ μ1 hp => by obtain ⟨v, rfl, hp⟩ := hp; exact (zm_V_pick [0, 1] rfl (hk v μ1 hp)))))) (fun z7 => (zsw_e (fun z8 => (zm_run [(135, 136, 27, 0, 0, 0, []), (136, 137, 27, 0, 0, 0, []), (137, 138, 1, 1, 0, 0, []), (138, 139, 0, 0, 0, 0, [])] _ _ _ _ [] 139 [(0, .inr 3), (1, .inl v1)] [.inl (0 : Int32), .inl v1, .inr 3, .inr 3] μ (by decide +kernel) rfl rfl (by obtain ⟨G, he, hk⟩ := (h7 z1 z2 z3 z4 z5 z6 z7 z8); exact zm_callV (as := [.inr 3, .inl v1, .inl (0 : Int32)]) (rest := [.inr 3]) (P := zpi G) (nx := 142) (a := 54) (b := 3) (k := 3) (sw := []) (zq_of (by decide +kernel)) rfl rfl rfl he (fun _ μ1 hp => by obtain ⟨v, rfl, hp⟩ := hp; exact (zm_V_pick [] rfl (hk v μ1 hp)))))) (fun z8 => (zsw_e (fun z9 => (zm_run [(146, 147, 27, 0, 0, 0, []), (147, 148, 27, 0, 0, 0, []), (148, 149, 1, 1, 0, 0, []), (149, 150, 0, 0, 0, 0, [])] _ _ _ _ [] 150 [(0, .inr 3), (1, .inl v1)] [.inl (0 : Int32), .inl v1, .inr 3, .inr 3] μ (by decide +kernel) rfl rfl (by obtain ⟨G, he, hk⟩ := (h8 z1 z2 z3 z4 z5 z6 z7 z8 z9); exact zm_callV (as := [.inr 3, .inl v1, .inl (0 : Int32)]) (rest := [.inr 3]) (P := zpi G) (nx := 153) (a := 54) (b := 3) (k := 3) (sw := []) (zq_of (by decide +kernel)) rfl rfl rfl he (fun _ μ1 hp => by obtain ⟨v, rfl, hp⟩ := hp; exact (zm_V_pick [] rfl (hk v μ1 hp)))))) (fun z9 => (zsw_e (fun z10 => (zm_run [(157, 158, 27, 0, 0, 0, []), (158, 159, 27, 0, 0, 0, []), (159, 162, 4, 5, 3, 0, []), (162, 163, 27, 0, 0, 0, []), (163, 164, 27, 0, 0, 0, []), (164, 165, 1, 1, 0, 0, []), (165, 166, 0, 0, 0, 0, [])] _ _ _ _ [] 166 [(0, .inr 3), (1, .inl v1)] [.inl (0 : Int32), .inl v1, .inr 3, .inr 3, .inl (μ 3 5), .inr 3] μ (by decide +kernel) rfl rfl (by obtain ⟨G, he, hk⟩ := (h9 z1 z2 z3 z4 z5 z6 z7 z8 z9 z10); exact zm_callV (as := [.inr 3, .inl v1, .inl (0 : Int32)]) (rest := [.inr 3, .inl (μ 3 5), .inr 3]) (P := zpi G) (nx := 169) (a := 54) (b := 3) (k := 3) (sw := []) (zq_of (by decide +kernel)) rfl rfl rfl he (fun _ μ1 hp => by obtain ⟨v, rfl, hp⟩ := hp; exact (zm_V_pick [] rfl (hk v μ1 hp)))))) (fun z10 => (zsw_e (fun z11 => (zm_run [(177, 178, 27, 0, 0, 0, []), (178, 179, 27, 0, 0, 0, []), (179, 182, 4, 1, 3, 0, []), (182, 183, 1, 1, 0, 0, []), (183, 184, 0, 0, 0, 0, [])] _ _ _ _ [] 184 [(0, .inr 3), (1, .inl v1)] [.inl (0 : Int32), .inl v1, .inr 2, .inr 3] μ (by decide +kernel) rfl rfl (by obtain ⟨G, he, hk⟩ := (h10 z1 z2 z3 z4 z5 z6 z7 z8 z9 z10 z11); exact zm_callV (as := [.inr 2, .inl v1, .inl (0 : Int32)]) (rest := [.inr 3]) (P := zpi G) (nx := 187) (a := 34) (b := 3) (k := 2) (sw := []) (zq_of (by decide +kernel)) rfl rfl rfl he (fun _ μ1 hp => by obtain ⟨v, rfl, hp⟩ := hp; exact (zm_V_pick [0, 1] rfl (hk v μ1 hp)))))) (fun z11 => (zm_run [(214, 215, 27, 0, 0, 0, []), (215, 216, 1, 1, 0, 0, [])] _ _ _ _ [] 216 [(0, .inr 3), (1, .inl v1)] [.inl v1, .inr 3] μ (by decide +kernel) rfl rfl (by obtain ⟨G, he, hk⟩ := (h11 z1 z2 z3 z4 z5 z6 z7 z8 z9 z10 z11); exact zm_callV (as := [.inr 3, .inl v1]) (rest := []) (P := zpi G) (nx := 219) (a := 55) (b := 2) (k := 3) (sw := []) (zq_of (by decide +kernel)) rfl rfl rfl he (fun _ μ1 hp => by obtain ⟨v, rfl, hp⟩ := hp; exact (zm_V_pick [] rfl (hk v μ1 hp))))))))))))))))))))))))))))

theorem k53_81 {X : zm_T} {d : Nat} {s1 : Int32} {μ : zm_u} {P : Int32 → zm_u → Prop}
    (h0 : ∃ G : Int32 → zm_u → Prop, zI X d 57 [.inr 3, .inl s1] μ G ∧ ∀ (r : Int32) (μ1 : zm_u), G r μ1 → zV X d 53 84 [] [.inl r] μ1 (zpi P)) :
    zV X d 53 81 [] [.inl s1, .inr 3] μ (zpi P) :=
  (by obtain ⟨G, he, hk⟩ := h0; exact zm_callV (as := [.inr 3, .inl s1]) (rest := []) (P := zpi G) (nx := 84) (a := 57) (b := 2) (k := 3) (sw := []) (zq_of (by decide +kernel)) rfl rfl rfl he (fun _ μ1 hp => by obtain ⟨v, rfl, hp⟩ := hp; exact (zm_V_pick [] rfl (hk v μ1 hp))))

theorem k53_91 {X : zm_T} {d : Nat} {s0 : Int32} {μ : zm_u} {P : Int32 → zm_u → Prop}
    (h0 : s0 = 0 → P (-1 : Int32) μ)
    (h1 : ¬ (s0 = 0) → P (0 : Int32) μ) :
    zV X d 53 91 [] [.inl s0] μ (zpi P) :=
  (zm_if (nx := 94) (a := 98) (b := 0) (k := 0) (sw := []) (zq_of (by decide +kernel)) (fun z1 => (zm_run [(98, 99, 0, 0, 0, (-1), [])] _ _ _ _ [] 99 [] [.inl (-1 : Int32)] μ (by decide +kernel) rfl rfl (zm_iret (nx := 100) (a := 0) (b := 0) (k := 0) (sw := []) (zq_of (by decide +kernel)) ⟨_, rfl, (h0 (of_decide_eq_true z1))⟩))) (fun z1 => (zm_run [(94, 95, 0, 0, 0, 0, []), (95, 98, 19, 99, 0, 0, [])] _ _ _ _ [] 99 [] [.inl (0 : Int32)] μ (by decide +kernel) rfl rfl (zm_iret (nx := 100) (a := 0) (b := 0) (k := 0) (sw := []) (zq_of (by decide +kernel)) ⟨_, rfl, (h1 (of_decide_eq_false z1))⟩))))

theorem k53_106 {X : zm_T} {d : Nat} {s0 : Int32} {μ : zm_u} {P : Int32 → zm_u → Prop}
    (h0 : s0 = 0 → P (-1 : Int32) μ)
    (h1 : ¬ (s0 = 0) → P (1 : Int32) μ) :
    zV X d 53 106 [] [.inl s0] μ (zpi P) :=
  (zm_if (nx := 109) (a := 113) (b := 0) (k := 0) (sw := []) (zq_of (by decide +kernel)) (fun z1 => (zm_run [(113, 114, 0, 0, 0, (-1), [])] _ _ _ _ [] 114 [] [.inl (-1 : Int32)] μ (by decide +kernel) rfl rfl (zm_iret (nx := 115) (a := 0) (b := 0) (k := 0) (sw := []) (zq_of (by decide +kernel)) ⟨_, rfl, (h0 (of_decide_eq_true z1))⟩))) (fun z1 => (zm_run [(109, 110, 0, 0, 0, 1, []), (110, 113, 19, 114, 0, 0, [])] _ _ _ _ [] 114 [] [.inl (1 : Int32)] μ (by decide +kernel) rfl rfl (zm_iret (nx := 115) (a := 0) (b := 0) (k := 0) (sw := []) (zq_of (by decide +kernel)) ⟨_, rfl, (h1 (of_decide_eq_false z1))⟩))))

theorem k53_219 {X : zm_T} {d : Nat} {s0 : Int32} {μ : zm_u} {P : Int32 → zm_u → Prop}
    (h0 : P s0 μ) :
    zV X d 53 219 [] [.inl s0] μ (zpi P) :=
  (zm_iret (nx := 220) (a := 0) (b := 0) (k := 0) (sw := []) (zq_of (by decide +kernel)) ⟨_, rfl, h0⟩)

theorem k53_125 {X : zm_T} {d : Nat} {s1 v1 : Int32} {μ : zm_u} {P : Int32 → zm_u → Prop}
    (h0 : ∃ G : Int32 → zm_u → Prop, zI X d 54 [.inr 3, .inl v1, .inl (1 : Int32)] μ G ∧ ∀ (r : Int32) (μ1 : zm_u), G r μ1 → zV X d 53 131 [] [.inl r, .inl s1, .inr 1] μ1 (zpi P)) :
    zV X d 53 125 [(0, .inr 3), (1, .inl v1)] [.inl s1, .inr 1] μ (zpi P) :=
  (zm_run [(125, 126, 27, 0, 0, 0, []), (126, 127, 1, 1, 0, 0, []), (127, 128, 0, 0, 0, 1, [])] _ _ _ _ [] 128 [(0, .inr 3), (1, .inl v1)] [.inl (1 : Int32), .inl v1, .inr 3, .inl s1, .inr 1] μ (by decide +kernel) rfl rfl (by obtain ⟨G, he, hk⟩ := h0; exact zm_callV (as := [.inr 3, .inl v1, .inl (1 : Int32)]) (rest := [.inl s1, .inr 1]) (P := zpi G) (nx := 131) (a := 54) (b := 3) (k := 3) (sw := []) (zq_of (by decide +kernel)) rfl rfl rfl he (fun _ μ1 hp => by obtain ⟨v, rfl, hp⟩ := hp; exact (zm_V_pick [] rfl (hk v μ1 hp)))))

theorem k53_142 {X : zm_T} {d : Nat} {s1 : Int32} {μ : zm_u} {P : Int32 → zm_u → Prop}
    (h0 : ∃ G : Int32 → zm_u → Prop, zI X d 59 [.inr 3, .inl s1] μ G ∧ ∀ (r : Int32) (μ1 : zm_u), G r μ1 → zV X d 53 145 [] [.inl r] μ1 (zpi P)) :
    zV X d 53 142 [] [.inl s1, .inr 3] μ (zpi P) :=
  (by obtain ⟨G, he, hk⟩ := h0; exact zm_callV (as := [.inr 3, .inl s1]) (rest := []) (P := zpi G) (nx := 145) (a := 59) (b := 2) (k := 3) (sw := []) (zq_of (by decide +kernel)) rfl rfl rfl he (fun _ μ1 hp => by obtain ⟨v, rfl, hp⟩ := hp; exact (zm_V_pick [] rfl (hk v μ1 hp))))

theorem k53_153 {X : zm_T} {d : Nat} {s1 : Int32} {μ : zm_u} {P : Int32 → zm_u → Prop}
    (h0 : ∃ G : Int32 → zm_u → Prop, zI X d 60 [.inr 3, .inl s1] μ G ∧ ∀ (r : Int32) (μ1 : zm_u), G r μ1 → zV X d 53 156 [] [.inl r] μ1 (zpi P)) :
    zV X d 53 153 [] [.inl s1, .inr 3] μ (zpi P) :=
  (by obtain ⟨G, he, hk⟩ := h0; exact zm_callV (as := [.inr 3, .inl s1]) (rest := []) (P := zpi G) (nx := 156) (a := 60) (b := 2) (k := 3) (sw := []) (zq_of (by decide +kernel)) rfl rfl rfl he (fun _ μ1 hp => by obtain ⟨v, rfl, hp⟩ := hp; exact (zm_V_pick [] rfl (hk v μ1 hp))))

theorem k53_169 {X : zm_T} {d : Nat} {s1 s3 : Int32} {μ : zm_u} {P : Int32 → zm_u → Prop}
    (h0 : ∃ G : Int32 → zm_u → Prop, zI X d 58 [.inr 3, .inl s3] μ G ∧ ∀ (r : Int32) (μ1 : zm_u), G r μ1 → zV X d 53 172 [] [.inl r, .inl s1, .inr 3] μ1 (zpi P)) :
    zV X d 53 169 [] [.inl s3, .inr 3, .inl s1, .inr 3] μ (zpi P) :=
  (by obtain ⟨G, he, hk⟩ := h0; exact zm_callV (as := [.inr 3, .inl s3]) (rest := [.inl s1, .inr 3]) (P := zpi G) (nx := 172) (a := 58) (b := 2) (k := 3) (sw := []) (zq_of (by decide +kernel)) rfl rfl rfl he (fun _ μ1 hp => by obtain ⟨v, rfl, hp⟩ := hp; exact (zm_V_pick [] rfl (hk v μ1 hp))))

theorem k53_187 {X : zm_T} {d : Nat} {s1 v1 : Int32} {μ : zm_u} {P : Int32 → zm_u → Prop}
    (h0 : ∃ G : Int32 → zm_u → Prop, zI X d 33 [.inr 2, .inl v1] μ G ∧ ∀ (r : Int32) (μ1 : zm_u), G r μ1 → zV X d 53 195 [(0, .inr 3), (1, .inl v1)] [.inl r, .inl s1, .inr 3] μ1 (zpi P)) :
    zV X d 53 187 [(0, .inr 3), (1, .inl v1)] [.inl s1, .inr 3] μ (zpi P) :=
  (zm_run [(187, 188, 27, 0, 0, 0, []), (188, 191, 4, 1, 3, 0, []), (191, 192, 1, 1, 0, 0, [])] _ _ _ _ [] 192 [(0, .inr 3), (1, .inl v1)] [.inl v1, .inr 2, .inl s1, .inr 3] μ (by decide +kernel) rfl rfl (by obtain ⟨G, he, hk⟩ := h0; exact zm_callV (as := [.inr 2, .inl v1]) (rest := [.inl s1, .inr 3]) (P := zpi G) (nx := 195) (a := 33) (b := 2) (k := 2) (sw := []) (zq_of (by decide +kernel)) rfl rfl rfl he (fun _ μ1 hp => by obtain ⟨v, rfl, hp⟩ := hp; exact (zm_V_pick [0, 1] rfl (hk v μ1 hp)))))

theorem k53_84 {X : zm_T} {d : Nat} {s0 : Int32} {μ : zm_u} {P : Int32 → zm_u → Prop}
    (h0 : P s0 μ) :
    zV X d 53 84 [] [.inl s0] μ (zpi P) :=
  (zm_iret (nx := 85) (a := 0) (b := 0) (k := 0) (sw := []) (zq_of (by decide +kernel)) ⟨_, rfl, h0⟩)

theorem k53_131 {X : zm_T} {d : Nat} {s1 s2 : Int32} {μ : zm_u} {P : Int32 → zm_u → Prop}
    (h0 : ∃ G : Int32 → zm_u → Prop, zI X d 24 [.inr 1, .inl s1, .inl s2] μ G ∧ ∀ (r : Int32) (μ1 : zm_u), G r μ1 → zV X d 53 134 [] [.inl r] μ1 (zpi P)) :
    zV X d 53 131 [] [.inl s2, .inl s1, .inr 1] μ (zpi P) :=
  (by obtain ⟨G, he, hk⟩ := h0; exact zm_callV (as := [.inr 1, .inl s1, .inl s2]) (rest := []) (P := zpi G) (nx := 134) (a := 24) (b := 3) (k := 1) (sw := []) (zq_of (by decide +kernel)) rfl rfl rfl he (fun _ μ1 hp => by obtain ⟨v, rfl, hp⟩ := hp; exact (zm_V_pick [] rfl (hk v μ1 hp))))

theorem k53_145 {X : zm_T} {d : Nat} {s0 : Int32} {μ : zm_u} {P : Int32 → zm_u → Prop}
    (h0 : P s0 μ) :
    zV X d 53 145 [] [.inl s0] μ (zpi P) :=
  (zm_iret (nx := 146) (a := 0) (b := 0) (k := 0) (sw := []) (zq_of (by decide +kernel)) ⟨_, rfl, h0⟩)

theorem k53_156 {X : zm_T} {d : Nat} {s0 : Int32} {μ : zm_u} {P : Int32 → zm_u → Prop}
    (h0 : P s0 μ) :
    zV X d 53 156 [] [.inl s0] μ (zpi P) :=
  (zm_iret (nx := 157) (a := 0) (b := 0) (k := 0) (sw := []) (zq_of (by decide +kernel)) ⟨_, rfl, h0⟩)

theorem k53_172 {X : zm_T} {d : Nat} {s1 s2 : Int32} {μ : zm_u} {P : Int32 → zm_u → Prop}
    (h0 : ∃ G : Int32 → zm_u → Prop, zI X d 62 [.inr 3, .inl s1, .inl s2, .inl (4 : Int32)] μ G ∧ ∀ (r : Int32) (μ1 : zm_u), G r μ1 → zV X d 53 176 [] [.inl r] μ1 (zpi P)) :
    zV X d 53 172 [] [.inl s2, .inl s1, .inr 3] μ (zpi P) :=
  (zm_run [(172, 173, 0, 0, 0, 4, [])] _ _ _ _ [] 173 [] [.inl (4 : Int32), .inl s2, .inl s1, .inr 3] μ (by decide +kernel) rfl rfl (by obtain ⟨G, he, hk⟩ := h0; exact zm_callV (as := [.inr 3, .inl s1, .inl s2, .inl (4 : Int32)]) (rest := []) (P := zpi G) (nx := 176) (a := 62) (b := 4) (k := 3) (sw := []) (zq_of (by decide +kernel)) rfl rfl rfl he (fun _ μ1 hp => by obtain ⟨v, rfl, hp⟩ := hp; exact (zm_V_pick [] rfl (hk v μ1 hp)))))

theorem k53_195 {X : zm_T} {d : Nat} {s1 s2 v1 : Int32} {μ : zm_u} {P : Int32 → zm_u → Prop}
    (h0 : ∃ G : Int32 → zm_u → Prop, zI X d 46 [.inr 3, .inl s1, .inl s2] μ G ∧ ∀ (r : Int32) (μ1 : zm_u), G r μ1 → zV X d 53 198 [(0, .inr 3), (1, .inl v1)] [.inl r] μ1 (zpi P)) :
    zV X d 53 195 [(0, .inr 3), (1, .inl v1)] [.inl s2, .inl s1, .inr 3] μ (zpi P) :=
  (by obtain ⟨G, he, hk⟩ := h0; exact zm_callV (as := [.inr 3, .inl s1, .inl s2]) (rest := []) (P := zpi G) (nx := 198) (a := 46) (b := 3) (k := 3) (sw := []) (zq_of (by decide +kernel)) rfl rfl rfl he (fun _ μ1 hp => by obtain ⟨v, rfl, hp⟩ := hp; exact (zm_V_pick [0, 1] rfl (hk v μ1 hp))))

theorem k53_134 {X : zm_T} {d : Nat} {s0 : Int32} {μ : zm_u} {P : Int32 → zm_u → Prop}
    (h0 : P s0 μ) :
    zV X d 53 134 [] [.inl s0] μ (zpi P) :=
  (zm_iret (nx := 135) (a := 0) (b := 0) (k := 0) (sw := []) (zq_of (by decide +kernel)) ⟨_, rfl, h0⟩)

theorem k53_176 {X : zm_T} {d : Nat} {s0 : Int32} {μ : zm_u} {P : Int32 → zm_u → Prop}
    (h0 : P s0 μ) :
    zV X d 53 176 [] [.inl s0] μ (zpi P) :=
  (zm_iret (nx := 177) (a := 0) (b := 0) (k := 0) (sw := []) (zq_of (by decide +kernel)) ⟨_, rfl, h0⟩)

theorem k53_198 {X : zm_T} {d : Nat} {s0 v1 : Int32} {μ : zm_u} {P : Int32 → zm_u → Prop}
    (h0 : s0 = 0 → P (-1 : Int32) μ)
    (h1 : ¬ (s0 = 0) → ∃ G : Int32 → zm_u → Prop, zI X d 33 [.inr 2, .inl v1] μ G ∧ ∀ (r : Int32) (μ1 : zm_u), G r μ1 → zV X d 53 209 [] [.inl r] μ1 (zpi P)) :
    zV X d 53 198 [(0, .inr 3), (1, .inl v1)] [.inl s0] μ (zpi P) :=
  (zm_if (nx := 201) (a := 212) (b := 0) (k := 0) (sw := []) (zq_of (by decide +kernel)) (fun z1 => (zm_run [(212, 213, 0, 0, 0, (-1), [])] _ _ _ _ [] 213 [(0, .inr 3), (1, .inl v1)] [.inl (-1 : Int32)] μ (by decide +kernel) rfl rfl (zm_iret (nx := 214) (a := 0) (b := 0) (k := 0) (sw := []) (zq_of (by decide +kernel)) ⟨_, rfl, (h0 (of_decide_eq_true z1))⟩))) (fun z1 => (zm_run [(201, 202, 27, 0, 0, 0, []), (202, 205, 4, 1, 3, 0, []), (205, 206, 1, 1, 0, 0, [])] _ _ _ _ [] 206 [(0, .inr 3), (1, .inl v1)] [.inl v1, .inr 2] μ (by decide +kernel) rfl rfl (by obtain ⟨G, he, hk⟩ := (h1 (of_decide_eq_false z1)); exact zm_callV (as := [.inr 2, .inl v1]) (rest := []) (P := zpi G) (nx := 209) (a := 33) (b := 2) (k := 2) (sw := []) (zq_of (by decide +kernel)) rfl rfl rfl he (fun _ μ1 hp => by obtain ⟨v, rfl, hp⟩ := hp; exact (zm_V_pick [] rfl (hk v μ1 hp)))))))

theorem k53_209 {X : zm_T} {d : Nat} {s0 : Int32} {μ : zm_u} {P : Int32 → zm_u → Prop}
    (h0 : P s0 μ) :
    zV X d 53 209 [] [.inl s0] μ (zpi P) :=
  (zm_run [(209, 212, 19, 213, 0, 0, [])] _ _ _ _ [] 213 [] [.inl s0] μ (by decide +kernel) rfl rfl (zm_iret (nx := 214) (a := 0) (b := 0) (k := 0) (sw := []) (zq_of (by decide +kernel)) ⟨_, rfl, h0⟩))

theorem k54_0 {X : zm_T} {d : Nat} {v1 v2 : Int32} {μ : zm_u} {P : Int32 → zm_u → Prop}
    (h0 : ∃ G : Int32 → zm_u → Prop, zI X d 34 [.inr 2, .inl v1, .inl v2] μ G ∧ ∀ (r : Int32) (μ1 : zm_u), G r μ1 → zV X d 54 10 [] [.inl r, .inr 3] μ1 (zpi P)) :
    zV X d 54 0 [(0, .inr 3), (1, .inl v1), (2, .inl v2)] [] μ (zpi P) :=
  (zm_run [(0, 1, 27, 0, 0, 0, []), (1, 2, 27, 0, 0, 0, []), (2, 5, 4, 1, 3, 0, []), (5, 6, 1, 1, 0, 0, []), (6, 7, 1, 2, 0, 0, [])] _ _ _ _ [] 7 [(0, .inr 3), (1, .inl v1), (2, .inl v2)] [.inl v2, .inl v1, .inr 2, .inr 3] μ (by decide +kernel) rfl rfl (by obtain ⟨G, he, hk⟩ := h0; exact zm_callV (as := [.inr 2, .inl v1, .inl v2]) (rest := [.inr 3]) (P := zpi G) (nx := 10) (a := 34) (b := 3) (k := 2) (sw := []) (zq_of (by decide +kernel)) rfl rfl rfl he (fun _ μ1 hp => by obtain ⟨v, rfl, hp⟩ := hp; exact (zm_V_pick [] rfl (hk v μ1 hp)))))

theorem k54_10 {X : zm_T} {d : Nat} {s1 : Int32} {μ : zm_u} {P : Int32 → zm_u → Prop}
    (h0 : ∃ G : Int32 → zm_u → Prop, zI X d 53 [.inr 3, .inl s1] μ G ∧ ∀ (r : Int32) (μ1 : zm_u), G r μ1 → zV X d 54 13 [] [.inl r] μ1 (zpi P)) :
    zV X d 54 10 [] [.inl s1, .inr 3] μ (zpi P) :=
  (by obtain ⟨G, he, hk⟩ := h0; exact zm_callV (as := [.inr 3, .inl s1]) (rest := []) (P := zpi G) (nx := 13) (a := 53) (b := 2) (k := 3) (sw := []) (zq_of (by decide +kernel)) rfl rfl rfl he (fun _ μ1 hp => by obtain ⟨v, rfl, hp⟩ := hp; exact (zm_V_pick [] rfl (hk v μ1 hp))))

theorem k54_13 {X : zm_T} {d : Nat} {s0 : Int32} {μ : zm_u} {P : Int32 → zm_u → Prop}
    (h0 : P s0 μ) :
    zV X d 54 13 [] [.inl s0] μ (zpi P) :=
  (zm_iret (nx := 14) (a := 0) (b := 0) (k := 0) (sw := []) (zq_of (by decide +kernel)) ⟨_, rfl, h0⟩)

theorem k55_0 {X : zm_T} {d : Nat} {v1 : Int32} {μ : zm_u} {P : Int32 → zm_u → Prop}
    (h0 : ∃ G : Int32 → zm_u → Prop, zI X d 32 [.inr 2, .inl v1] μ G ∧ ∀ (r : Int32) (μ1 : zm_u), G r μ1 → zV X d 55 8 [(0, .inr 3), (1, .inl v1)] [.inl r] μ1 (zpi P)) :
    zV X d 55 0 [(0, .inr 3), (1, .inl v1)] [] μ (zpi P) :=
  (zm_run [(0, 1, 27, 0, 0, 0, []), (1, 4, 4, 1, 3, 0, []), (4, 5, 1, 1, 0, 0, [])] _ _ _ _ [] 5 [(0, .inr 3), (1, .inl v1)] [.inl v1, .inr 2] μ (by decide +kernel) rfl rfl (by obtain ⟨G, he, hk⟩ := h0; exact zm_callV (as := [.inr 2, .inl v1]) (rest := []) (P := zpi G) (nx := 8) (a := 32) (b := 2) (k := 2) (sw := []) (zq_of (by decide +kernel)) rfl rfl rfl he (fun _ μ1 hp => by obtain ⟨v, rfl, hp⟩ := hp; exact (zm_V_pick [0, 1] rfl (hk v μ1 hp)))))

set_option maxRecDepth 100000 in
theorem k55_8 {X : zm_T} {d : Nat} {s0 v1 : Int32} {μ : zm_u} {P : Int32 → zm_u → Prop}
    (h0 : s0 = 11 → ∃ G : Int32 → zm_u → Prop, zI X d 34 [.inr 2, .inl v1, .inl (0 : Int32)] μ G ∧ ∀ (r : Int32) (μ1 : zm_u), G r μ1 → zV X d 55 58 [(0, .inr 3)] [.inl r, .inr 3] μ1 (zpi P))
    (h1 : ¬ s0 = 11 → s0 = 12 → ∃ G : Int32 → zm_u → Prop, zI X d 34 [.inr 2, .inl v1, .inl (0 : Int32)] μ G ∧ ∀ (r : Int32) (μ1 : zm_u), G r μ1 → zV X d 55 88 [(0, .inr 3)] [.inl r, .inr 3] μ1 (zpi P))
    (h2 : ¬ s0 = 11 → ¬ s0 = 12 → s0 = 13 → ∃ G : Int32 → zm_u → Prop, zI X d 25 [.inr 1, .inl (0 : Int32)] μ G ∧ ∀ (r : Int32) (μ1 : zm_u), G r μ1 → zV X d 55 118 [(0, .inr 3)] [.inl r, .inl v1, .inr 3] μ1 (zpi P))
    (h3 : ¬ s0 = 11 → ¬ s0 = 12 → ¬ s0 = 13 → s0 = 14 → ∃ G : Int32 → zm_u → Prop, zI X d 56 [.inr 3, .inl v1] μ G ∧ ∀ (r : Int32) (μ1 : zm_u), G r μ1 → zV X d 55 142 [] [.inl r] μ1 (zpi P))
    (h4 : ¬ s0 = 11 → ¬ s0 = 12 → ¬ s0 = 13 → ¬ s0 = 14 → s0 = 15 → ∃ G : Int32 → zm_u → Prop, zI X d 54 [.inr 3, .inl v1, .inl (0 : Int32)] μ G ∧ ∀ (r : Int32) (μ1 : zm_u), G r μ1 → zV X d 55 158 [(0, .inr 3), (1, .inl v1)] [.inl r, .inr 3, .inr 1, .inr 1] μ1 (zpi P))
    (h5 : ¬ s0 = 11 → ¬ s0 = 12 → ¬ s0 = 13 → ¬ s0 = 14 → ¬ s0 = 15 → s0 = 16 → ∃ G : Int32 → zm_u → Prop, zI X d 54 [.inr 3, .inl v1, .inl (0 : Int32)] μ G ∧ ∀ (r : Int32) (μ1 : zm_u), G r μ1 → zV X d 55 190 [] [.inl r, .inr 3, .inr 3, .inr 1] μ1 (zpi P))
    (h6 : ¬ s0 = 11 → ¬ s0 = 12 → ¬ s0 = 13 → ¬ s0 = 14 → ¬ s0 = 15 → ¬ s0 = 16 → P (-1 : Int32) μ) :
    zV X d 55 8 [(0, .inr 3), (1, .inl v1)] [.inl s0] μ (zpi P) :=
  (zm_switch (nx := 48) (a := 200) (b := 0) (k := 0) (sw := [(11, 48), (12, 78), (13, 108), (14, 137), (15, 143), (16, 178)]) (zq_of (by decide +kernel)) (zsw_e (fun z1 => (zm_run [(48, 49, 27, 0, 0, 0, []), (49, 50, 27, 0, 0, 0, []), (50, 53, 4, 1, 3, 0, []), (53, 54, 1, 1, 0, 0, []), (54, 55, 0, 0, 0, 0, [])] _ _ _ _ [] 55 [(0, .inr 3), (1, .inl v1)] [.inl (0 : Int32), .inl v1, .inr 2, .inr 3] μ (by decide +kernel) rfl rfl (by obtain ⟨G, he, hk⟩ := (h0 z1); exact zm_callV (as := [.inr 2, .inl v1, .inl (0 : Int32)]) (rest := [.inr 3]) (P := zpi G) (nx := 58) (a := 34) (b := 3) (k := 2) (sw := []) (zq_of (by decide +kernel)) rfl rfl rfl he (fun _ μ1 hp => by obtain ⟨v, rfl, hp⟩ := hp; exact (zm_V_pick [0] rfl (hk v μ1 hp)))))) (fun z1 => (zsw_e (fun z2 => (zm_run [(78, 79, 27, 0, 0, 0, []), (79, 80, 27, 0, 0, 0, []), (80, 83, 4, 1, 3, 0, []), (83, 84, 1, 1, 0, 0, []), (84, 85, 0, 0, 0, 0, [])] _ _ _ _ [] 85 [(0, .inr 3), (1, .inl v1)] [.inl (0 : Int32), .inl v1, .inr 2, .inr 3] μ (by decide +kernel) rfl rfl (by obtain ⟨G, he, hk⟩ := (h1 z1 z2); exact zm_callV (as := [.inr 2, .inl v1, .inl (0 : Int32)]) (rest := [.inr 3]) (P := zpi G) (nx := 88) (a := 34) (b := 3) (k := 2) (sw := []) (zq_of (by decide +kernel)) rfl rfl rfl he (fun _ μ1 hp => by obtain ⟨v, rfl, hp⟩ := hp; exact (zm_V_pick [0] rfl (hk v μ1 hp)))))) (fun z2 => (zsw_e (fun z3 => (zm_run [(108, 109, 27, 0, 0, 0, []), (109, 110, 1, 1, 0, 0, []), (110, 111, 27, 0, 0, 0, []), (111, 114, 4, 0, 3, 0, []), (114, 115, 0, 0, 0, 0, [])] _ _ _ _ [] 115 [(0, .inr 3), (1, .inl v1)] [.inl (0 : Int32), .inr 1, .inl v1, .inr 3] μ (by decide +kernel) rfl rfl (by obtain ⟨G, he, hk⟩ := (h2 z1 z2 z3); exact zm_callV (as := [.inr 1, .inl (0 : Int32)]) (rest := [.inl v1, .inr 3]) (P := zpi G) (nx := 118) (a := 25) (b := 2) (k := 1) (sw := []) (zq_of (by decide +kernel)) rfl rfl rfl he (fun _ μ1 hp => by obtain ⟨v, rfl, hp⟩ := hp; exact (zm_V_pick [0] rfl (hk v μ1 hp)))))) (fun z3 => (zsw_e (fun z4 => (zm_run [(137, 138, 27, 0, 0, 0, []), (138, 139, 1, 1, 0, 0, [])] _ _ _ _ [] 139 [(0, .inr 3), (1, .inl v1)] [.inl v1, .inr 3] μ (by decide +kernel) rfl rfl (by obtain ⟨G, he, hk⟩ := (h3 z1 z2 z3 z4); exact zm_callV (as := [.inr 3, .inl v1]) (rest := []) (P := zpi G) (nx := 142) (a := 56) (b := 2) (k := 3) (sw := []) (zq_of (by decide +kernel)) rfl rfl rfl he (fun _ μ1 hp => by obtain ⟨v, rfl, hp⟩ := hp; exact (zm_V_pick [] rfl (hk v μ1 hp)))))) (fun z4 => (zsw_e (fun z5 => (zm_run [(143, 144, 27, 0, 0, 0, []), (144, 147, 4, 0, 3, 0, []), (147, 148, 27, 0, 0, 0, []), (148, 151, 4, 0, 3, 0, []), (151, 152, 27, 0, 0, 0, []), (152, 153, 27, 0, 0, 0, []), (153, 154, 1, 1, 0, 0, []), (154, 155, 0, 0, 0, 0, [])] _ _ _ _ [] 155 [(0, .inr 3), (1, .inl v1)] [.inl (0 : Int32), .inl v1, .inr 3, .inr 3, .inr 1, .inr 1] μ (by decide +kernel) rfl rfl (by obtain ⟨G, he, hk⟩ := (h4 z1 z2 z3 z4 z5); exact zm_callV (as := [.inr 3, .inl v1, .inl (0 : Int32)]) (rest := [.inr 3, .inr 1, .inr 1]) (P := zpi G) (nx := 158) (a := 54) (b := 3) (k := 3) (sw := []) (zq_of (by decide +kernel)) rfl rfl rfl he (fun _ μ1 hp => by obtain ⟨v, rfl, hp⟩ := hp; exact (zm_V_pick [0, 1] rfl (hk v μ1 hp)))))) (fun z5 => (zsw_e (fun z6 => (zm_run [(178, 179, 27, 0, 0, 0, []), (179, 182, 4, 0, 3, 0, []), (182, 183, 27, 0, 0, 0, []), (183, 184, 27, 0, 0, 0, []), (184, 185, 27, 0, 0, 0, []), (185, 186, 1, 1, 0, 0, []), (186, 187, 0, 0, 0, 0, [])] _ _ _ _ [] 187 [(0, .inr 3), (1, .inl v1)] [.inl (0 : Int32), .inl v1, .inr 3, .inr 3, .inr 3, .inr 1] μ (by decide +kernel) rfl rfl (by obtain ⟨G, he, hk⟩ := (h5 z1 z2 z3 z4 z5 z6); exact zm_callV (as := [.inr 3, .inl v1, .inl (0 : Int32)]) (rest := [.inr 3, .inr 3, .inr 1]) (P := zpi G) (nx := 190) (a := 54) (b := 3) (k := 3) (sw := []) (zq_of (by decide +kernel)) rfl rfl rfl he (fun _ μ1 hp => by obtain ⟨v, rfl, hp⟩ := hp; exact (zm_V_pick [] rfl (hk v μ1 hp)))))) (fun z6 => (zm_run [(200, 201, 0, 0, 0, (-1), [])] _ _ _ _ [] 201 [(0, .inr 3), (1, .inl v1)] [.inl (-1 : Int32)] μ (by decide +kernel) rfl rfl (zm_iret (nx := 202) (a := 0) (b := 0) (k := 0) (sw := []) (zq_of (by decide +kernel)) ⟨_, rfl, (h6 z1 z2 z3 z4 z5 z6)⟩)))))))))))))))

theorem k55_58 {X : zm_T} {d : Nat} {s1 : Int32} {μ : zm_u} {P : Int32 → zm_u → Prop}
    (h0 : ∃ G : Int32 → zm_u → Prop, zI X d 46 [.inr 3, .inl s1, .inl (0 : Int32)] μ G ∧ ∀ (r : Int32) (μ1 : zm_u), G r μ1 → zV X d 55 62 [(0, .inr 3)] [.inl r] μ1 (zpi P)) :
    zV X d 55 58 [(0, .inr 3)] [.inl s1, .inr 3] μ (zpi P) :=
  (zm_run [(58, 59, 0, 0, 0, 0, [])] _ _ _ _ [] 59 [(0, .inr 3)] [.inl (0 : Int32), .inl s1, .inr 3] μ (by decide +kernel) rfl rfl (by obtain ⟨G, he, hk⟩ := h0; exact zm_callV (as := [.inr 3, .inl s1, .inl (0 : Int32)]) (rest := []) (P := zpi G) (nx := 62) (a := 46) (b := 3) (k := 3) (sw := []) (zq_of (by decide +kernel)) rfl rfl rfl he (fun _ μ1 hp => by obtain ⟨v, rfl, hp⟩ := hp; exact (zm_V_pick [0] rfl (hk v μ1 hp)))))

theorem k55_88 {X : zm_T} {d : Nat} {s1 : Int32} {μ : zm_u} {P : Int32 → zm_u → Prop}
    (h0 : ∃ G : Int32 → zm_u → Prop, zI X d 46 [.inr 3, .inl s1, .inl (1 : Int32)] μ G ∧ ∀ (r : Int32) (μ1 : zm_u), G r μ1 → zV X d 55 92 [(0, .inr 3)] [.inl r] μ1 (zpi P)) :
    zV X d 55 88 [(0, .inr 3)] [.inl s1, .inr 3] μ (zpi P) :=
  (zm_run [(88, 89, 0, 0, 0, 1, [])] _ _ _ _ [] 89 [(0, .inr 3)] [.inl (1 : Int32), .inl s1, .inr 3] μ (by decide +kernel) rfl rfl (by obtain ⟨G, he, hk⟩ := h0; exact zm_callV (as := [.inr 3, .inl s1, .inl (1 : Int32)]) (rest := []) (P := zpi G) (nx := 92) (a := 46) (b := 3) (k := 3) (sw := []) (zq_of (by decide +kernel)) rfl rfl rfl he (fun _ μ1 hp => by obtain ⟨v, rfl, hp⟩ := hp; exact (zm_V_pick [0] rfl (hk v μ1 hp)))))

theorem k55_118 {X : zm_T} {d : Nat} {s1 s2 : Int32} {μ : zm_u} {P : Int32 → zm_u → Prop}
    (h0 : ∃ G : Int32 → zm_u → Prop, zI X d 47 [.inr 3, .inl s1, .inl s2] μ G ∧ ∀ (r : Int32) (μ1 : zm_u), G r μ1 → zV X d 55 121 [(0, .inr 3)] [.inl r] μ1 (zpi P)) :
    zV X d 55 118 [(0, .inr 3)] [.inl s2, .inl s1, .inr 3] μ (zpi P) :=
  (by obtain ⟨G, he, hk⟩ := h0; exact zm_callV (as := [.inr 3, .inl s1, .inl s2]) (rest := []) (P := zpi G) (nx := 121) (a := 47) (b := 3) (k := 3) (sw := []) (zq_of (by decide +kernel)) rfl rfl rfl he (fun _ μ1 hp => by obtain ⟨v, rfl, hp⟩ := hp; exact (zm_V_pick [0] rfl (hk v μ1 hp))))

theorem k55_142 {X : zm_T} {d : Nat} {s0 : Int32} {μ : zm_u} {P : Int32 → zm_u → Prop}
    (h0 : P s0 μ) :
    zV X d 55 142 [] [.inl s0] μ (zpi P) :=
  (zm_iret (nx := 143) (a := 0) (b := 0) (k := 0) (sw := []) (zq_of (by decide +kernel)) ⟨_, rfl, h0⟩)

theorem k55_158 {X : zm_T} {d : Nat} {s3 v1 : Int32} {μ : zm_u} {P : Int32 → zm_u → Prop}
    (h0 : ∃ G : Int32 → zm_u → Prop, zI X d 58 [.inr 3, .inl s3] μ G ∧ ∀ (r : Int32) (μ1 : zm_u), G r μ1 → zV X d 55 161 [(0, .inr 3), (1, .inl v1)] [.inl r, .inr 1, .inr 1] μ1 (zpi P)) :
    zV X d 55 158 [(0, .inr 3), (1, .inl v1)] [.inl s3, .inr 3, .inr 1, .inr 1] μ (zpi P) :=
  (by obtain ⟨G, he, hk⟩ := h0; exact zm_callV (as := [.inr 3, .inl s3]) (rest := [.inr 1, .inr 1]) (P := zpi G) (nx := 161) (a := 58) (b := 2) (k := 3) (sw := []) (zq_of (by decide +kernel)) rfl rfl rfl he (fun _ μ1 hp => by obtain ⟨v, rfl, hp⟩ := hp; exact (zm_V_pick [0, 1] rfl (hk v μ1 hp))))

theorem k55_190 {X : zm_T} {d : Nat} {s3 : Int32} {μ : zm_u} {P : Int32 → zm_u → Prop}
    (h0 : ∃ G : Int32 → zm_u → Prop, zI X d 58 [.inr 3, .inl s3] μ G ∧ ∀ (r : Int32) (μ1 : zm_u), G r μ1 → zV X d 55 193 [] [.inl r, .inr 3, .inr 1] μ1 (zpi P)) :
    zV X d 55 190 [] [.inl s3, .inr 3, .inr 3, .inr 1] μ (zpi P) :=
  (by obtain ⟨G, he, hk⟩ := h0; exact zm_callV (as := [.inr 3, .inl s3]) (rest := [.inr 3, .inr 1]) (P := zpi G) (nx := 193) (a := 58) (b := 2) (k := 3) (sw := []) (zq_of (by decide +kernel)) rfl rfl rfl he (fun _ μ1 hp => by obtain ⟨v, rfl, hp⟩ := hp; exact (zm_V_pick [] rfl (hk v μ1 hp))))

theorem k55_62 {X : zm_T} {d : Nat} {s0 : Int32} {μ : zm_u} {P : Int32 → zm_u → Prop}
    (h0 : s0 = 0 → P (-1 : Int32) μ)
    (h1 : ¬ (s0 = 0) → ∃ G : Int32 → zm_u → Prop, zI X d 25 [.inr 1, .inl (0 : Int32)] μ G ∧ ∀ (r : Int32) (μ1 : zm_u), G r μ1 → zV X d 55 73 [] [.inl r] μ1 (zpi P)) :
    zV X d 55 62 [(0, .inr 3)] [.inl s0] μ (zpi P) :=
  (zm_if (nx := 65) (a := 76) (b := 0) (k := 0) (sw := []) (zq_of (by decide +kernel)) (fun z1 => (zm_run [(76, 77, 0, 0, 0, (-1), [])] _ _ _ _ [] 77 [(0, .inr 3)] [.inl (-1 : Int32)] μ (by decide +kernel) rfl rfl (zm_iret (nx := 78) (a := 0) (b := 0) (k := 0) (sw := []) (zq_of (by decide +kernel)) ⟨_, rfl, (h0 (of_decide_eq_true z1))⟩))) (fun z1 => (zm_run [(65, 66, 27, 0, 0, 0, []), (66, 69, 4, 0, 3, 0, []), (69, 70, 0, 0, 0, 0, [])] _ _ _ _ [] 70 [(0, .inr 3)] [.inl (0 : Int32), .inr 1] μ (by decide +kernel) rfl rfl (by obtain ⟨G, he, hk⟩ := (h1 (of_decide_eq_false z1)); exact zm_callV (as := [.inr 1, .inl (0 : Int32)]) (rest := []) (P := zpi G) (nx := 73) (a := 25) (b := 2) (k := 1) (sw := []) (zq_of (by decide +kernel)) rfl rfl rfl he (fun _ μ1 hp => by obtain ⟨v, rfl, hp⟩ := hp; exact (zm_V_pick [] rfl (hk v μ1 hp)))))))

theorem k55_92 {X : zm_T} {d : Nat} {s0 : Int32} {μ : zm_u} {P : Int32 → zm_u → Prop}
    (h0 : s0 = 0 → P (-1 : Int32) μ)
    (h1 : ¬ (s0 = 0) → ∃ G : Int32 → zm_u → Prop, zI X d 25 [.inr 1, .inl (1 : Int32)] μ G ∧ ∀ (r : Int32) (μ1 : zm_u), G r μ1 → zV X d 55 103 [] [.inl r] μ1 (zpi P)) :
    zV X d 55 92 [(0, .inr 3)] [.inl s0] μ (zpi P) :=
  (zm_if (nx := 95) (a := 106) (b := 0) (k := 0) (sw := []) (zq_of (by decide +kernel)) (fun z1 => (zm_run [(106, 107, 0, 0, 0, (-1), [])] _ _ _ _ [] 107 [(0, .inr 3)] [.inl (-1 : Int32)] μ (by decide +kernel) rfl rfl (zm_iret (nx := 108) (a := 0) (b := 0) (k := 0) (sw := []) (zq_of (by decide +kernel)) ⟨_, rfl, (h0 (of_decide_eq_true z1))⟩))) (fun z1 => (zm_run [(95, 96, 27, 0, 0, 0, []), (96, 99, 4, 0, 3, 0, []), (99, 100, 0, 0, 0, 1, [])] _ _ _ _ [] 100 [(0, .inr 3)] [.inl (1 : Int32), .inr 1] μ (by decide +kernel) rfl rfl (by obtain ⟨G, he, hk⟩ := (h1 (of_decide_eq_false z1)); exact zm_callV (as := [.inr 1, .inl (1 : Int32)]) (rest := []) (P := zpi G) (nx := 103) (a := 25) (b := 2) (k := 1) (sw := []) (zq_of (by decide +kernel)) rfl rfl rfl he (fun _ μ1 hp => by obtain ⟨v, rfl, hp⟩ := hp; exact (zm_V_pick [] rfl (hk v μ1 hp)))))))

theorem k55_121 {X : zm_T} {d : Nat} {s0 : Int32} {μ : zm_u} {P : Int32 → zm_u → Prop}
    (h0 : s0 = 0 → P (-1 : Int32) μ)
    (h1 : ¬ (s0 = 0) → ∃ G : Int32 → zm_u → Prop, zI X d 25 [.inr 1, .inl (0 : Int32)] μ G ∧ ∀ (r : Int32) (μ1 : zm_u), G r μ1 → zV X d 55 132 [] [.inl r] μ1 (zpi P)) :
    zV X d 55 121 [(0, .inr 3)] [.inl s0] μ (zpi P) :=
  (zm_if (nx := 124) (a := 135) (b := 0) (k := 0) (sw := []) (zq_of (by decide +kernel)) (fun z1 => (zm_run [(135, 136, 0, 0, 0, (-1), [])] _ _ _ _ [] 136 [(0, .inr 3)] [.inl (-1 : Int32)] μ (by decide +kernel) rfl rfl (zm_iret (nx := 137) (a := 0) (b := 0) (k := 0) (sw := []) (zq_of (by decide +kernel)) ⟨_, rfl, (h0 (of_decide_eq_true z1))⟩))) (fun z1 => (zm_run [(124, 125, 27, 0, 0, 0, []), (125, 128, 4, 0, 3, 0, []), (128, 129, 0, 0, 0, 0, [])] _ _ _ _ [] 129 [(0, .inr 3)] [.inl (0 : Int32), .inr 1] μ (by decide +kernel) rfl rfl (by obtain ⟨G, he, hk⟩ := (h1 (of_decide_eq_false z1)); exact zm_callV (as := [.inr 1, .inl (0 : Int32)]) (rest := []) (P := zpi G) (nx := 132) (a := 25) (b := 2) (k := 1) (sw := []) (zq_of (by decide +kernel)) rfl rfl rfl he (fun _ μ1 hp => by obtain ⟨v, rfl, hp⟩ := hp; exact (zm_V_pick [] rfl (hk v μ1 hp)))))))

theorem k55_161 {X : zm_T} {d : Nat} {s2 v1 : Int32} {μ : zm_u} {P : Int32 → zm_u → Prop}
    (h0 : ∃ G : Int32 → zm_u → Prop, zI X d 54 [.inr 3, .inl v1, .inl (1 : Int32)] μ G ∧ ∀ (r : Int32) (μ1 : zm_u), G r μ1 → zV X d 55 168 [] [.inl r, .inr 3, .inl s2, .inr 1, .inr 1] μ1 (zpi P)) :
    zV X d 55 161 [(0, .inr 3), (1, .inl v1)] [.inl s2, .inr 1, .inr 1] μ (zpi P) :=
  (zm_run [(161, 162, 27, 0, 0, 0, []), (162, 163, 27, 0, 0, 0, []), (163, 164, 1, 1, 0, 0, []), (164, 165, 0, 0, 0, 1, [])] _ _ _ _ [] 165 [(0, .inr 3), (1, .inl v1)] [.inl (1 : Int32), .inl v1, .inr 3, .inr 3, .inl s2, .inr 1, .inr 1] μ (by decide +kernel) rfl rfl (by obtain ⟨G, he, hk⟩ := h0; exact zm_callV (as := [.inr 3, .inl v1, .inl (1 : Int32)]) (rest := [.inr 3, .inl s2, .inr 1, .inr 1]) (P := zpi G) (nx := 168) (a := 54) (b := 3) (k := 3) (sw := []) (zq_of (by decide +kernel)) rfl rfl rfl he (fun _ μ1 hp => by obtain ⟨v, rfl, hp⟩ := hp; exact (zm_V_pick [] rfl (hk v μ1 hp)))))

theorem k55_193 {X : zm_T} {d : Nat} {s2 : Int32} {μ : zm_u} {P : Int32 → zm_u → Prop}
    (h0 : ∃ G : Int32 → zm_u → Prop, zI X d 59 [.inr 3, .inl s2] μ G ∧ ∀ (r : Int32) (μ1 : zm_u), G r μ1 → zV X d 55 196 [] [.inl r, .inr 1] μ1 (zpi P)) :
    zV X d 55 193 [] [.inl s2, .inr 3, .inr 1] μ (zpi P) :=
  (by obtain ⟨G, he, hk⟩ := h0; exact zm_callV (as := [.inr 3, .inl s2]) (rest := [.inr 1]) (P := zpi G) (nx := 196) (a := 59) (b := 2) (k := 3) (sw := []) (zq_of (by decide +kernel)) rfl rfl rfl he (fun _ μ1 hp => by obtain ⟨v, rfl, hp⟩ := hp; exact (zm_V_pick [] rfl (hk v μ1 hp))))

theorem k55_73 {X : zm_T} {d : Nat} {s0 : Int32} {μ : zm_u} {P : Int32 → zm_u → Prop}
    (h0 : P s0 μ) :
    zV X d 55 73 [] [.inl s0] μ (zpi P) :=
  (zm_run [(73, 76, 19, 77, 0, 0, [])] _ _ _ _ [] 77 [] [.inl s0] μ (by decide +kernel) rfl rfl (zm_iret (nx := 78) (a := 0) (b := 0) (k := 0) (sw := []) (zq_of (by decide +kernel)) ⟨_, rfl, h0⟩))

theorem k55_103 {X : zm_T} {d : Nat} {s0 : Int32} {μ : zm_u} {P : Int32 → zm_u → Prop}
    (h0 : P s0 μ) :
    zV X d 55 103 [] [.inl s0] μ (zpi P) :=
  (zm_run [(103, 106, 19, 107, 0, 0, [])] _ _ _ _ [] 107 [] [.inl s0] μ (by decide +kernel) rfl rfl (zm_iret (nx := 108) (a := 0) (b := 0) (k := 0) (sw := []) (zq_of (by decide +kernel)) ⟨_, rfl, h0⟩))

theorem k55_132 {X : zm_T} {d : Nat} {s0 : Int32} {μ : zm_u} {P : Int32 → zm_u → Prop}
    (h0 : P s0 μ) :
    zV X d 55 132 [] [.inl s0] μ (zpi P) :=
  (zm_run [(132, 135, 19, 136, 0, 0, [])] _ _ _ _ [] 136 [] [.inl s0] μ (by decide +kernel) rfl rfl (zm_iret (nx := 137) (a := 0) (b := 0) (k := 0) (sw := []) (zq_of (by decide +kernel)) ⟨_, rfl, h0⟩))

theorem k55_168 {X : zm_T} {d : Nat} {s2 s4 : Int32} {μ : zm_u} {P : Int32 → zm_u → Prop}
    (h0 : ∃ G : Int32 → zm_u → Prop, zI X d 58 [.inr 3, .inl s4] μ G ∧ ∀ (r : Int32) (μ1 : zm_u), G r μ1 → zV X d 55 171 [] [.inl r, .inl s2, .inr 1, .inr 1] μ1 (zpi P)) :
    zV X d 55 168 [] [.inl s4, .inr 3, .inl s2, .inr 1, .inr 1] μ (zpi P) :=
  (by obtain ⟨G, he, hk⟩ := h0; exact zm_callV (as := [.inr 3, .inl s4]) (rest := [.inl s2, .inr 1, .inr 1]) (P := zpi G) (nx := 171) (a := 58) (b := 2) (k := 3) (sw := []) (zq_of (by decide +kernel)) rfl rfl rfl he (fun _ μ1 hp => by obtain ⟨v, rfl, hp⟩ := hp; exact (zm_V_pick [] rfl (hk v μ1 hp))))

theorem k55_196 {X : zm_T} {d : Nat} {s1 : Int32} {μ : zm_u} {P : Int32 → zm_u → Prop}
    (h0 : ∃ G : Int32 → zm_u → Prop, zI X d 25 [.inr 1, .inl s1] μ G ∧ ∀ (r : Int32) (μ1 : zm_u), G r μ1 → zV X d 55 199 [] [.inl r] μ1 (zpi P)) :
    zV X d 55 196 [] [.inl s1, .inr 1] μ (zpi P) :=
  (by obtain ⟨G, he, hk⟩ := h0; exact zm_callV (as := [.inr 1, .inl s1]) (rest := []) (P := zpi G) (nx := 199) (a := 25) (b := 2) (k := 1) (sw := []) (zq_of (by decide +kernel)) rfl rfl rfl he (fun _ μ1 hp => by obtain ⟨v, rfl, hp⟩ := hp; exact (zm_V_pick [] rfl (hk v μ1 hp))))

theorem k55_171 {X : zm_T} {d : Nat} {s2 s3 : Int32} {μ : zm_u} {P : Int32 → zm_u → Prop}
    (h0 : ∃ G : Int32 → zm_u → Prop, zI X d 24 [.inr 1, .inl s2, .inl s3] μ G ∧ ∀ (r : Int32) (μ1 : zm_u), G r μ1 → zV X d 55 174 [] [.inl r, .inr 1] μ1 (zpi P)) :
    zV X d 55 171 [] [.inl s3, .inl s2, .inr 1, .inr 1] μ (zpi P) :=
  (by obtain ⟨G, he, hk⟩ := h0; exact zm_callV (as := [.inr 1, .inl s2, .inl s3]) (rest := [.inr 1]) (P := zpi G) (nx := 174) (a := 24) (b := 3) (k := 1) (sw := []) (zq_of (by decide +kernel)) rfl rfl rfl he (fun _ μ1 hp => by obtain ⟨v, rfl, hp⟩ := hp; exact (zm_V_pick [] rfl (hk v μ1 hp))))

theorem k55_199 {X : zm_T} {d : Nat} {s0 : Int32} {μ : zm_u} {P : Int32 → zm_u → Prop}
    (h0 : P s0 μ) :
    zV X d 55 199 [] [.inl s0] μ (zpi P) :=
  (zm_iret (nx := 200) (a := 0) (b := 0) (k := 0) (sw := []) (zq_of (by decide +kernel)) ⟨_, rfl, h0⟩)

theorem k55_174 {X : zm_T} {d : Nat} {s1 : Int32} {μ : zm_u} {P : Int32 → zm_u → Prop}
    (h0 : ∃ G : Int32 → zm_u → Prop, zI X d 25 [.inr 1, .inl s1] μ G ∧ ∀ (r : Int32) (μ1 : zm_u), G r μ1 → zV X d 55 177 [] [.inl r] μ1 (zpi P)) :
    zV X d 55 174 [] [.inl s1, .inr 1] μ (zpi P) :=
  (by obtain ⟨G, he, hk⟩ := h0; exact zm_callV (as := [.inr 1, .inl s1]) (rest := []) (P := zpi G) (nx := 177) (a := 25) (b := 2) (k := 1) (sw := []) (zq_of (by decide +kernel)) rfl rfl rfl he (fun _ μ1 hp => by obtain ⟨v, rfl, hp⟩ := hp; exact (zm_V_pick [] rfl (hk v μ1 hp))))

theorem k55_177 {X : zm_T} {d : Nat} {s0 : Int32} {μ : zm_u} {P : Int32 → zm_u → Prop}
    (h0 : P s0 μ) :
    zV X d 55 177 [] [.inl s0] μ (zpi P) :=
  (zm_iret (nx := 178) (a := 0) (b := 0) (k := 0) (sw := []) (zq_of (by decide +kernel)) ⟨_, rfl, h0⟩)

theorem k56_0 {X : zm_T} {d : Nat} {v1 : Int32} {μ : zm_u} {P : Int32 → zm_u → Prop}
    (h0 : ∃ G : Int32 → zm_u → Prop, zI X d 54 [.inr 3, .inl v1, .inl (1 : Int32)] μ G ∧ ∀ (r : Int32) (μ1 : zm_u), G r μ1 → zV X d 56 11 [(0, .inr 3), (1, .inl v1)] [.inl r, .inr 3, .inr 1] μ1 (zpi P)) :
    zV X d 56 0 [(0, .inr 3), (1, .inl v1)] [] μ (zpi P) :=
  (zm_run [(0, 1, 27, 0, 0, 0, []), (1, 4, 4, 0, 3, 0, []), (4, 5, 27, 0, 0, 0, []), (5, 6, 27, 0, 0, 0, []), (6, 7, 1, 1, 0, 0, []), (7, 8, 0, 0, 0, 1, [])] _ _ _ _ [] 8 [(0, .inr 3), (1, .inl v1)] [.inl (1 : Int32), .inl v1, .inr 3, .inr 3, .inr 1] μ (by decide +kernel) rfl rfl (by obtain ⟨G, he, hk⟩ := h0; exact zm_callV (as := [.inr 3, .inl v1, .inl (1 : Int32)]) (rest := [.inr 3, .inr 1]) (P := zpi G) (nx := 11) (a := 54) (b := 3) (k := 3) (sw := []) (zq_of (by decide +kernel)) rfl rfl rfl he (fun _ μ1 hp => by obtain ⟨v, rfl, hp⟩ := hp; exact (zm_V_pick [0, 1] rfl (hk v μ1 hp)))))

theorem k56_11 {X : zm_T} {d : Nat} {s2 v1 : Int32} {μ : zm_u} {P : Int32 → zm_u → Prop}
    (h0 : ∃ G : Int32 → zm_u → Prop, zI X d 58 [.inr 3, .inl s2] μ G ∧ ∀ (r : Int32) (μ1 : zm_u), G r μ1 → zV X d 56 14 [(0, .inr 3), (1, .inl v1)] [.inl r, .inr 1] μ1 (zpi P)) :
    zV X d 56 11 [(0, .inr 3), (1, .inl v1)] [.inl s2, .inr 3, .inr 1] μ (zpi P) :=
  (by obtain ⟨G, he, hk⟩ := h0; exact zm_callV (as := [.inr 3, .inl s2]) (rest := [.inr 1]) (P := zpi G) (nx := 14) (a := 58) (b := 2) (k := 3) (sw := []) (zq_of (by decide +kernel)) rfl rfl rfl he (fun _ μ1 hp => by obtain ⟨v, rfl, hp⟩ := hp; exact (zm_V_pick [0, 1] rfl (hk v μ1 hp))))

theorem k56_14 {X : zm_T} {d : Nat} {s1 v1 : Int32} {μ : zm_u} {P : Int32 → zm_u → Prop}
    (h0 : ∃ G : Int32 → zm_u → Prop, zI X d 25 [.inr 1, .inl s1] μ G ∧ ∀ (r : Int32) (μ1 : zm_u), G r μ1 → zV X d 56 17 [(0, .inr 3), (1, .inl v1)] [.inl r] μ1 (zpi P)) :
    zV X d 56 14 [(0, .inr 3), (1, .inl v1)] [.inl s1, .inr 1] μ (zpi P) :=
  (by obtain ⟨G, he, hk⟩ := h0; exact zm_callV (as := [.inr 1, .inl s1]) (rest := []) (P := zpi G) (nx := 17) (a := 25) (b := 2) (k := 1) (sw := []) (zq_of (by decide +kernel)) rfl rfl rfl he (fun _ μ1 hp => by obtain ⟨v, rfl, hp⟩ := hp; exact (zm_V_pick [0, 1] rfl (hk v μ1 hp))))

theorem k56_17 {X : zm_T} {d : Nat} {s0 v1 : Int32} {μ : zm_u} {P : Int32 → zm_u → Prop}
    (h0 : ¬ s0 = (-1 : Int32) → ∃ G : Int32 → zm_u → Prop, zI X d 34 [.inr 2, .inl v1, .inl (0 : Int32)] μ G ∧ ∀ (r : Int32) (μ1 : zm_u), G r μ1 → zV X d 56 35 [(0, .inr 3), (1, .inl v1), (2, .inl s0)] [.inl r, .inr 3] μ1 (zpi P))
    (h1 : s0 = (-1 : Int32) → P (-1 : Int32) μ) :
    zV X d 56 17 [(0, .inr 3), (1, .inl v1)] [.inl s0] μ (zpi P) :=
  (zm_run [(17, 18, 2, 2, 0, 0, []), (18, 19, 1, 2, 0, 0, []), (19, 20, 0, 0, 0, (-1), [])] _ _ _ _ [] 20 [(0, .inr 3), (1, .inl v1), (2, .inl s0)] [.inl (-1 : Int32), .inl s0] μ (by decide +kernel) rfl rfl (zm_icmp (nx := 23) (a := 25) (b := 1) (k := 0) (sw := []) (zq_of (by decide +kernel)) (fun z1 => (zm_run [(25, 26, 27, 0, 0, 0, []), (26, 27, 27, 0, 0, 0, []), (27, 30, 4, 1, 3, 0, []), (30, 31, 1, 1, 0, 0, []), (31, 32, 0, 0, 0, 0, [])] _ _ _ _ [] 32 [(0, .inr 3), (1, .inl v1), (2, .inl s0)] [.inl (0 : Int32), .inl v1, .inr 2, .inr 3] μ (by decide +kernel) rfl rfl (by obtain ⟨G, he, hk⟩ := (h0 (of_decide_eq_true z1)); exact zm_callV (as := [.inr 2, .inl v1, .inl (0 : Int32)]) (rest := [.inr 3]) (P := zpi G) (nx := 35) (a := 34) (b := 3) (k := 2) (sw := []) (zq_of (by decide +kernel)) rfl rfl rfl he (fun _ μ1 hp => by obtain ⟨v, rfl, hp⟩ := hp; exact (zm_V_pick [0, 1, 2] rfl (hk v μ1 hp)))))) (fun z1 => (zm_run [(23, 24, 0, 0, 0, (-1), [])] _ _ _ _ [] 24 [(0, .inr 3), (1, .inl v1), (2, .inl s0)] [.inl (-1 : Int32)] μ (by decide +kernel) rfl rfl (zm_iret (nx := 25) (a := 0) (b := 0) (k := 0) (sw := []) (zq_of (by decide +kernel)) ⟨_, rfl, (h1 (Classical.byContradiction fun w => (of_decide_eq_false z1) w))⟩)))))

theorem k56_35 {X : zm_T} {d : Nat} {s1 v1 v2 : Int32} {μ : zm_u} {P : Int32 → zm_u → Prop}
    (h0 : ∃ G : Int32 → zm_u → Prop, zI X d 25 [.inr 1, .inl (1 : Int32)] μ G ∧ ∀ (r : Int32) (μ1 : zm_u), G r μ1 → zV X d 56 43 [(0, .inr 3), (1, .inl v1), (2, .inl v2)] [.inl r, .inl s1, .inr 3] μ1 (zpi P)) :
    zV X d 56 35 [(0, .inr 3), (1, .inl v1), (2, .inl v2)] [.inl s1, .inr 3] μ (zpi P) :=
  (zm_run [(35, 36, 27, 0, 0, 0, []), (36, 39, 4, 0, 3, 0, []), (39, 40, 0, 0, 0, 1, [])] _ _ _ _ [] 40 [(0, .inr 3), (1, .inl v1), (2, .inl v2)] [.inl (1 : Int32), .inr 1, .inl s1, .inr 3] μ (by decide +kernel) rfl rfl (by obtain ⟨G, he, hk⟩ := h0; exact zm_callV (as := [.inr 1, .inl (1 : Int32)]) (rest := [.inl s1, .inr 3]) (P := zpi G) (nx := 43) (a := 25) (b := 2) (k := 1) (sw := []) (zq_of (by decide +kernel)) rfl rfl rfl he (fun _ μ1 hp => by obtain ⟨v, rfl, hp⟩ := hp; exact (zm_V_pick [0, 1, 2] rfl (hk v μ1 hp)))))

theorem k56_43 {X : zm_T} {d : Nat} {s1 s2 v1 v2 : Int32} {μ : zm_u} {P : Int32 → zm_u → Prop}
    (h0 : ∃ G : Int32 → zm_u → Prop, zI X d 46 [.inr 3, .inl s1, .inl s2] μ G ∧ ∀ (r : Int32) (μ1 : zm_u), G r μ1 → zV X d 56 46 [(0, .inr 3), (1, .inl v1), (2, .inl v2)] [.inl r] μ1 (zpi P)) :
    zV X d 56 43 [(0, .inr 3), (1, .inl v1), (2, .inl v2)] [.inl s2, .inl s1, .inr 3] μ (zpi P) :=
  (by obtain ⟨G, he, hk⟩ := h0; exact zm_callV (as := [.inr 3, .inl s1, .inl s2]) (rest := []) (P := zpi G) (nx := 46) (a := 46) (b := 3) (k := 3) (sw := []) (zq_of (by decide +kernel)) rfl rfl rfl he (fun _ μ1 hp => by obtain ⟨v, rfl, hp⟩ := hp; exact (zm_V_pick [0, 1, 2] rfl (hk v μ1 hp))))

theorem k56_46 {X : zm_T} {d : Nat} {s0 v1 v2 : Int32} {μ : zm_u} {P : Int32 → zm_u → Prop}
    (h0 : s0 = 0 → zV X d 56 70 [(2, .inl v2)] [] μ (zpi P))
    (h1 : ¬ (s0 = 0) → ∃ G : Int32 → zm_u → Prop, zI X d 34 [.inr 2, .inl v1, .inl (2 : Int32)] μ G ∧ ∀ (r : Int32) (μ1 : zm_u), G r μ1 → zV X d 56 59 [(2, .inl v2)] [.inl r, .inr 3] μ1 (zpi P)) :
    zV X d 56 46 [(0, .inr 3), (1, .inl v1), (2, .inl v2)] [.inl s0] μ (zpi P) :=
  (zm_if (nx := 49) (a := 70) (b := 0) (k := 0) (sw := []) (zq_of (by decide +kernel)) (fun z1 => (zm_V_pick [2] rfl (h0 (of_decide_eq_true z1)))) (fun z1 => (zm_run [(49, 50, 27, 0, 0, 0, []), (50, 51, 27, 0, 0, 0, []), (51, 54, 4, 1, 3, 0, []), (54, 55, 1, 1, 0, 0, []), (55, 56, 0, 0, 0, 2, [])] _ _ _ _ [] 56 [(0, .inr 3), (1, .inl v1), (2, .inl v2)] [.inl (2 : Int32), .inl v1, .inr 2, .inr 3] μ (by decide +kernel) rfl rfl (by obtain ⟨G, he, hk⟩ := (h1 (of_decide_eq_false z1)); exact zm_callV (as := [.inr 2, .inl v1, .inl (2 : Int32)]) (rest := [.inr 3]) (P := zpi G) (nx := 59) (a := 34) (b := 3) (k := 2) (sw := []) (zq_of (by decide +kernel)) rfl rfl rfl he (fun _ μ1 hp => by obtain ⟨v, rfl, hp⟩ := hp; exact (zm_V_pick [2] rfl (hk v μ1 hp)))))))

theorem k56_70 {X : zm_T} {d : Nat} {v2 : Int32} {μ : zm_u} {P : Int32 → zm_u → Prop}
    (h0 : zV X d 56 71 [(2, .inl v2)] [.inl (0 : Int32)] μ (zpi P)) :
    zV X d 56 70 [(2, .inl v2)] [] μ (zpi P) :=
  (zm_run [(70, 71, 0, 0, 0, 0, [])] _ _ _ _ [] 71 [(2, .inl v2)] [.inl (0 : Int32)] μ (by decide +kernel) rfl rfl (zm_V_pick [2] rfl h0))

theorem k56_59 {X : zm_T} {d : Nat} {s1 v2 : Int32} {μ : zm_u} {P : Int32 → zm_u → Prop}
    (h0 : ∃ G : Int32 → zm_u → Prop, zI X d 46 [.inr 3, .inl s1, .inl v2] μ G ∧ ∀ (r : Int32) (μ1 : zm_u), G r μ1 → zV X d 56 63 [(2, .inl v2)] [.inl r] μ1 (zpi P)) :
    zV X d 56 59 [(2, .inl v2)] [.inl s1, .inr 3] μ (zpi P) :=
  (zm_run [(59, 60, 1, 2, 0, 0, [])] _ _ _ _ [] 60 [(2, .inl v2)] [.inl v2, .inl s1, .inr 3] μ (by decide +kernel) rfl rfl (by obtain ⟨G, he, hk⟩ := h0; exact zm_callV (as := [.inr 3, .inl s1, .inl v2]) (rest := []) (P := zpi G) (nx := 63) (a := 46) (b := 3) (k := 3) (sw := []) (zq_of (by decide +kernel)) rfl rfl rfl he (fun _ μ1 hp => by obtain ⟨v, rfl, hp⟩ := hp; exact (zm_V_pick [2] rfl (hk v μ1 hp)))))

theorem k56_71 {X : zm_T} {d : Nat} {s0 v2 : Int32} {μ : zm_u} {P : Int32 → zm_u → Prop}
    (h0 : s0 = 0 → P (-1 : Int32) μ)
    (h1 : ¬ (s0 = 0) → P v2 μ) :
    zV X d 56 71 [(2, .inl v2)] [.inl s0] μ (zpi P) :=
  (zm_run [(71, 72, 2, 3, 0, 0, []), (72, 73, 1, 3, 0, 0, [])] _ _ _ _ [] 73 [(2, .inl v2), (3, .inl s0)] [.inl s0] μ (by decide +kernel) rfl rfl (zm_if (nx := 76) (a := 80) (b := 0) (k := 0) (sw := []) (zq_of (by decide +kernel)) (fun z1 => (zm_run [(80, 81, 0, 0, 0, (-1), [])] _ _ _ _ [] 81 [(2, .inl v2), (3, .inl s0)] [.inl (-1 : Int32)] μ (by decide +kernel) rfl rfl (zm_iret (nx := 82) (a := 0) (b := 0) (k := 0) (sw := []) (zq_of (by decide +kernel)) ⟨_, rfl, (h0 (of_decide_eq_true z1))⟩))) (fun z1 => (zm_run [(76, 77, 1, 2, 0, 0, []), (77, 80, 19, 81, 0, 0, [])] _ _ _ _ [] 81 [(2, .inl v2), (3, .inl s0)] [.inl v2] μ (by decide +kernel) rfl rfl (zm_iret (nx := 82) (a := 0) (b := 0) (k := 0) (sw := []) (zq_of (by decide +kernel)) ⟨_, rfl, (h1 (of_decide_eq_false z1))⟩)))))

theorem k56_63 {X : zm_T} {d : Nat} {s0 v2 : Int32} {μ : zm_u} {P : Int32 → zm_u → Prop}
    (h0 : s0 = 0 → zV X d 56 70 [(2, .inl v2)] [] μ (zpi P))
    (h1 : ¬ (s0 = 0) → zV X d 56 71 [(2, .inl v2)] [.inl (1 : Int32)] μ (zpi P)) :
    zV X d 56 63 [(2, .inl v2)] [.inl s0] μ (zpi P) :=
  (zm_if (nx := 66) (a := 70) (b := 0) (k := 0) (sw := []) (zq_of (by decide +kernel)) (fun z1 => (zm_V_pick [2] rfl (h0 (of_decide_eq_true z1)))) (fun z1 => (zm_run [(66, 67, 0, 0, 0, 1, []), (67, 70, 19, 71, 0, 0, [])] _ _ _ _ [] 71 [(2, .inl v2)] [.inl (1 : Int32)] μ (by decide +kernel) rfl rfl (zm_V_pick [2] rfl (h1 (of_decide_eq_false z1))))))

theorem k57_0 {X : zm_T} {d : Nat} {v1 : Int32} {μ : zm_u} {P : Int32 → zm_u → Prop}
    (h0 : v1 < 0 → P (-1 : Int32) μ)
    (h1 : ¬ (v1 < 0) → (μ 3 4) ≤ v1 → P (-1 : Int32) μ)
    (h2 : ¬ (v1 < 0) → ¬ ((μ 3 4) ≤ v1) → 0 ≤ (v1).toInt ∧ (v1).toInt < ((16 : Nat) : Int))
    (h3 : ¬ (v1 < 0) → ¬ ((μ 3 4) ≤ v1) → P (μ 14 (v1).toNatClampNeg) μ) :
    zV X d 57 0 [(0, .inr 3), (1, .inl v1)] [] μ (zpi P) :=
  (zm_run [(0, 1, 1, 1, 0, 0, [])] _ _ _ _ [] 1 [(0, .inr 3), (1, .inl v1)] [.inl v1] μ (by decide +kernel) rfl rfl (zm_if (nx := 4) (a := 21) (b := 2) (k := 0) (sw := []) (zq_of (by decide +kernel)) (fun z1 => (zm_run [(21, 22, 0, 0, 0, (-1), [])] _ _ _ _ [] 22 [(0, .inr 3), (1, .inl v1)] [.inl (-1 : Int32)] μ (by decide +kernel) rfl rfl (zm_iret (nx := 23) (a := 0) (b := 0) (k := 0) (sw := []) (zq_of (by decide +kernel)) ⟨_, rfl, (h0 (of_decide_eq_true z1))⟩))) (fun z1 => (zm_run [(4, 5, 1, 1, 0, 0, []), (5, 6, 27, 0, 0, 0, []), (6, 9, 4, 4, 3, 0, [])] _ _ _ _ [] 9 [(0, .inr 3), (1, .inl v1)] [.inl (μ 3 4), .inl v1] μ (by decide +kernel) rfl rfl (zm_icmp (nx := 12) (a := 21) (b := 3) (k := 0) (sw := []) (zq_of (by decide +kernel)) (fun z2 => (zm_run [(21, 22, 0, 0, 0, (-1), [])] _ _ _ _ [] 22 [(0, .inr 3), (1, .inl v1)] [.inl (-1 : Int32)] μ (by decide +kernel) rfl rfl (zm_iret (nx := 23) (a := 0) (b := 0) (k := 0) (sw := []) (zq_of (by decide +kernel)) ⟨_, rfl, (h1 (of_decide_eq_false z1) (of_decide_eq_true z2))⟩))) (fun z2 => (zm_run [(12, 13, 27, 0, 0, 0, []), (13, 16, 4, 3, 3, 0, []), (16, 17, 1, 1, 0, 0, []), (17, 18, 6, 0, 0, 0, []), (18, 21, 19, 22, 0, 0, [])] _ _ _ _ [decide (0 ≤ (v1).toInt ∧ (v1).toInt < ((16 : Nat) : Int))] 22 [(0, .inr 3), (1, .inl v1)] [.inl (μ 14 (v1).toNatClampNeg)] μ (by decide +kernel) rfl (zm_bc (h2 (of_decide_eq_false z1) (of_decide_eq_false z2)) rfl) (zm_iret (nx := 23) (a := 0) (b := 0) (k := 0) (sw := []) (zq_of (by decide +kernel)) ⟨_, rfl, (h3 (of_decide_eq_false z1) (of_decide_eq_false z2))⟩))))))))

theorem k58_0 {X : zm_T} {d : Nat} {v1 : Int32} {μ : zm_u} {P : Int32 → zm_u → Prop}
    (h0 : ∃ G : Int32 → zm_u → Prop, zI X d 61 [.inr 3, .inl v1] μ G ∧ ∀ (r : Int32) (μ1 : zm_u), G r μ1 → zV X d 58 5 [(0, .inr 3)] [.inl r] μ1 (zpi P)) :
    zV X d 58 0 [(0, .inr 3), (1, .inl v1)] [] μ (zpi P) :=
  (zm_run [(0, 1, 27, 0, 0, 0, []), (1, 2, 1, 1, 0, 0, [])] _ _ _ _ [] 2 [(0, .inr 3), (1, .inl v1)] [.inl v1, .inr 3] μ (by decide +kernel) rfl rfl (by obtain ⟨G, he, hk⟩ := h0; exact zm_callV (as := [.inr 3, .inl v1]) (rest := []) (P := zpi G) (nx := 5) (a := 61) (b := 2) (k := 3) (sw := []) (zq_of (by decide +kernel)) rfl rfl rfl he (fun _ μ1 hp => by obtain ⟨v, rfl, hp⟩ := hp; exact (zm_V_pick [0] rfl (hk v μ1 hp)))))

theorem k58_5 {X : zm_T} {d : Nat} {s0 : Int32} {μ : zm_u} {P : Int32 → zm_u → Prop}
    (h0 : ∃ G : Int32 → zm_u → Prop, zI X d 16 [.inr 1, .inl s0] μ G ∧ ∀ (r : Int32) (μ1 : zm_u), G r μ1 → zV X d 58 14 [(0, .inr 3), (2, .inl s0)] [.inl r] μ1 (zpi P)) :
    zV X d 58 5 [(0, .inr 3)] [.inl s0] μ (zpi P) :=
  (zm_run [(5, 6, 2, 2, 0, 0, []), (6, 7, 27, 0, 0, 0, []), (7, 10, 4, 0, 3, 0, []), (10, 11, 1, 2, 0, 0, [])] _ _ _ _ [] 11 [(0, .inr 3), (2, .inl s0)] [.inl s0, .inr 1] μ (by decide +kernel) rfl rfl (by obtain ⟨G, he, hk⟩ := h0; exact zm_callV (as := [.inr 1, .inl s0]) (rest := []) (P := zpi G) (nx := 14) (a := 16) (b := 2) (k := 1) (sw := []) (zq_of (by decide +kernel)) rfl rfl rfl he (fun _ μ1 hp => by obtain ⟨v, rfl, hp⟩ := hp; exact (zm_V_pick [0, 2] rfl (hk v μ1 hp)))))

theorem k58_14 {X : zm_T} {d : Nat} {s0 v2 : Int32} {μ : zm_u} {P : Int32 → zm_u → Prop}
    (h0 : ¬ s0 = (1 : Int32) → P (-1 : Int32) μ)
    (h1 : s0 = (1 : Int32) → ∃ G : Int32 → zm_u → Prop, zI X d 17 [.inr 1, .inl v2] μ G ∧ ∀ (r : Int32) (μ1 : zm_u), G r μ1 → zV X d 58 26 [] [.inl r] μ1 (zpi P)) :
    zV X d 58 14 [(0, .inr 3), (2, .inl v2)] [.inl s0] μ (zpi P) :=
  (zm_run [(14, 15, 0, 0, 0, 1, [])] _ _ _ _ [] 15 [(0, .inr 3), (2, .inl v2)] [.inl (1 : Int32), .inl s0] μ (by decide +kernel) rfl rfl (zm_icmp (nx := 18) (a := 29) (b := 1) (k := 0) (sw := []) (zq_of (by decide +kernel)) (fun z1 => (zm_run [(29, 30, 0, 0, 0, (-1), [])] _ _ _ _ [] 30 [(0, .inr 3), (2, .inl v2)] [.inl (-1 : Int32)] μ (by decide +kernel) rfl rfl (zm_iret (nx := 31) (a := 0) (b := 0) (k := 0) (sw := []) (zq_of (by decide +kernel)) ⟨_, rfl, (h0 (of_decide_eq_true z1))⟩))) (fun z1 => (zm_run [(18, 19, 27, 0, 0, 0, []), (19, 22, 4, 0, 3, 0, []), (22, 23, 1, 2, 0, 0, [])] _ _ _ _ [] 23 [(0, .inr 3), (2, .inl v2)] [.inl v2, .inr 1] μ (by decide +kernel) rfl rfl (by obtain ⟨G, he, hk⟩ := (h1 (Classical.byContradiction fun w => (of_decide_eq_false z1) w)); exact zm_callV (as := [.inr 1, .inl v2]) (rest := []) (P := zpi G) (nx := 26) (a := 17) (b := 2) (k := 1) (sw := []) (zq_of (by decide +kernel)) rfl rfl rfl he (fun _ μ1 hp => by obtain ⟨v, rfl, hp⟩ := hp; exact (zm_V_pick [] rfl (hk v μ1 hp))))))))

theorem k58_26 {X : zm_T} {d : Nat} {s0 : Int32} {μ : zm_u} {P : Int32 → zm_u → Prop}
    (h0 : P s0 μ) :
    zV X d 58 26 [] [.inl s0] μ (zpi P) :=
  (zm_run [(26, 29, 19, 30, 0, 0, [])] _ _ _ _ [] 30 [] [.inl s0] μ (by decide +kernel) rfl rfl (zm_iret (nx := 31) (a := 0) (b := 0) (k := 0) (sw := []) (zq_of (by decide +kernel)) ⟨_, rfl, h0⟩))

theorem k59_0 {X : zm_T} {d : Nat} {v1 : Int32} {μ : zm_u} {P : Int32 → zm_u → Prop}
    (h0 : ∃ G : Int32 → zm_u → Prop, zI X d 61 [.inr 3, .inl v1] μ G ∧ ∀ (r : Int32) (μ1 : zm_u), G r μ1 → zV X d 59 5 [(0, .inr 3)] [.inl r] μ1 (zpi P)) :
    zV X d 59 0 [(0, .inr 3), (1, .inl v1)] [] μ (zpi P) :=
  (zm_run [(0, 1, 27, 0, 0, 0, []), (1, 2, 1, 1, 0, 0, [])] _ _ _ _ [] 2 [(0, .inr 3), (1, .inl v1)] [.inl v1, .inr 3] μ (by decide +kernel) rfl rfl (by obtain ⟨G, he, hk⟩ := h0; exact zm_callV (as := [.inr 3, .inl v1]) (rest := []) (P := zpi G) (nx := 5) (a := 61) (b := 2) (k := 3) (sw := []) (zq_of (by decide +kernel)) rfl rfl rfl he (fun _ μ1 hp => by obtain ⟨v, rfl, hp⟩ := hp; exact (zm_V_pick [0] rfl (hk v μ1 hp)))))

theorem k59_5 {X : zm_T} {d : Nat} {s0 : Int32} {μ : zm_u} {P : Int32 → zm_u → Prop}
    (h0 : ∃ G : Int32 → zm_u → Prop, zI X d 16 [.inr 1, .inl s0] μ G ∧ ∀ (r : Int32) (μ1 : zm_u), G r μ1 → zV X d 59 14 [(0, .inr 3), (2, .inl s0)] [.inl r] μ1 (zpi P)) :
    zV X d 59 5 [(0, .inr 3)] [.inl s0] μ (zpi P) :=
  (zm_run [(5, 6, 2, 2, 0, 0, []), (6, 7, 27, 0, 0, 0, []), (7, 10, 4, 0, 3, 0, []), (10, 11, 1, 2, 0, 0, [])] _ _ _ _ [] 11 [(0, .inr 3), (2, .inl s0)] [.inl s0, .inr 1] μ (by decide +kernel) rfl rfl (by obtain ⟨G, he, hk⟩ := h0; exact zm_callV (as := [.inr 1, .inl s0]) (rest := []) (P := zpi G) (nx := 14) (a := 16) (b := 2) (k := 1) (sw := []) (zq_of (by decide +kernel)) rfl rfl rfl he (fun _ μ1 hp => by obtain ⟨v, rfl, hp⟩ := hp; exact (zm_V_pick [0, 2] rfl (hk v μ1 hp)))))

theorem k59_14 {X : zm_T} {d : Nat} {s0 v2 : Int32} {μ : zm_u} {P : Int32 → zm_u → Prop}
    (h0 : ¬ s0 = 0 → P (-1 : Int32) μ)
    (h1 : s0 = 0 → ∃ G : Int32 → zm_u → Prop, zI X d 17 [.inr 1, .inl v2] μ G ∧ ∀ (r : Int32) (μ1 : zm_u), G r μ1 → zV X d 59 25 [] [.inl r] μ1 (zpi P)) :
    zV X d 59 14 [(0, .inr 3), (2, .inl v2)] [.inl s0] μ (zpi P) :=
  (zm_if (nx := 17) (a := 28) (b := 1) (k := 0) (sw := []) (zq_of (by decide +kernel)) (fun z1 => (zm_run [(28, 29, 0, 0, 0, (-1), [])] _ _ _ _ [] 29 [(0, .inr 3), (2, .inl v2)] [.inl (-1 : Int32)] μ (by decide +kernel) rfl rfl (zm_iret (nx := 30) (a := 0) (b := 0) (k := 0) (sw := []) (zq_of (by decide +kernel)) ⟨_, rfl, (h0 (of_decide_eq_true z1))⟩))) (fun z1 => (zm_run [(17, 18, 27, 0, 0, 0, []), (18, 21, 4, 0, 3, 0, []), (21, 22, 1, 2, 0, 0, [])] _ _ _ _ [] 22 [(0, .inr 3), (2, .inl v2)] [.inl v2, .inr 1] μ (by decide +kernel) rfl rfl (by obtain ⟨G, he, hk⟩ := (h1 (Classical.byContradiction fun w => (of_decide_eq_false z1) w)); exact zm_callV (as := [.inr 1, .inl v2]) (rest := []) (P := zpi G) (nx := 25) (a := 17) (b := 2) (k := 1) (sw := []) (zq_of (by decide +kernel)) rfl rfl rfl he (fun _ μ1 hp => by obtain ⟨v, rfl, hp⟩ := hp; exact (zm_V_pick [] rfl (hk v μ1 hp)))))))

theorem k59_25 {X : zm_T} {d : Nat} {s0 : Int32} {μ : zm_u} {P : Int32 → zm_u → Prop}
    (h0 : P s0 μ) :
    zV X d 59 25 [] [.inl s0] μ (zpi P) :=
  (zm_run [(25, 28, 19, 29, 0, 0, [])] _ _ _ _ [] 29 [] [.inl s0] μ (by decide +kernel) rfl rfl (zm_iret (nx := 30) (a := 0) (b := 0) (k := 0) (sw := []) (zq_of (by decide +kernel)) ⟨_, rfl, h0⟩))

theorem k60_0 {X : zm_T} {d : Nat} {v1 : Int32} {μ : zm_u} {P : Int32 → zm_u → Prop}
    (h0 : ∃ G : Int32 → zm_u → Prop, zI X d 61 [.inr 3, .inl v1] μ G ∧ ∀ (r : Int32) (μ1 : zm_u), G r μ1 → zV X d 60 5 [(0, .inr 3)] [.inl r] μ1 (zpi P)) :
    zV X d 60 0 [(0, .inr 3), (1, .inl v1)] [] μ (zpi P) :=
  (zm_run [(0, 1, 27, 0, 0, 0, []), (1, 2, 1, 1, 0, 0, [])] _ _ _ _ [] 2 [(0, .inr 3), (1, .inl v1)] [.inl v1, .inr 3] μ (by decide +kernel) rfl rfl (by obtain ⟨G, he, hk⟩ := h0; exact zm_callV (as := [.inr 3, .inl v1]) (rest := []) (P := zpi G) (nx := 5) (a := 61) (b := 2) (k := 3) (sw := []) (zq_of (by decide +kernel)) rfl rfl rfl he (fun _ μ1 hp => by obtain ⟨v, rfl, hp⟩ := hp; exact (zm_V_pick [0] rfl (hk v μ1 hp)))))

theorem k60_5 {X : zm_T} {d : Nat} {s0 : Int32} {μ : zm_u} {P : Int32 → zm_u → Prop}
    (h0 : ∃ G : Int32 → zm_u → Prop, zI X d 16 [.inr 1, .inl s0] μ G ∧ ∀ (r : Int32) (μ1 : zm_u), G r μ1 → zV X d 60 14 [(0, .inr 3), (2, .inl s0)] [.inl r] μ1 (zpi P)) :
    zV X d 60 5 [(0, .inr 3)] [.inl s0] μ (zpi P) :=
  (zm_run [(5, 6, 2, 2, 0, 0, []), (6, 7, 27, 0, 0, 0, []), (7, 10, 4, 0, 3, 0, []), (10, 11, 1, 2, 0, 0, [])] _ _ _ _ [] 11 [(0, .inr 3), (2, .inl s0)] [.inl s0, .inr 1] μ (by decide +kernel) rfl rfl (by obtain ⟨G, he, hk⟩ := h0; exact zm_callV (as := [.inr 1, .inl s0]) (rest := []) (P := zpi G) (nx := 14) (a := 16) (b := 2) (k := 1) (sw := []) (zq_of (by decide +kernel)) rfl rfl rfl he (fun _ μ1 hp => by obtain ⟨v, rfl, hp⟩ := hp; exact (zm_V_pick [0, 2] rfl (hk v μ1 hp)))))

theorem k60_14 {X : zm_T} {d : Nat} {s0 v2 : Int32} {μ : zm_u} {P : Int32 → zm_u → Prop}
    (h0 : ¬ s0 = 0 → P (-1 : Int32) μ)
    (h1 : s0 = 0 → ∃ G : Int32 → zm_u → Prop, zI X d 18 [.inr 1, .inl v2] μ G ∧ ∀ (r : Int32) (μ1 : zm_u), G r μ1 → zV X d 60 25 [] [.inl r] μ1 (zpi P)) :
    zV X d 60 14 [(0, .inr 3), (2, .inl v2)] [.inl s0] μ (zpi P) :=
  (zm_if (nx := 17) (a := 28) (b := 1) (k := 0) (sw := []) (zq_of (by decide +kernel)) (fun z1 => (zm_run [(28, 29, 0, 0, 0, (-1), [])] _ _ _ _ [] 29 [(0, .inr 3), (2, .inl v2)] [.inl (-1 : Int32)] μ (by decide +kernel) rfl rfl (zm_iret (nx := 30) (a := 0) (b := 0) (k := 0) (sw := []) (zq_of (by decide +kernel)) ⟨_, rfl, (h0 (of_decide_eq_true z1))⟩))) (fun z1 => (zm_run [(17, 18, 27, 0, 0, 0, []), (18, 21, 4, 0, 3, 0, []), (21, 22, 1, 2, 0, 0, [])] _ _ _ _ [] 22 [(0, .inr 3), (2, .inl v2)] [.inl v2, .inr 1] μ (by decide +kernel) rfl rfl (by obtain ⟨G, he, hk⟩ := (h1 (Classical.byContradiction fun w => (of_decide_eq_false z1) w)); exact zm_callV (as := [.inr 1, .inl v2]) (rest := []) (P := zpi G) (nx := 25) (a := 18) (b := 2) (k := 1) (sw := []) (zq_of (by decide +kernel)) rfl rfl rfl he (fun _ μ1 hp => by obtain ⟨v, rfl, hp⟩ := hp; exact (zm_V_pick [] rfl (hk v μ1 hp)))))))

theorem k60_25 {X : zm_T} {d : Nat} {s0 : Int32} {μ : zm_u} {P : Int32 → zm_u → Prop}
    (h0 : P s0 μ) :
    zV X d 60 25 [] [.inl s0] μ (zpi P) :=
  (zm_run [(25, 28, 19, 29, 0, 0, [])] _ _ _ _ [] 29 [] [.inl s0] μ (by decide +kernel) rfl rfl (zm_iret (nx := 30) (a := 0) (b := 0) (k := 0) (sw := []) (zq_of (by decide +kernel)) ⟨_, rfl, h0⟩))

theorem k61_0 {X : zm_T} {d : Nat} {v1 : Int32} {μ : zm_u} {P : Int32 → zm_u → Prop}
    (h0 : ∃ G : Int32 → zm_u → Prop, zI X d 15 [.inr 1, .inl v1] μ G ∧ ∀ (r : Int32) (μ1 : zm_u), G r μ1 → zV X d 61 8 [(0, .inr 3), (1, .inl v1)] [.inl r] μ1 (zpi P)) :
    zV X d 61 0 [(0, .inr 3), (1, .inl v1)] [] μ (zpi P) :=
  (zm_run [(0, 1, 27, 0, 0, 0, []), (1, 4, 4, 0, 3, 0, []), (4, 5, 1, 1, 0, 0, [])] _ _ _ _ [] 5 [(0, .inr 3), (1, .inl v1)] [.inl v1, .inr 1] μ (by decide +kernel) rfl rfl (by obtain ⟨G, he, hk⟩ := h0; exact zm_callV (as := [.inr 1, .inl v1]) (rest := []) (P := zpi G) (nx := 8) (a := 15) (b := 2) (k := 1) (sw := []) (zq_of (by decide +kernel)) rfl rfl rfl he (fun _ μ1 hp => by obtain ⟨v, rfl, hp⟩ := hp; exact (zm_V_pick [0, 1] rfl (hk v μ1 hp)))))

theorem k61_8 {X : zm_T} {d : Nat} {s0 v1 : Int32} {μ : zm_u} {P : Int32 → zm_u → Prop}
    (h0 : s0 = 0 → P v1 μ)
    (h1 : ¬ (s0 = 0) → 0 ≤ (v1).toInt ∧ (v1).toInt < ((466 : Nat) : Int))
    (h2 : ¬ (s0 = 0) → (μ 13 (v1).toNatClampNeg) = (-1 : Int32) → P v1 μ)
    (h3 : ¬ (s0 = 0) → ¬ ((μ 13 (v1).toNatClampNeg) = (-1 : Int32)) → 0 ≤ (v1).toInt ∧ (v1).toInt < ((466 : Nat) : Int))
    (h4 : ¬ (s0 = 0) → ¬ ((μ 13 (v1).toNatClampNeg) = (-1 : Int32)) → P (μ 13 (v1).toNatClampNeg) μ) :
    zV X d 61 8 [(0, .inr 3), (1, .inl v1)] [.inl s0] μ (zpi P) :=
  (zm_if (nx := 11) (a := 30) (b := 0) (k := 0) (sw := []) (zq_of (by decide +kernel)) (fun z1 => (zm_run [(30, 31, 1, 1, 0, 0, [])] _ _ _ _ [] 31 [(0, .inr 3), (1, .inl v1)] [.inl v1] μ (by decide +kernel) rfl rfl (zm_iret (nx := 32) (a := 0) (b := 0) (k := 0) (sw := []) (zq_of (by decide +kernel)) ⟨_, rfl, (h0 (of_decide_eq_true z1))⟩))) (fun z1 => (zm_run [(11, 12, 27, 0, 0, 0, []), (12, 15, 4, 2, 3, 0, []), (15, 16, 1, 1, 0, 0, []), (16, 17, 6, 0, 0, 0, []), (17, 18, 0, 0, 0, (-1), [])] _ _ _ _ [decide (0 ≤ (v1).toInt ∧ (v1).toInt < ((466 : Nat) : Int))] 18 [(0, .inr 3), (1, .inl v1)] [.inl (-1 : Int32), .inl (μ 13 (v1).toNatClampNeg)] μ (by decide +kernel) rfl (zm_bc (h1 (of_decide_eq_false z1)) rfl) (zm_icmp (nx := 21) (a := 30) (b := 0) (k := 0) (sw := []) (zq_of (by decide +kernel)) (fun z2 => (zm_run [(30, 31, 1, 1, 0, 0, [])] _ _ _ _ [] 31 [(0, .inr 3), (1, .inl v1)] [.inl v1] μ (by decide +kernel) rfl rfl (zm_iret (nx := 32) (a := 0) (b := 0) (k := 0) (sw := []) (zq_of (by decide +kernel)) ⟨_, rfl, (h2 (of_decide_eq_false z1) (of_decide_eq_true z2))⟩))) (fun z2 => (zm_run [(21, 22, 27, 0, 0, 0, []), (22, 25, 4, 2, 3, 0, []), (25, 26, 1, 1, 0, 0, []), (26, 27, 6, 0, 0, 0, []), (27, 30, 19, 31, 0, 0, [])] _ _ _ _ [decide (0 ≤ (v1).toInt ∧ (v1).toInt < ((466 : Nat) : Int))] 31 [(0, .inr 3), (1, .inl v1)] [.inl (μ 13 (v1).toNatClampNeg)] μ (by decide +kernel) rfl (zm_bc (h3 (of_decide_eq_false z1) (of_decide_eq_false z2)) rfl) (zm_iret (nx := 32) (a := 0) (b := 0) (k := 0) (sw := []) (zq_of (by decide +kernel)) ⟨_, rfl, (h4 (of_decide_eq_false z1) (of_decide_eq_false z2))⟩)))))))

theorem k62_0 {X : zm_T} {d : Nat} {v1 v2 v3 : Int32} {μ : zm_u} {P : Int32 → zm_u → Prop}
    (h0 : v2 = (-1 : Int32) → P (-1 : Int32) μ)
    (h1 : ¬ (v2 = (-1 : Int32)) → ¬ v3 = 0 → ∃ G : Int32 → zm_u → Prop, zI X d 16 [.inr 1, .inl v1] μ G ∧ ∀ (r : Int32) (μ1 : zm_u), G r μ1 → zV X d 62 19 [(0, .inr 3), (1, .inl v1), (2, .inl v2), (3, .inl v3)] [.inl r] μ1 (zpi P))
    (h2 : ¬ (v2 = (-1 : Int32)) → v3 = 0 → P (-1 : Int32) μ) :
    zV X d 62 0 [(0, .inr 3), (1, .inl v1), (2, .inl v2), (3, .inl v3)] [] μ (zpi P) :=
  (zm_run [(0, 1, 1, 2, 0, 0, []), (1, 2, 0, 0, 0, (-1), [])] _ _ _ _ [] 2 [(0, .inr 3), (1, .inl v1), (2, .inl v2), (3, .inl v3)] [.inl (-1 : Int32), .inl v2] μ (by decide +kernel) rfl rfl (zm_icmp (nx := 5) (a := 9) (b := 0) (k := 0) (sw := []) (zq_of (by decide +kernel)) (fun z1 => (zm_run [(9, 10, 0, 0, 0, (-1), [])] _ _ _ _ [] 10 [(0, .inr 3), (1, .inl v1), (2, .inl v2), (3, .inl v3)] [.inl (-1 : Int32)] μ (by decide +kernel) rfl rfl (zm_iret (nx := 11) (a := 0) (b := 0) (k := 0) (sw := []) (zq_of (by decide +kernel)) ⟨_, rfl, (h0 (of_decide_eq_true z1))⟩))) (fun z1 => (zm_run [(5, 6, 1, 3, 0, 0, [])] _ _ _ _ [] 6 [(0, .inr 3), (1, .inl v1), (2, .inl v2), (3, .inl v3)] [.inl v3] μ (by decide +kernel) rfl rfl (zm_if (nx := 9) (a := 11) (b := 1) (k := 0) (sw := []) (zq_of (by decide +kernel)) (fun z2 => (zm_run [(11, 12, 27, 0, 0, 0, []), (12, 15, 4, 0, 3, 0, []), (15, 16, 1, 1, 0, 0, [])] _ _ _ _ [] 16 [(0, .inr 3), (1, .inl v1), (2, .inl v2), (3, .inl v3)] [.inl v1, .inr 1] μ (by decide +kernel) rfl rfl (by obtain ⟨G, he, hk⟩ := (h1 (of_decide_eq_false z1) (of_decide_eq_true z2)); exact zm_callV (as := [.inr 1, .inl v1]) (rest := []) (P := zpi G) (nx := 19) (a := 16) (b := 2) (k := 1) (sw := []) (zq_of (by decide +kernel)) rfl rfl rfl he (fun _ μ1 hp => by obtain ⟨v, rfl, hp⟩ := hp; exact (zm_V_pick [0, 1, 2, 3] rfl (hk v μ1 hp)))))) (fun z2 => (zm_run [(9, 10, 0, 0, 0, (-1), [])] _ _ _ _ [] 10 [(0, .inr 3), (1, .inl v1), (2, .inl v2), (3, .inl v3)] [.inl (-1 : Int32)] μ (by decide +kernel) rfl rfl (zm_iret (nx := 11) (a := 0) (b := 0) (k := 0) (sw := []) (zq_of (by decide +kernel)) ⟨_, rfl, (h2 (of_decide_eq_false z1) (Classical.byContradiction fun w => (of_decide_eq_false z2) w))⟩))))))))

theorem k62_19 {X : zm_T} {d : Nat} {s0 v1 v2 v3 : Int32} {μ : zm_u} {P : Int32 → zm_u → Prop}
    (h0 : s0 = 0 → ∃ G : Int32 → zm_u → Prop, zI X d 17 [.inr 1, .inl v1] μ G ∧ ∀ (r : Int32) (μ1 : zm_u), G r μ1 → zV X d 62 57 [(0, .inr 3), (1, .inl v1), (2, .inl v2), (3, .inl v3)] [.inl r, .inr 3, .inr 1] μ1 (zpi P))
    (h1 : ¬ s0 = 0 → s0 = 1 → ∃ G : Int32 → zm_u → Prop, zI X d 17 [.inr 1, .inl v1] μ G ∧ ∀ (r : Int32) (μ1 : zm_u), G r μ1 → zV X d 62 97 [(2, .inl v2), (3, .inl v3)] [.inl r, .inr 3, .inr 1] μ1 (zpi P))
    (h2 : ¬ s0 = 0 → ¬ s0 = 1 → s0 = 2 → ∃ G : Int32 → zm_u → Prop, zI X d 17 [.inr 1, .inl v1] μ G ∧ ∀ (r : Int32) (μ1 : zm_u), G r μ1 → zV X d 62 116 [(1, .inl v1), (2, .inl v2)] [.inl r] μ1 (zpi P))
    (h3 : ¬ s0 = 0 → ¬ s0 = 1 → ¬ s0 = 2 → P v1 μ) :
    zV X d 62 19 [(0, .inr 3), (1, .inl v1), (2, .inl v2), (3, .inl v3)] [.inl s0] μ (zpi P) :=
  (zm_switch (nx := 44) (a := 125) (b := 0) (k := 0) (sw := [(0, 44), (1, 84), (2, 108)]) (zq_of (by decide +kernel)) (zsw_e (fun z1 => (zm_run [(44, 45, 27, 0, 0, 0, []), (45, 48, 4, 0, 3, 0, []), (48, 49, 27, 0, 0, 0, []), (49, 50, 27, 0, 0, 0, []), (50, 53, 4, 0, 3, 0, []), (53, 54, 1, 1, 0, 0, [])] _ _ _ _ [] 54 [(0, .inr 3), (1, .inl v1), (2, .inl v2), (3, .inl v3)] [.inl v1, .inr 1, .inr 3, .inr 1] μ (by decide +kernel) rfl rfl (by obtain ⟨G, he, hk⟩ := (h0 z1); exact zm_callV (as := [.inr 1, .inl v1]) (rest := [.inr 3, .inr 1]) (P := zpi G) (nx := 57) (a := 17) (b := 2) (k := 1) (sw := []) (zq_of (by decide +kernel)) rfl rfl rfl he (fun _ μ1 hp => by obtain ⟨v, rfl, hp⟩ := hp; exact (zm_V_pick [0, 1, 2, 3] rfl (hk v μ1 hp)))))) (fun z1 => (zsw_e (fun z2 => (zm_run [(84, 85, 27, 0, 0, 0, []), (85, 88, 4, 0, 3, 0, []), (88, 89, 27, 0, 0, 0, []), (89, 90, 27, 0, 0, 0, []), (90, 93, 4, 0, 3, 0, []), (93, 94, 1, 1, 0, 0, [])] _ _ _ _ [] 94 [(0, .inr 3), (1, .inl v1), (2, .inl v2), (3, .inl v3)] [.inl v1, .inr 1, .inr 3, .inr 1] μ (by decide +kernel) rfl rfl (by obtain ⟨G, he, hk⟩ := (h1 z1 z2); exact zm_callV (as := [.inr 1, .inl v1]) (rest := [.inr 3, .inr 1]) (P := zpi G) (nx := 97) (a := 17) (b := 2) (k := 1) (sw := []) (zq_of (by decide +kernel)) rfl rfl rfl he (fun _ μ1 hp => by obtain ⟨v, rfl, hp⟩ := hp; exact (zm_V_pick [2, 3] rfl (hk v μ1 hp)))))) (fun z2 => (zsw_e (fun z3 => (zm_run [(108, 109, 27, 0, 0, 0, []), (109, 112, 4, 0, 3, 0, []), (112, 113, 1, 1, 0, 0, [])] _ _ _ _ [] 113 [(0, .inr 3), (1, .inl v1), (2, .inl v2), (3, .inl v3)] [.inl v1, .inr 1] μ (by decide +kernel) rfl rfl (by obtain ⟨G, he, hk⟩ := (h2 z1 z2 z3); exact zm_callV (as := [.inr 1, .inl v1]) (rest := []) (P := zpi G) (nx := 116) (a := 17) (b := 2) (k := 1) (sw := []) (zq_of (by decide +kernel)) rfl rfl rfl he (fun _ μ1 hp => by obtain ⟨v, rfl, hp⟩ := hp; exact (zm_V_pick [1, 2] rfl (hk v μ1 hp)))))) (fun z3 => (zm_run [(125, 126, 1, 1, 0, 0, [])] _ _ _ _ [] 126 [(0, .inr 3), (1, .inl v1), (2, .inl v2), (3, .inl v3)] [.inl v1] μ (by decide +kernel) rfl rfl (zm_iret (nx := 127) (a := 0) (b := 0) (k := 0) (sw := []) (zq_of (by decide +kernel)) ⟨_, rfl, (h3 z1 z2 z3)⟩)))))))))

theorem k62_57 {X : zm_T} {d : Nat} {s2 v1 v2 v3 : Int32} {μ : zm_u} {P : Int32 → zm_u → Prop}
    (h0 : ∃ G : Int32 → zm_u → Prop, zI X d 62 [.inr 3, .inl s2, .inl v2, .inl (v3 - (1 : Int32))] μ G ∧ ∀ (r : Int32) (μ1 : zm_u), G r μ1 → zV X d 62 64 [(0, .inr 3), (1, .inl v1), (2, .inl v2), (3, .inl v3)] [.inl r, .inr 1] μ1 (zpi P)) :
    zV X d 62 57 [(0, .inr 3), (1, .inl v1), (2, .inl v2), (3, .inl v3)] [.inl s2, .inr 3, .inr 1] μ (zpi P) :=
  (zm_run [(57, 58, 1, 2, 0, 0, []), (58, 59, 1, 3, 0, 0, []), (59, 60, 0, 0, 0, 1, []), (60, 61, 11, 0, 0, 0, [])] _ _ _ _ [] 61 [(0, .inr 3), (1, .inl v1), (2, .inl v2), (3, .inl v3)] [.inl (v3 - (1 : Int32)), .inl v2, .inl s2, .inr 3, .inr 1] μ (by decide +kernel) rfl rfl (by obtain ⟨G, he, hk⟩ := h0; exact zm_callV (as := [.inr 3, .inl s2, .inl v2, .inl (v3 - (1 : Int32))]) (rest := [.inr 1]) (P := zpi G) (nx := 64) (a := 62) (b := 4) (k := 3) (sw := []) (zq_of (by decide +kernel)) rfl rfl rfl he (fun _ μ1 hp => by obtain ⟨v, rfl, hp⟩ := hp; exact (zm_V_pick [0, 1, 2, 3] rfl (hk v μ1 hp)))))

theorem k62_97 {X : zm_T} {d : Nat} {s2 v2 v3 : Int32} {μ : zm_u} {P : Int32 → zm_u → Prop}
    (h0 : ∃ G : Int32 → zm_u → Prop, zI X d 62 [.inr 3, .inl s2, .inl v2, .inl (v3 - (1 : Int32))] μ G ∧ ∀ (r : Int32) (μ1 : zm_u), G r μ1 → zV X d 62 104 [] [.inl r, .inr 1] μ1 (zpi P)) :
    zV X d 62 97 [(2, .inl v2), (3, .inl v3)] [.inl s2, .inr 3, .inr 1] μ (zpi P) :=
  (zm_run [(97, 98, 1, 2, 0, 0, []), (98, 99, 1, 3, 0, 0, []), (99, 100, 0, 0, 0, 1, []), (100, 101, 11, 0, 0, 0, [])] _ _ _ _ [] 101 [(2, .inl v2), (3, .inl v3)] [.inl (v3 - (1 : Int32)), .inl v2, .inl s2, .inr 3, .inr 1] μ (by decide +kernel) rfl rfl (by obtain ⟨G, he, hk⟩ := h0; exact zm_callV (as := [.inr 3, .inl s2, .inl v2, .inl (v3 - (1 : Int32))]) (rest := [.inr 1]) (P := zpi G) (nx := 104) (a := 62) (b := 4) (k := 3) (sw := []) (zq_of (by decide +kernel)) rfl rfl rfl he (fun _ μ1 hp => by obtain ⟨v, rfl, hp⟩ := hp; exact (zm_V_pick [] rfl (hk v μ1 hp)))))

theorem k62_116 {X : zm_T} {d : Nat} {s0 v1 v2 : Int32} {μ : zm_u} {P : Int32 → zm_u → Prop}
    (h0 : ¬ s0 = 0 → P v1 μ)
    (h1 : s0 = 0 → P v2 μ) :
    zV X d 62 116 [(1, .inl v1), (2, .inl v2)] [.inl s0] μ (zpi P) :=
  (zm_if (nx := 119) (a := 123) (b := 1) (k := 0) (sw := []) (zq_of (by decide +kernel)) (fun z1 => (zm_run [(123, 124, 1, 1, 0, 0, [])] _ _ _ _ [] 124 [(1, .inl v1), (2, .inl v2)] [.inl v1] μ (by decide +kernel) rfl rfl (zm_iret (nx := 125) (a := 0) (b := 0) (k := 0) (sw := []) (zq_of (by decide +kernel)) ⟨_, rfl, (h0 (of_decide_eq_true z1))⟩))) (fun z1 => (zm_run [(119, 120, 1, 2, 0, 0, []), (120, 123, 19, 124, 0, 0, [])] _ _ _ _ [] 124 [(1, .inl v1), (2, .inl v2)] [.inl v2] μ (by decide +kernel) rfl rfl (zm_iret (nx := 125) (a := 0) (b := 0) (k := 0) (sw := []) (zq_of (by decide +kernel)) ⟨_, rfl, (h1 (Classical.byContradiction fun w => (of_decide_eq_false z1) w))⟩))))

theorem k62_64 {X : zm_T} {d : Nat} {s1 v1 v2 v3 : Int32} {μ : zm_u} {P : Int32 → zm_u → Prop}
    (h0 : ∃ G : Int32 → zm_u → Prop, zI X d 18 [.inr 1, .inl v1] μ G ∧ ∀ (r : Int32) (μ1 : zm_u), G r μ1 → zV X d 62 73 [(2, .inl v2), (3, .inl v3)] [.inl r, .inr 3, .inl s1, .inr 1] μ1 (zpi P)) :
    zV X d 62 64 [(0, .inr 3), (1, .inl v1), (2, .inl v2), (3, .inl v3)] [.inl s1, .inr 1] μ (zpi P) :=
  (zm_run [(64, 65, 27, 0, 0, 0, []), (65, 66, 27, 0, 0, 0, []), (66, 69, 4, 0, 3, 0, []), (69, 70, 1, 1, 0, 0, [])] _ _ _ _ [] 70 [(0, .inr 3), (1, .inl v1), (2, .inl v2), (3, .inl v3)] [.inl v1, .inr 1, .inr 3, .inl s1, .inr 1] μ (by decide +kernel) rfl rfl (by obtain ⟨G, he, hk⟩ := h0; exact zm_callV (as := [.inr 1, .inl v1]) (rest := [.inr 3, .inl s1, .inr 1]) (P := zpi G) (nx := 73) (a := 18) (b := 2) (k := 1) (sw := []) (zq_of (by decide +kernel)) rfl rfl rfl he (fun _ μ1 hp => by obtain ⟨v, rfl, hp⟩ := hp; exact (zm_V_pick [2, 3] rfl (hk v μ1 hp)))))

theorem k62_104 {X : zm_T} {d : Nat} {s1 : Int32} {μ : zm_u} {P : Int32 → zm_u → Prop}
    (h0 : ∃ G : Int32 → zm_u → Prop, zI X d 25 [.inr 1, .inl s1] μ G ∧ ∀ (r : Int32) (μ1 : zm_u), G r μ1 → zV X d 62 107 [] [.inl r] μ1 (zpi P)) :
    zV X d 62 104 [] [.inl s1, .inr 1] μ (zpi P) :=
  (by obtain ⟨G, he, hk⟩ := h0; exact zm_callV (as := [.inr 1, .inl s1]) (rest := []) (P := zpi G) (nx := 107) (a := 25) (b := 2) (k := 1) (sw := []) (zq_of (by decide +kernel)) rfl rfl rfl he (fun _ μ1 hp => by obtain ⟨v, rfl, hp⟩ := hp; exact (zm_V_pick [] rfl (hk v μ1 hp))))

theorem k62_73 {X : zm_T} {d : Nat} {s1 s3 v2 v3 : Int32} {μ : zm_u} {P : Int32 → zm_u → Prop}
    (h0 : ∃ G : Int32 → zm_u → Prop, zI X d 62 [.inr 3, .inl s3, .inl v2, .inl (v3 - (1 : Int32))] μ G ∧ ∀ (r : Int32) (μ1 : zm_u), G r μ1 → zV X d 62 80 [] [.inl r, .inl s1, .inr 1] μ1 (zpi P)) :
    zV X d 62 73 [(2, .inl v2), (3, .inl v3)] [.inl s3, .inr 3, .inl s1, .inr 1] μ (zpi P) :=
  (zm_run [(73, 74, 1, 2, 0, 0, []), (74, 75, 1, 3, 0, 0, []), (75, 76, 0, 0, 0, 1, []), (76, 77, 11, 0, 0, 0, [])] _ _ _ _ [] 77 [(2, .inl v2), (3, .inl v3)] [.inl (v3 - (1 : Int32)), .inl v2, .inl s3, .inr 3, .inl s1, .inr 1] μ (by decide +kernel) rfl rfl (by obtain ⟨G, he, hk⟩ := h0; exact zm_callV (as := [.inr 3, .inl s3, .inl v2, .inl (v3 - (1 : Int32))]) (rest := [.inl s1, .inr 1]) (P := zpi G) (nx := 80) (a := 62) (b := 4) (k := 3) (sw := []) (zq_of (by decide +kernel)) rfl rfl rfl he (fun _ μ1 hp => by obtain ⟨v, rfl, hp⟩ := hp; exact (zm_V_pick [] rfl (hk v μ1 hp)))))

theorem k62_107 {X : zm_T} {d : Nat} {s0 : Int32} {μ : zm_u} {P : Int32 → zm_u → Prop}
    (h0 : P s0 μ) :
    zV X d 62 107 [] [.inl s0] μ (zpi P) :=
  (zm_iret (nx := 108) (a := 0) (b := 0) (k := 0) (sw := []) (zq_of (by decide +kernel)) ⟨_, rfl, h0⟩)

theorem k62_80 {X : zm_T} {d : Nat} {s1 s2 : Int32} {μ : zm_u} {P : Int32 → zm_u → Prop}
    (h0 : ∃ G : Int32 → zm_u → Prop, zI X d 24 [.inr 1, .inl s1, .inl s2] μ G ∧ ∀ (r : Int32) (μ1 : zm_u), G r μ1 → zV X d 62 83 [] [.inl r] μ1 (zpi P)) :
    zV X d 62 80 [] [.inl s2, .inl s1, .inr 1] μ (zpi P) :=
  (by obtain ⟨G, he, hk⟩ := h0; exact zm_callV (as := [.inr 1, .inl s1, .inl s2]) (rest := []) (P := zpi G) (nx := 83) (a := 24) (b := 3) (k := 1) (sw := []) (zq_of (by decide +kernel)) rfl rfl rfl he (fun _ μ1 hp => by obtain ⟨v, rfl, hp⟩ := hp; exact (zm_V_pick [] rfl (hk v μ1 hp))))

theorem k62_83 {X : zm_T} {d : Nat} {s0 : Int32} {μ : zm_u} {P : Int32 → zm_u → Prop}
    (h0 : P s0 μ) :
    zV X d 62 83 [] [.inl s0] μ (zpi P) :=
  (zm_iret (nx := 84) (a := 0) (b := 0) (k := 0) (sw := []) (zq_of (by decide +kernel)) ⟨_, rfl, h0⟩)

theorem k63_0 {X : zm_T} {d : Nat} {v1 v2 v3 : Int32} {μ : zm_u} {P : Int32 → zm_u → Prop}
    (h0 : v1 = (-1 : Int32) → P (0 : Int32) μ)
    (h1 : ¬ (v1 = (-1 : Int32)) → v2 = (-1 : Int32) → P (0 : Int32) μ)
    (h2 : ¬ (v1 = (-1 : Int32)) → ¬ (v2 = (-1 : Int32)) → ¬ v3 = 0 → ∃ G : Int32 → zm_u → Prop, zI X d 61 [.inr 3, .inl v1] μ G ∧ ∀ (r : Int32) (μ1 : zm_u), G r μ1 → zV X d 63 21 [(0, .inr 3), (2, .inl v2), (3, .inl v3)] [.inl r] μ1 (zpi P))
    (h3 : ¬ (v1 = (-1 : Int32)) → ¬ (v2 = (-1 : Int32)) → v3 = 0 → P (0 : Int32) μ) :
    zV X d 63 0 [(0, .inr 3), (1, .inl v1), (2, .inl v2), (3, .inl v3)] [] μ (zpi P) :=
  (zm_run [(0, 1, 1, 1, 0, 0, []), (1, 2, 0, 0, 0, (-1), [])] _ _ _ _ [] 2 [(0, .inr 3), (1, .inl v1), (2, .inl v2), (3, .inl v3)] [.inl (-1 : Int32), .inl v1] μ (by decide +kernel) rfl rfl (zm_icmp (nx := 5) (a := 14) (b := 0) (k := 0) (sw := []) (zq_of (by decide +kernel)) (fun z1 => (zm_run [(14, 15, 0, 0, 0, 0, [])] _ _ _ _ [] 15 [(0, .inr 3), (1, .inl v1), (2, .inl v2), (3, .inl v3)] [.inl (0 : Int32)] μ (by decide +kernel) rfl rfl (zm_zret (nx := 16) (a := 0) (b := 0) (k := 0) (sw := []) (zq_of (by decide +kernel)) (Or.inl rfl) ⟨_, rfl, (h0 (of_decide_eq_true z1))⟩))) (fun z1 => (zm_run [(5, 6, 1, 2, 0, 0, []), (6, 7, 0, 0, 0, (-1), [])] _ _ _ _ [] 7 [(0, .inr 3), (1, .inl v1), (2, .inl v2), (3, .inl v3)] [.inl (-1 : Int32), .inl v2] μ (by decide +kernel) rfl rfl (zm_icmp (nx := 10) (a := 14) (b := 0) (k := 0) (sw := []) (zq_of (by decide +kernel)) (fun z2 => (zm_run [(14, 15, 0, 0, 0, 0, [])] _ _ _ _ [] 15 [(0, .inr 3), (1, .inl v1), (2, .inl v2), (3, .inl v3)] [.inl (0 : Int32)] μ (by decide +kernel) rfl rfl (zm_zret (nx := 16) (a := 0) (b := 0) (k := 0) (sw := []) (zq_of (by decide +kernel)) (Or.inl rfl) ⟨_, rfl, (h1 (of_decide_eq_false z1) (of_decide_eq_true z2))⟩))) (fun z2 => (zm_run [(10, 11, 1, 3, 0, 0, [])] _ _ _ _ [] 11 [(0, .inr 3), (1, .inl v1), (2, .inl v2), (3, .inl v3)] [.inl v3] μ (by decide +kernel) rfl rfl (zm_if (nx := 14) (a := 16) (b := 1) (k := 0) (sw := []) (zq_of (by decide +kernel)) (fun z3 => (zm_run [(16, 17, 27, 0, 0, 0, []), (17, 18, 1, 1, 0, 0, [])] _ _ _ _ [] 18 [(0, .inr 3), (1, .inl v1), (2, .inl v2), (3, .inl v3)] [.inl v1, .inr 3] μ (by decide +kernel) rfl rfl (by obtain ⟨G, he, hk⟩ := (h2 (of_decide_eq_false z1) (of_decide_eq_false z2) (of_decide_eq_true z3)); exact zm_callV (as := [.inr 3, .inl v1]) (rest := []) (P := zpi G) (nx := 21) (a := 61) (b := 2) (k := 3) (sw := []) (zq_of (by decide +kernel)) rfl rfl rfl he (fun _ μ1 hp => by obtain ⟨v, rfl, hp⟩ := hp; exact (zm_V_pick [0, 2, 3] rfl (hk v μ1 hp)))))) (fun z3 => (zm_run [(14, 15, 0, 0, 0, 0, [])] _ _ _ _ [] 15 [(0, .inr 3), (1, .inl v1), (2, .inl v2), (3, .inl v3)] [.inl (0 : Int32)] μ (by decide +kernel) rfl rfl (zm_zret (nx := 16) (a := 0) (b := 0) (k := 0) (sw := []) (zq_of (by decide +kernel)) (Or.inl rfl) ⟨_, rfl, (h3 (of_decide_eq_false z1) (of_decide_eq_false z2) (Classical.byContradiction fun w => (of_decide_eq_false z3) w))⟩)))))))))))

theorem k63_21 {X : zm_T} {d : Nat} {s0 v2 v3 : Int32} {μ : zm_u} {P : Int32 → zm_u → Prop}
    (h0 : ∃ G : Int32 → zm_u → Prop, zI X d 61 [.inr 3, .inl v2] μ G ∧ ∀ (r : Int32) (μ1 : zm_u), G r μ1 → zV X d 63 28 [(0, .inr 3), (3, .inl v3), (4, .inl s0)] [.inl r] μ1 (zpi P)) :
    zV X d 63 21 [(0, .inr 3), (2, .inl v2), (3, .inl v3)] [.inl s0] μ (zpi P) :=
  (zm_run [(21, 23, 2, 4, 0, 0, []), (23, 24, 27, 0, 0, 0, []), (24, 25, 1, 2, 0, 0, [])] _ _ _ _ [] 25 [(0, .inr 3), (2, .inl v2), (3, .inl v3), (4, .inl s0)] [.inl v2, .inr 3] μ (by decide +kernel) rfl rfl (by obtain ⟨G, he, hk⟩ := h0; exact zm_callV (as := [.inr 3, .inl v2]) (rest := []) (P := zpi G) (nx := 28) (a := 61) (b := 2) (k := 3) (sw := []) (zq_of (by decide +kernel)) rfl rfl rfl he (fun _ μ1 hp => by obtain ⟨v, rfl, hp⟩ := hp; exact (zm_V_pick [0, 3, 4] rfl (hk v μ1 hp)))))

theorem k63_28 {X : zm_T} {d : Nat} {s0 v3 v4 : Int32} {μ : zm_u} {P : Int32 → zm_u → Prop}
    (h0 : ¬ v4 = s0 → ∃ G : Int32 → zm_u → Prop, zI X d 16 [.inr 1, .inl v4] μ G ∧ ∀ (r : Int32) (μ1 : zm_u), G r μ1 → zV X d 63 48 [(0, .inr 3), (3, .inl v3), (4, .inl v4), (5, .inl s0)] [.inl r] μ1 (zpi P))
    (h1 : v4 = s0 → P (1 : Int32) μ) :
    zV X d 63 28 [(0, .inr 3), (3, .inl v3), (4, .inl v4)] [.inl s0] μ (zpi P) :=
  (zm_run [(28, 30, 2, 5, 0, 0, []), (30, 32, 1, 4, 0, 0, []), (32, 34, 1, 5, 0, 0, [])] _ _ _ _ [] 34 [(0, .inr 3), (3, .inl v3), (4, .inl v4), (5, .inl s0)] [.inl s0, .inl v4] μ (by decide +kernel) rfl rfl (zm_icmp (nx := 37) (a := 39) (b := 1) (k := 0) (sw := []) (zq_of (by decide +kernel)) (fun z1 => (zm_run [(39, 40, 27, 0, 0, 0, []), (40, 43, 4, 0, 3, 0, []), (43, 45, 1, 4, 0, 0, [])] _ _ _ _ [] 45 [(0, .inr 3), (3, .inl v3), (4, .inl v4), (5, .inl s0)] [.inl v4, .inr 1] μ (by decide +kernel) rfl rfl (by obtain ⟨G, he, hk⟩ := (h0 (of_decide_eq_true z1)); exact zm_callV (as := [.inr 1, .inl v4]) (rest := []) (P := zpi G) (nx := 48) (a := 16) (b := 2) (k := 1) (sw := []) (zq_of (by decide +kernel)) rfl rfl rfl he (fun _ μ1 hp => by obtain ⟨v, rfl, hp⟩ := hp; exact (zm_V_pick [0, 3, 4, 5] rfl (hk v μ1 hp)))))) (fun z1 => (zm_run [(37, 38, 0, 0, 0, 1, [])] _ _ _ _ [] 38 [(0, .inr 3), (3, .inl v3), (4, .inl v4), (5, .inl s0)] [.inl (1 : Int32)] μ (by decide +kernel) rfl rfl (zm_zret (nx := 39) (a := 0) (b := 0) (k := 0) (sw := []) (zq_of (by decide +kernel)) (Or.inr rfl) ⟨_, rfl, (h1 (Classical.byContradiction fun w => (of_decide_eq_false z1) w))⟩)))))

theorem k63_48 {X : zm_T} {d : Nat} {s0 v3 v4 v5 : Int32} {μ : zm_u} {P : Int32 → zm_u → Prop}
    (h0 : ∃ G : Int32 → zm_u → Prop, zI X d 16 [.inr 1, .inl v5] μ G ∧ ∀ (r : Int32) (μ1 : zm_u), G r μ1 → zV X d 63 57 [(0, .inr 3), (3, .inl v3), (4, .inl v4), (5, .inl v5)] [.inl r, .inl s0] μ1 (zpi P)) :
    zV X d 63 48 [(0, .inr 3), (3, .inl v3), (4, .inl v4), (5, .inl v5)] [.inl s0] μ (zpi P) :=
  (zm_run [(48, 49, 27, 0, 0, 0, []), (49, 52, 4, 0, 3, 0, []), (52, 54, 1, 5, 0, 0, [])] _ _ _ _ [] 54 [(0, .inr 3), (3, .inl v3), (4, .inl v4), (5, .inl v5)] [.inl v5, .inr 1, .inl s0] μ (by decide +kernel) rfl rfl (by obtain ⟨G, he, hk⟩ := h0; exact zm_callV (as := [.inr 1, .inl v5]) (rest := [.inl s0]) (P := zpi G) (nx := 57) (a := 16) (b := 2) (k := 1) (sw := []) (zq_of (by decide +kernel)) rfl rfl rfl he (fun _ μ1 hp => by obtain ⟨v, rfl, hp⟩ := hp; exact (zm_V_pick [0, 3, 4, 5] rfl (hk v μ1 hp)))))

theorem k63_57 {X : zm_T} {d : Nat} {s0 s1 v3 v4 v5 : Int32} {μ : zm_u} {P : Int32 → zm_u → Prop}
    (h0 : s0 = s1 → ∃ G : Int32 → zm_u → Prop, zI X d 16 [.inr 1, .inl v4] μ G ∧ ∀ (r : Int32) (μ1 : zm_u), G r μ1 → zV X d 63 71 [(0, .inr 3), (3, .inl v3), (4, .inl v4), (5, .inl v5)] [.inl r] μ1 (zpi P))
    (h1 : ¬ (s0 = s1) → P (0 : Int32) μ) :
    zV X d 63 57 [(0, .inr 3), (3, .inl v3), (4, .inl v4), (5, .inl v5)] [.inl s1, .inl s0] μ (zpi P) :=
  (zm_icmp (nx := 60) (a := 62) (b := 0) (k := 0) (sw := []) (zq_of (by decide +kernel)) (fun z1 => (zm_run [(62, 63, 27, 0, 0, 0, []), (63, 66, 4, 0, 3, 0, []), (66, 68, 1, 4, 0, 0, [])] _ _ _ _ [] 68 [(0, .inr 3), (3, .inl v3), (4, .inl v4), (5, .inl v5)] [.inl v4, .inr 1] μ (by decide +kernel) rfl rfl (by obtain ⟨G, he, hk⟩ := (h0 (of_decide_eq_true z1)); exact zm_callV (as := [.inr 1, .inl v4]) (rest := []) (P := zpi G) (nx := 71) (a := 16) (b := 2) (k := 1) (sw := []) (zq_of (by decide +kernel)) rfl rfl rfl he (fun _ μ1 hp => by obtain ⟨v, rfl, hp⟩ := hp; exact (zm_V_pick [0, 3, 4, 5] rfl (hk v μ1 hp)))))) (fun z1 => (zm_run [(60, 61, 0, 0, 0, 0, [])] _ _ _ _ [] 61 [(0, .inr 3), (3, .inl v3), (4, .inl v4), (5, .inl v5)] [.inl (0 : Int32)] μ (by decide +kernel) rfl rfl (zm_zret (nx := 62) (a := 0) (b := 0) (k := 0) (sw := []) (zq_of (by decide +kernel)) (Or.inl rfl) ⟨_, rfl, (h1 (of_decide_eq_false z1))⟩))))

theorem k63_71 {X : zm_T} {d : Nat} {s0 v3 v4 v5 : Int32} {μ : zm_u} {P : Int32 → zm_u → Prop}
    (h0 : s0 = 0 → ∃ G : Int32 → zm_u → Prop, zI X d 17 [.inr 1, .inl v4] μ G ∧ ∀ (r : Int32) (μ1 : zm_u), G r μ1 → zV X d 63 106 [(0, .inr 3), (3, .inl v3), (4, .inl v4), (5, .inl v5)] [.inl r, .inr 3] μ1 (zpi P))
    (h1 : ¬ s0 = 0 → s0 = 1 → ∃ G : Int32 → zm_u → Prop, zI X d 17 [.inr 1, .inl v4] μ G ∧ ∀ (r : Int32) (μ1 : zm_u), G r μ1 → zV X d 63 168 [(0, .inr 3), (3, .inl v3), (5, .inl v5)] [.inl r, .inr 3] μ1 (zpi P))
    (h2 : ¬ s0 = 0 → ¬ s0 = 1 → P (0 : Int32) μ) :
    zV X d 63 71 [(0, .inr 3), (3, .inl v3), (4, .inl v4), (5, .inl v5)] [.inl s0] μ (zpi P) :=
  (zm_switch (nx := 96) (a := 184) (b := 0) (k := 0) (sw := [(0, 96), (1, 158)]) (zq_of (by decide +kernel)) (zsw_e (fun z1 => (zm_run [(96, 97, 27, 0, 0, 0, []), (97, 98, 27, 0, 0, 0, []), (98, 101, 4, 0, 3, 0, []), (101, 103, 1, 4, 0, 0, [])] _ _ _ _ [] 103 [(0, .inr 3), (3, .inl v3), (4, .inl v4), (5, .inl v5)] [.inl v4, .inr 1, .inr 3] μ (by decide +kernel) rfl rfl (by obtain ⟨G, he, hk⟩ := (h0 z1); exact zm_callV (as := [.inr 1, .inl v4]) (rest := [.inr 3]) (P := zpi G) (nx := 106) (a := 17) (b := 2) (k := 1) (sw := []) (zq_of (by decide +kernel)) rfl rfl rfl he (fun _ μ1 hp => by obtain ⟨v, rfl, hp⟩ := hp; exact (zm_V_pick [0, 3, 4, 5] rfl (hk v μ1 hp)))))) (fun z1 => (zsw_e (fun z2 => (zm_run [(158, 159, 27, 0, 0, 0, []), (159, 160, 27, 0, 0, 0, []), (160, 163, 4, 0, 3, 0, []), (163, 165, 1, 4, 0, 0, [])] _ _ _ _ [] 165 [(0, .inr 3), (3, .inl v3), (4, .inl v4), (5, .inl v5)] [.inl v4, .inr 1, .inr 3] μ (by decide +kernel) rfl rfl (by obtain ⟨G, he, hk⟩ := (h1 z1 z2); exact zm_callV (as := [.inr 1, .inl v4]) (rest := [.inr 3]) (P := zpi G) (nx := 168) (a := 17) (b := 2) (k := 1) (sw := []) (zq_of (by decide +kernel)) rfl rfl rfl he (fun _ μ1 hp => by obtain ⟨v, rfl, hp⟩ := hp; exact (zm_V_pick [0, 3, 5] rfl (hk v μ1 hp)))))) (fun z2 => (zm_run [(184, 185, 0, 0, 0, 0, [])] _ _ _ _ [] 185 [(0, .inr 3), (3, .inl v3), (4, .inl v4), (5, .inl v5)] [.inl (0 : Int32)] μ (by decide +kernel) rfl rfl (zm_zret (nx := 186) (a := 0) (b := 0) (k := 0) (sw := []) (zq_of (by decide +kernel)) (Or.inl rfl) ⟨_, rfl, (h2 z1 z2)⟩)))))))

theorem k63_106 {X : zm_T} {d : Nat} {s1 v3 v4 v5 : Int32} {μ : zm_u} {P : Int32 → zm_u → Prop}
    (h0 : ∃ G : Int32 → zm_u → Prop, zI X d 17 [.inr 1, .inl v5] μ G ∧ ∀ (r : Int32) (μ1 : zm_u), G r μ1 → zV X d 63 115 [(0, .inr 3), (3, .inl v3), (4, .inl v4), (5, .inl v5)] [.inl r, .inl s1, .inr 3] μ1 (zpi P)) :
    zV X d 63 106 [(0, .inr 3), (3, .inl v3), (4, .inl v4), (5, .inl v5)] [.inl s1, .inr 3] μ (zpi P) :=
  (zm_run [(106, 107, 27, 0, 0, 0, []), (107, 110, 4, 0, 3, 0, []), (110, 112, 1, 5, 0, 0, [])] _ _ _ _ [] 112 [(0, .inr 3), (3, .inl v3), (4, .inl v4), (5, .inl v5)] [.inl v5, .inr 1, .inl s1, .inr 3] μ (by decide +kernel) rfl rfl (by obtain ⟨G, he, hk⟩ := h0; exact zm_callV (as := [.inr 1, .inl v5]) (rest := [.inl s1, .inr 3]) (P := zpi G) (nx := 115) (a := 17) (b := 2) (k := 1) (sw := []) (zq_of (by decide +kernel)) rfl rfl rfl he (fun _ μ1 hp => by obtain ⟨v, rfl, hp⟩ := hp; exact (zm_V_pick [0, 3, 4, 5] rfl (hk v μ1 hp)))))

theorem k63_168 {X : zm_T} {d : Nat} {s1 v3 v5 : Int32} {μ : zm_u} {P : Int32 → zm_u → Prop}
    (h0 : ∃ G : Int32 → zm_u → Prop, zI X d 17 [.inr 1, .inl v5] μ G ∧ ∀ (r : Int32) (μ1 : zm_u), G r μ1 → zV X d 63 177 [(3, .inl v3)] [.inl r, .inl s1, .inr 3] μ1 (zpi P)) :
    zV X d 63 168 [(0, .inr 3), (3, .inl v3), (5, .inl v5)] [.inl s1, .inr 3] μ (zpi P) :=
  (zm_run [(168, 169, 27, 0, 0, 0, []), (169, 172, 4, 0, 3, 0, []), (172, 174, 1, 5, 0, 0, [])] _ _ _ _ [] 174 [(0, .inr 3), (3, .inl v3), (5, .inl v5)] [.inl v5, .inr 1, .inl s1, .inr 3] μ (by decide +kernel) rfl rfl (by obtain ⟨G, he, hk⟩ := h0; exact zm_callV (as := [.inr 1, .inl v5]) (rest := [.inl s1, .inr 3]) (P := zpi G) (nx := 177) (a := 17) (b := 2) (k := 1) (sw := []) (zq_of (by decide +kernel)) rfl rfl rfl he (fun _ μ1 hp => by obtain ⟨v, rfl, hp⟩ := hp; exact (zm_V_pick [3] rfl (hk v μ1 hp)))))

theorem k63_115 {X : zm_T} {d : Nat} {s1 s2 v3 v4 v5 : Int32} {μ : zm_u} {P : Int32 → zm_u → Prop}
    (h0 : ∃ G : Int32 → zm_u → Prop, zI X d 63 [.inr 3, .inl s1, .inl s2, .inl (v3 - (1 : Int32))] μ G ∧ ∀ (r : Int32) (μ1 : zm_u), G r μ1 → zV X d 63 121 [(0, .inr 3), (3, .inl v3), (4, .inl v4), (5, .inl v5)] [.inl r] μ1 (zpi P)) :
    zV X d 63 115 [(0, .inr 3), (3, .inl v3), (4, .inl v4), (5, .inl v5)] [.inl s2, .inl s1, .inr 3] μ (zpi P) :=
  (zm_run [(115, 116, 1, 3, 0, 0, []), (116, 117, 0, 0, 0, 1, []), (117, 118, 11, 0, 0, 0, [])] _ _ _ _ [] 118 [(0, .inr 3), (3, .inl v3), (4, .inl v4), (5, .inl v5)] [.inl (v3 - (1 : Int32)), .inl s2, .inl s1, .inr 3] μ (by decide +kernel) rfl rfl (by obtain ⟨G, he, hk⟩ := h0; exact zm_callV (as := [.inr 3, .inl s1, .inl s2, .inl (v3 - (1 : Int32))]) (rest := []) (P := zpi G) (nx := 121) (a := 63) (b := 4) (k := 3) (sw := []) (zq_of (by decide +kernel)) rfl rfl rfl he (fun _ μ1 hp => by obtain ⟨v, rfl, hp⟩ := hp; exact (zm_V_pick [0, 3, 4, 5] rfl (hk v μ1 hp)))))

theorem k63_177 {X : zm_T} {d : Nat} {s1 s2 v3 : Int32} {μ : zm_u} {P : Int32 → zm_u → Prop}
    (h0 : ∃ G : Int32 → zm_u → Prop, zI X d 63 [.inr 3, .inl s1, .inl s2, .inl (v3 - (1 : Int32))] μ G ∧ ∀ (r : Int32) (μ1 : zm_u), G r μ1 → zV X d 63 183 [] [.inl r] μ1 (zpi P)) :
    zV X d 63 177 [(3, .inl v3)] [.inl s2, .inl s1, .inr 3] μ (zpi P) :=
  (zm_run [(177, 178, 1, 3, 0, 0, []), (178, 179, 0, 0, 0, 1, []), (179, 180, 11, 0, 0, 0, [])] _ _ _ _ [] 180 [(3, .inl v3)] [.inl (v3 - (1 : Int32)), .inl s2, .inl s1, .inr 3] μ (by decide +kernel) rfl rfl (by obtain ⟨G, he, hk⟩ := h0; exact zm_callV (as := [.inr 3, .inl s1, .inl s2, .inl (v3 - (1 : Int32))]) (rest := []) (P := zpi G) (nx := 183) (a := 63) (b := 4) (k := 3) (sw := []) (zq_of (by decide +kernel)) rfl rfl rfl he (fun _ μ1 hp => by obtain ⟨v, rfl, hp⟩ := hp; exact (zm_V_pick [] rfl (hk v μ1 hp)))))

theorem k63_121 {X : zm_T} {d : Nat} {s0 v3 v4 v5 : Int32} {μ : zm_u} {P : Int32 → zm_u → Prop}
    (h0 : s0 = 0 → P (0 : Int32) μ)
    (h1 : ¬ (s0 = 0) → ∃ G : Int32 → zm_u → Prop, zI X d 18 [.inr 1, .inl v4] μ G ∧ ∀ (r : Int32) (μ1 : zm_u), G r μ1 → zV X d 63 134 [(0, .inr 3), (3, .inl v3), (5, .inl v5)] [.inl r, .inr 3] μ1 (zpi P)) :
    zV X d 63 121 [(0, .inr 3), (3, .inl v3), (4, .inl v4), (5, .inl v5)] [.inl s0] μ (zpi P) :=
  (zm_if (nx := 124) (a := 156) (b := 0) (k := 0) (sw := []) (zq_of (by decide +kernel)) (fun z1 => (zm_run [(156, 157, 0, 0, 0, 0, [])] _ _ _ _ [] 157 [(0, .inr 3), (3, .inl v3), (4, .inl v4), (5, .inl v5)] [.inl (0 : Int32)] μ (by decide +kernel) rfl rfl (zm_zret (nx := 158) (a := 0) (b := 0) (k := 0) (sw := []) (zq_of (by decide +kernel)) (Or.inl rfl) ⟨_, rfl, (h0 (of_decide_eq_true z1))⟩))) (fun z1 => (zm_run [(124, 125, 27, 0, 0, 0, []), (125, 126, 27, 0, 0, 0, []), (126, 129, 4, 0, 3, 0, []), (129, 131, 1, 4, 0, 0, [])] _ _ _ _ [] 131 [(0, .inr 3), (3, .inl v3), (4, .inl v4), (5, .inl v5)] [.inl v4, .inr 1, .inr 3] μ (by decide +kernel) rfl rfl (by obtain ⟨G, he, hk⟩ := (h1 (of_decide_eq_false z1)); exact zm_callV (as := [.inr 1, .inl v4]) (rest := [.inr 3]) (P := zpi G) (nx := 134) (a := 18) (b := 2) (k := 1) (sw := []) (zq_of (by decide +kernel)) rfl rfl rfl he (fun _ μ1 hp => by obtain ⟨v, rfl, hp⟩ := hp; exact (zm_V_pick [0, 3, 5] rfl (hk v μ1 hp)))))))

theorem k63_183 {X : zm_T} {d : Nat} {s0 : Int32} {μ : zm_u} {P : Int32 → zm_u → Prop}
    (h0 : s0 = 0 ∨ s0 = 1)
    (h1 : P s0 μ) :
    zV X d 63 183 [] [.inl s0] μ (zpi P) :=
  (zm_zret (nx := 184) (a := 0) (b := 0) (k := 0) (sw := []) (zq_of (by decide +kernel)) h0 ⟨_, rfl, h1⟩)

theorem k63_134 {X : zm_T} {d : Nat} {s1 v3 v5 : Int32} {μ : zm_u} {P : Int32 → zm_u → Prop}
    (h0 : ∃ G : Int32 → zm_u → Prop, zI X d 18 [.inr 1, .inl v5] μ G ∧ ∀ (r : Int32) (μ1 : zm_u), G r μ1 → zV X d 63 143 [(3, .inl v3)] [.inl r, .inl s1, .inr 3] μ1 (zpi P)) :
    zV X d 63 134 [(0, .inr 3), (3, .inl v3), (5, .inl v5)] [.inl s1, .inr 3] μ (zpi P) :=
  (zm_run [(134, 135, 27, 0, 0, 0, []), (135, 138, 4, 0, 3, 0, []), (138, 140, 1, 5, 0, 0, [])] _ _ _ _ [] 140 [(0, .inr 3), (3, .inl v3), (5, .inl v5)] [.inl v5, .inr 1, .inl s1, .inr 3] μ (by decide +kernel) rfl rfl (by obtain ⟨G, he, hk⟩ := h0; exact zm_callV (as := [.inr 1, .inl v5]) (rest := [.inl s1, .inr 3]) (P := zpi G) (nx := 143) (a := 18) (b := 2) (k := 1) (sw := []) (zq_of (by decide +kernel)) rfl rfl rfl he (fun _ μ1 hp => by obtain ⟨v, rfl, hp⟩ := hp; exact (zm_V_pick [3] rfl (hk v μ1 hp)))))

theorem k63_143 {X : zm_T} {d : Nat} {s1 s2 v3 : Int32} {μ : zm_u} {P : Int32 → zm_u → Prop}
    (h0 : ∃ G : Int32 → zm_u → Prop, zI X d 63 [.inr 3, .inl s1, .inl s2, .inl (v3 - (1 : Int32))] μ G ∧ ∀ (r : Int32) (μ1 : zm_u), G r μ1 → zV X d 63 149 [] [.inl r] μ1 (zpi P)) :
    zV X d 63 143 [(3, .inl v3)] [.inl s2, .inl s1, .inr 3] μ (zpi P) :=
  (zm_run [(143, 144, 1, 3, 0, 0, []), (144, 145, 0, 0, 0, 1, []), (145, 146, 11, 0, 0, 0, [])] _ _ _ _ [] 146 [(3, .inl v3)] [.inl (v3 - (1 : Int32)), .inl s2, .inl s1, .inr 3] μ (by decide +kernel) rfl rfl (by obtain ⟨G, he, hk⟩ := h0; exact zm_callV (as := [.inr 3, .inl s1, .inl s2, .inl (v3 - (1 : Int32))]) (rest := []) (P := zpi G) (nx := 149) (a := 63) (b := 4) (k := 3) (sw := []) (zq_of (by decide +kernel)) rfl rfl rfl he (fun _ μ1 hp => by obtain ⟨v, rfl, hp⟩ := hp; exact (zm_V_pick [] rfl (hk v μ1 hp)))))

theorem k63_149 {X : zm_T} {d : Nat} {s0 : Int32} {μ : zm_u} {P : Int32 → zm_u → Prop}
    (h0 : s0 = 0 → P (0 : Int32) μ)
    (h1 : ¬ (s0 = 0) → P (1 : Int32) μ) :
    zV X d 63 149 [] [.inl s0] μ (zpi P) :=
  (zm_if (nx := 152) (a := 156) (b := 0) (k := 0) (sw := []) (zq_of (by decide +kernel)) (fun z1 => (zm_run [(156, 157, 0, 0, 0, 0, [])] _ _ _ _ [] 157 [] [.inl (0 : Int32)] μ (by decide +kernel) rfl rfl (zm_zret (nx := 158) (a := 0) (b := 0) (k := 0) (sw := []) (zq_of (by decide +kernel)) (Or.inl rfl) ⟨_, rfl, (h0 (of_decide_eq_true z1))⟩))) (fun z1 => (zm_run [(152, 153, 0, 0, 0, 1, []), (153, 156, 19, 157, 0, 0, [])] _ _ _ _ [] 157 [] [.inl (1 : Int32)] μ (by decide +kernel) rfl rfl (zm_zret (nx := 158) (a := 0) (b := 0) (k := 0) (sw := []) (zq_of (by decide +kernel)) (Or.inr rfl) ⟨_, rfl, (h1 (of_decide_eq_false z1))⟩))))

theorem k64_0 {X : zm_T} {d : Nat} {μ : zm_u} {P : Int32 → zm_u → Prop}
    (h0 : ∃ G : zm_u → Prop, zO X d 80 [.inr 5] μ G ∧ ∀ μ1 : zm_u, G μ1 → zV X d 64 7 [(0, .inr 4)] [] μ1 (zpi P)) :
    zV X d 64 0 [(0, .inr 4)] [] μ (zpi P) :=
  (zm_run [(0, 1, 27, 0, 0, 0, []), (1, 4, 4, 1, 4, 0, [])] _ _ _ _ [] 4 [(0, .inr 4)] [.inr 5] μ (by decide +kernel) rfl rfl (by obtain ⟨G, he, hk⟩ := h0; exact zm_callV (as := [.inr 5]) (rest := []) (P := zpo G) (nx := 7) (a := 80) (b := 1) (k := 5) (sw := []) (zq_of (by decide +kernel)) rfl rfl rfl he (fun _ μ1 hp => by obtain ⟨rfl, hp⟩ := hp; exact (zm_V_pick [0] rfl (hk μ1 hp)))))

theorem k64_7 {X : zm_T} {d : Nat} {μ : zm_u} {P : Int32 → zm_u → Prop}
    (h0 : ∃ G : Int32 → zm_u → Prop, zI X d 31 [.inr 2] (zm_up (zm_up (zm_up (zm_up μ 4 3 (0 : Int32)) 4 4 (0 : Int32)) 4 5 (0 : Int32)) 4 6 (0 : Int32)) G ∧ ∀ (r : Int32) (μ1 : zm_u), G r μ1 → zV X d 64 35 [(0, .inr 4)] [.inl r, .inr 4] μ1 (zpi P)) :
    zV X d 64 7 [(0, .inr 4)] [] μ (zpi P) :=
  (zm_run [(7, 8, 27, 0, 0, 0, []), (8, 9, 0, 0, 0, 0, []), (9, 12, 5, 3, 4, 0, []), (12, 13, 27, 0, 0, 0, []), (13, 14, 0, 0, 0, 0, []), (14, 17, 5, 4, 4, 0, []), (17, 18, 27, 0, 0, 0, []), (18, 19, 0, 0, 0, 0, []), (19, 22, 5, 5, 4, 0, []), (22, 23, 27, 0, 0, 0, []), (23, 24, 0, 0, 0, 0, []), (24, 27, 5, 6, 4, 0, []), (27, 28, 27, 0, 0, 0, []), (28, 29, 27, 0, 0, 0, []), (29, 32, 4, 0, 4, 0, [])] _ _ _ _ [] 32 [(0, .inr 4)] [.inr 2, .inr 4] (zm_up (zm_up (zm_up (zm_up μ 4 3 (0 : Int32)) 4 4 (0 : Int32)) 4 5 (0 : Int32)) 4 6 (0 : Int32)) (by decide +kernel) rfl rfl (by obtain ⟨G, he, hk⟩ := h0; exact zm_callV (as := [.inr 2]) (rest := [.inr 4]) (P := zpi G) (nx := 35) (a := 31) (b := 1) (k := 2) (sw := []) (zq_of (by decide +kernel)) rfl rfl rfl he (fun _ μ1 hp => by obtain ⟨v, rfl, hp⟩ := hp; exact (zm_V_pick [0] rfl (hk v μ1 hp)))))

theorem k64_35 {X : zm_T} {d : Nat} {s1 : Int32} {μ : zm_u} {P : Int32 → zm_u → Prop}
    (h0 : ∃ G : Int32 → zm_u → Prop, zI X d 68 [.inr 4, .inl s1] μ G ∧ ∀ (r : Int32) (μ1 : zm_u), G r μ1 → zV X d 64 38 [(0, .inr 4)] [.inl r] μ1 (zpi P)) :
    zV X d 64 35 [(0, .inr 4)] [.inl s1, .inr 4] μ (zpi P) :=
  (by obtain ⟨G, he, hk⟩ := h0; exact zm_callV (as := [.inr 4, .inl s1]) (rest := []) (P := zpi G) (nx := 38) (a := 68) (b := 2) (k := 4) (sw := []) (zq_of (by decide +kernel)) rfl rfl rfl he (fun _ μ1 hp => by obtain ⟨v, rfl, hp⟩ := hp; exact (zm_V_pick [0] rfl (hk v μ1 hp))))

theorem k64_38 {X : zm_T} {d : Nat} {s0 : Int32} {μ : zm_u} {P : Int32 → zm_u → Prop}
    (h0 : ¬ s0 = (-1 : Int32) → ¬ s0 = (-2 : Int32) → ∃ G : zm_u → Prop, zO X d 95 [.inr 5, .inl s0] μ G ∧ ∀ μ1 : zm_u, G μ1 → zV X d 64 62 [] [] μ1 (zpi P))
    (h1 : ¬ s0 = (-1 : Int32) → s0 = (-2 : Int32) → P (2 : Int32) μ)
    (h2 : s0 = (-1 : Int32) → P (1 : Int32) μ) :
    zV X d 64 38 [(0, .inr 4)] [.inl s0] μ (zpi P) :=
  (zm_run [(38, 39, 2, 1, 0, 0, []), (39, 40, 1, 1, 0, 0, []), (40, 41, 0, 0, 0, (-1), [])] _ _ _ _ [] 41 [(0, .inr 4), (1, .inl s0)] [.inl (-1 : Int32), .inl s0] μ (by decide +kernel) rfl rfl (zm_icmp (nx := 44) (a := 46) (b := 1) (k := 0) (sw := []) (zq_of (by decide +kernel)) (fun z1 => (zm_run [(46, 47, 1, 1, 0, 0, []), (47, 49, 0, 0, 0, (-2), [])] _ _ _ _ [] 49 [(0, .inr 4), (1, .inl s0)] [.inl (-2 : Int32), .inl s0] μ (by decide +kernel) rfl rfl (zm_icmp (nx := 52) (a := 54) (b := 1) (k := 0) (sw := []) (zq_of (by decide +kernel)) (fun z2 => (zm_run [(54, 55, 27, 0, 0, 0, []), (55, 58, 4, 1, 4, 0, []), (58, 59, 1, 1, 0, 0, [])] _ _ _ _ [] 59 [(0, .inr 4), (1, .inl s0)] [.inl s0, .inr 5] μ (by decide +kernel) rfl rfl (by obtain ⟨G, he, hk⟩ := (h0 (of_decide_eq_true z1) (of_decide_eq_true z2)); exact zm_callV (as := [.inr 5, .inl s0]) (rest := []) (P := zpo G) (nx := 62) (a := 95) (b := 2) (k := 5) (sw := []) (zq_of (by decide +kernel)) rfl rfl rfl he (fun _ μ1 hp => by obtain ⟨rfl, hp⟩ := hp; exact (zm_V_pick [] rfl (hk μ1 hp)))))) (fun z2 => (zm_run [(52, 53, 0, 0, 0, 2, [])] _ _ _ _ [] 53 [(0, .inr 4), (1, .inl s0)] [.inl (2 : Int32)] μ (by decide +kernel) rfl rfl (zm_iret (nx := 54) (a := 0) (b := 0) (k := 0) (sw := []) (zq_of (by decide +kernel)) ⟨_, rfl, (h1 (of_decide_eq_true z1) (Classical.byContradiction fun w => (of_decide_eq_false z2) w))⟩)))))) (fun z1 => (zm_run [(44, 45, 0, 0, 0, 1, [])] _ _ _ _ [] 45 [(0, .inr 4), (1, .inl s0)] [.inl (1 : Int32)] μ (by decide +kernel) rfl rfl (zm_iret (nx := 46) (a := 0) (b := 0) (k := 0) (sw := []) (zq_of (by decide +kernel)) ⟨_, rfl, (h2 (Classical.byContradiction fun w => (of_decide_eq_false z1) w))⟩)))))

theorem k64_62 {X : zm_T} {d : Nat} {μ : zm_u} {P : Int32 → zm_u → Prop}
    (h0 : P (0 : Int32) μ) :
    zV X d 64 62 [] [] μ (zpi P) :=
  (zm_run [(62, 63, 0, 0, 0, 0, [])] _ _ _ _ [] 63 [] [.inl (0 : Int32)] μ (by decide +kernel) rfl rfl (zm_iret (nx := 64) (a := 0) (b := 0) (k := 0) (sw := []) (zq_of (by decide +kernel)) ⟨_, rfl, h0⟩))

theorem k65_0 {X : zm_T} {d : Nat} {μ : zm_u} {P : Int32 → zm_u → Prop}
    (h0 : P (μ 4 6) μ) :
    zV X d 65 0 [(0, .inr 4)] [] μ (zpi P) :=
  (zm_run [(0, 1, 27, 0, 0, 0, []), (1, 4, 4, 6, 4, 0, [])] _ _ _ _ [] 4 [(0, .inr 4)] [.inl (μ 4 6)] μ (by decide +kernel) rfl rfl (zm_iret (nx := 5) (a := 0) (b := 0) (k := 0) (sw := []) (zq_of (by decide +kernel)) ⟨_, rfl, h0⟩))


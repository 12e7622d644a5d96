theorem zi_c_at {a0 : Nat → Nat} {cA cB : ClassId} {q : Nat} {e : va_E} : ∀ k, (zi_c a0 cA cB)[k]? = some (q, e) → k < 22 ∧ q = a0 k := by
  intro k hk
  match k, hk with
  | 0, hk => exact ⟨by decide, (congrArg Prod.fst (Option.some.inj hk)).symm⟩
  | 1, hk => exact ⟨by decide, (congrArg Prod.fst (Option.some.inj hk)).symm⟩
  | 2, hk => exact ⟨by decide, (congrArg Prod.fst (Option.some.inj hk)).symm⟩
  | 3, hk => exact ⟨by decide, (congrArg Prod.fst (Option.some.inj hk)).symm⟩
  | 4, hk => exact ⟨by decide, (congrArg Prod.fst (Option.some.inj hk)).symm⟩
  | 5, hk => exact ⟨by decide, (congrArg Prod.fst (Option.some.inj hk)).symm⟩
  | 6, hk => exact ⟨by decide, (congrArg Prod.fst (Option.some.inj hk)).symm⟩
  | 7, hk => exact ⟨by decide, (congrArg Prod.fst (Option.some.inj hk)).symm⟩
  | 8, hk => exact ⟨by decide, (congrArg Prod.fst (Option.some.inj hk)).symm⟩
  | 9, hk => exact ⟨by decide, (congrArg Prod.fst (Option.some.inj hk)).symm⟩
  | 10, hk => exact ⟨by decide, (congrArg Prod.fst (Option.some.inj hk)).symm⟩
  | 11, hk => exact ⟨by decide, (congrArg Prod.fst (Option.some.inj hk)).symm⟩
  | 12, hk => exact ⟨by decide, (congrArg Prod.fst (Option.some.inj hk)).symm⟩
  | 13, hk => exact ⟨by decide, (congrArg Prod.fst (Option.some.inj hk)).symm⟩
  | 14, hk => exact ⟨by decide, (congrArg Prod.fst (Option.some.inj hk)).symm⟩
  | 15, hk => exact ⟨by decide, (congrArg Prod.fst (Option.some.inj hk)).symm⟩
  | 16, hk => exact ⟨by decide, (congrArg Prod.fst (Option.some.inj hk)).symm⟩
  | 17, hk => exact ⟨by decide, (congrArg Prod.fst (Option.some.inj hk)).symm⟩
  | 18, hk => exact ⟨by decide, (congrArg Prod.fst (Option.some.inj hk)).symm⟩
  | 19, hk => exact ⟨by decide, (congrArg Prod.fst (Option.some.inj hk)).symm⟩
  | 20, hk => exact ⟨by decide, (congrArg Prod.fst (Option.some.inj hk)).symm⟩
  | 21, hk => exact ⟨by decide, (congrArg Prod.fst (Option.some.inj hk)).symm⟩
  | n + 22, hk => cases hk
def zi_F (n0 : Nat) (X : zm_T) (t0 b : Nat) (D : va_G) (cA cB : ClassId) (U : State) : Prop := zn_G D cA cB U ∧ va_Z "RigidCases" "PARTS" "[I" (.ref t0) (fun q => n0 ≤ q) U U.heap ∧ va_T .int t0 18 (fun j => .int (zm_pt j)) (fun q => n0 ≤ q) U U.heap ∧ va_T .int b X.1 (fun j => .int (X.2 j)) (fun q => n0 ≤ q) U U.heap
def zi_ws (h : Nat) (a0 : Nat → Nat) (cA cB : ClassId) : va_W := (h, .inr (6, zi_fs)) :: zi_c a0 cA cB
def zi_P (n0 : Nat) (X : zm_T) (t0 b : Nat) (D : va_G) (cA cB : ClassId) (h : Nat) (a0 : Nat → Nat) (sz : Nat) : Array Value → State → Prop := va_Pc [.ref h] (fun U => U.heap.size = sz ∧ n0 ≤ sz ∧ va_P D zt_cl (zi_ws h a0 cA cB) U.heap ∧ zi_F n0 X t0 b D cA cB U ∧ va_D (fun q => n0 ≤ q) (zi_ws h a0 cA cB))
def zi_Q (t0 b : Nat) (D : va_G) (cA cB : ClassId) (h : Nat) (a0 : Nat → Nat) (sz : Nat) : Array Value → State → Outcome → State → Prop := va_Qv (fun ad : Nat → Nat => ad 0 = a0 0 ∧ ad 22 = h ∧ ad 100 = t0 ∧ ad 101 = b) (fun ad t => va_P D zt_cl (zw_W zs ad cA cB zi_2) t.heap ∧ va_D (va_A (zi_ws h a0 cA cB) sz) (zw_W zs ad cA cB zi_2)) (va_A (zi_ws h a0 cA cB) sz)
theorem zi_blind {n0 : Nat} {X : zm_T} {t0 b : Nat} {D : va_G} {cA cB : ClassId} {h : Nat} {a0 : Nat → Nat} {sz : Nat} : FrameBlind (zi_P n0 X t0 b D cA cB h a0 sz) := by
  intro a U g mk q
  obtain ⟨q0, q1, q2, q3, ⟨h1, h3, h4, h5⟩, q5⟩ := q
  exact ⟨q0, q1, q2, q3, ⟨h1.same, va_Z.moved (u := U) (U := U.calling g mk a) (Vm.Alike.refl U.vm) h3, va_T.moved (u := U) (U := U.calling g mk a) (Vm.Alike.refl U.vm) h4, va_T.moved (u := U) (U := U.calling g mk a) (Vm.Alike.refl U.vm) h5⟩, q5⟩
theorem zi_D {A : Nat → Prop} {ad : Nat → Nat} {cA cB : ClassId} {μ μ' : zm_u} (hD : va_D A (zw_W zs ad cA cB μ)) : va_D A (zw_W zs ad cA cB μ') := by
  have key : ∀ (k : Nat) (q : Nat × va_E), (zw_W zs ad cA cB μ')[k]? = some q → ∃ q', (zw_W zs ad cA cB μ)[k]? = some q' ∧ q'.1 = q.1 := by
    intro k q hk
    obtain ⟨x, hx, rfl⟩ := zw_of hk
    exact ⟨_, zw_at hx, rfl⟩
  refine ⟨fun i j x y hx hy he => ?_, fun k q hk => ?_⟩
  · obtain ⟨x', h1, h2⟩ := key i x hx
    obtain ⟨y', h3, h4⟩ := key j y hy
    exact hD.1 i j x' y' h1 h3 (by rw [h2, h4, he])
  · obtain ⟨q', h1, h2⟩ := key k q hk
    rw [← h2]
    exact hD.2 k q' h1
theorem zi_Aof {A : Nat → Prop} {ad : Nat → Nat} {cA cB : ClassId} {μ : zm_u} (hD : va_D A (zw_W zs ad cA cB μ)) {q : Nat} (h : zw_A zs ad q) : A q := by
  obtain ⟨i, hi, rfl⟩ := h
  obtain ⟨x, hx⟩ : ∃ x, zs[i]? = some x := ⟨_, List.getElem?_eq_getElem hi⟩
  exact hD.2 i _ (zw_at hx)
theorem zi_inj {A : Nat → Prop} {ad : Nat → Nat} {cA cB : ClassId} {μ : zm_u} (hD : va_D A (zw_W zs ad cA cB μ)) : ∀ i j : Nat, i < zs.length → j < zs.length → ad i = ad j → i = j := by
  intro i j hi hj he
  obtain ⟨x, hx⟩ : ∃ x, zs[i]? = some x := ⟨_, List.getElem?_eq_getElem hi⟩
  obtain ⟨y, hy⟩ : ∃ y, zs[j]? = some y := ⟨_, List.getElem?_eq_getElem hj⟩
  exact hD.1 i j _ _ (zw_at hx) (zw_at hy) he

theorem zi_FF {n0 : Nat} {X : zm_T} {t0 b : Nat} {D : va_G} {cA cB : ClassId} {ad : Nat → Nat} {U : State} (hF : zi_F n0 X t0 b D cA cB U) (h1 : ad 100 = t0) (h2 : ad 101 = b) (hn : ∀ q, zw_A zs ad q → n0 ≤ q) : zw_F zs X ad cA cB D zt_cl zt_nest U := by
  obtain ⟨g1, g2, g3, g4⟩ := hF
  refine ⟨g1.1, g1.2, ?_, ?_, ?_⟩
  · rw [h1]; exact g2.narrow hn
  · rw [h1]; exact g3.narrow hn
  · rw [h2]; exact g4.narrow hn
section ZI
variable {p : Program} {l : Launch} {e : Env} {R : Room} {s : State} {m : MethodId} {args : Array Value} {below : List Frame} {meth : Method} {c : Code} {H H0 : Heap} {locs : List Loc} {cells slots : Nat} {Q : State → Prop}
variable {ls : Array Slot} {D : va_G} {cA cB : ClassId} {X : zm_T} {ad a0 : Nat → Nat} {n0 t0 b h : Nat}
theorem zi_fin (hx : p.tables.exec = Jvm.exec) (hb : c.code = prog_8_method_1_code) (hml : c.maxLocals = 2) (hown : s.vm.findClass "RigidCasesModel" = some m.cls) (hts : ∀ w ∈ zt_big, w.before args s = true) (hF : zi_F n0 X t0 b D cA cB s) (hn0 : n0 ≤ s.heap.size) (hDw : va_D (fun q => n0 ≤ q) (zi_ws h a0 cA cB)) (hl : lv_has ls 2 [(0, .ref h)])
    (hR : 10 ≤ R.frames ∧ 640 ≤ R.locals ∧ cells ≤ R.cells ∧ slots ≤ R.slots) (h22 : ad 22 = h) (h1 : ad 100 = t0) (h2 : ad 101 = b) (ha : ∀ i, i < 22 → ad i = a0 i) (hP : va_P D zt_cl (zw_W zs ad cA cB zi_0) H) (hD : va_D (va_A (zi_ws h a0 cA cB) s.heap.size) (zw_W zs ad cA cB zi_0)) (hS : va_S (va_A (zi_ws h a0 cA cB) s.heap.size) s.heap H locs)
    (kk : ∀ (H : Heap) (locs : List Loc) (ls : Array Slot) (pc : Nat), va_P D zt_cl (zw_W zs ad cA cB zi_2) H → va_D (va_A (zi_ws h a0 cA cB) s.heap.size) (zw_W zs ad cA cB zi_2) → va_S (va_A (zi_ws h a0 cA cB) s.heap.size) s.heap H locs → decode prog_8_method_1_code pc = .ok (.return_, 1) → W p l e R s m args below meth c H locs cells slots Q (F0 m pc ls [])) :
    W p l e R s m args below meth c H locs cells slots Q (F0 m 315 ls []) := by
  have hin : ∀ q, (∃ (k : Nat) (e : va_E), (zi_ws h a0 cA cB)[k]? = some (q, e)) → zw_A zs ad q := by
    rintro q ⟨k, e, hk⟩
    cases k with
    | zero =>
      have hq : h = q := congrArg Prod.fst (Option.some.inj hk)
      exact ⟨22, by decide, by rw [h22, hq]⟩
    | succ k =>
      obtain ⟨g1, g2⟩ := zi_c_at k hk
      exact ⟨k, Nat.lt_trans g1 (by decide), by rw [ha k g1, g2]⟩
  have hn : ∀ q, zw_A zs ad q → n0 ≤ q := by
    intro q hq
    rcases zi_Aof hD hq with ⟨k, e, hk⟩ | hk
    · exact hDw.2 k (q, e) hk
    · exact Nat.le_trans hn0 hk
  have hzF := zi_FF hF h1 h2 hn
  have hS1 : va_S (zw_A zs ad) s.heap H (locs.filter (fun y => decide (y.base < s.heap.size))) := by
    refine ⟨hS.1, fun q q1 q2 => hS.2.1 q q1 (fun hA => ?_), fun y hy => ?_⟩
    · rcases hA with hA | hA
      · exact q2 (hin q hA)
      · omega
    · rw [List.mem_filter] at hy
      have hlt : y.base < s.heap.size := of_decide_eq_true hy.2
      rcases hS.2.2 y hy.1 with hA | hA
      · exact hin _ hA
      · exact absurd hlt (Nat.not_lt.mpr hA)
  refine zn_forget (locs' := locs.filter (fun y => decide (y.base < s.heap.size))) (fun y hy hlt => List.mem_filter.mpr ⟨hy, decide_eq_true hlt⟩) ?_
  obtain ⟨F1, r1, μa, e1, x1, rfl, e2, e3⟩ := m_define (X := X) (d := 9) (μ := zi_0) (k := 0) (a := 0) (b := 0) (h := 1) (by decide) (by decide +kernel)
  obtain ⟨F2, r2, μb, e4, x2, rfl, e5, e6⟩ := m_define (X := X) (d := 9) (μ := μa) (k := 1) (a := 0) (b := 0) (h := 1) (by decide) (by rw [e2]; decide +kernel)
  have c1 := zm_ev_mono (sh := zs) (cd := zc) (X := X) (Nat.le_max_left F1 F2) 9 9 (Nat.le_refl 9) _ _ _ _ e1
  have c2 := zm_ev_mono (sh := zs) (cd := zc) (X := X) (Nat.le_max_right F1 F2) 9 9 (Nat.le_refl 9) _ _ _ _ e4
  have hrun := zk_run (X := X) (call := zm_ev zs zc X (max F1 F2) 9) c1 c2
  rw [e5, e2] at hrun
  refine zw_inner (d := 9) (call := zm_ev zs zc X (max F1 F2) 9) (t := zk) (cc := prog_8_method_1_code) (nL := 2) (own := 6) (ret := none) (big := zt_big) (nest := zt_nest) (cn := zt_cn) (tb := zt_tb) (M := zt_M) (np := zt_np) (N := 162) (sh := zs) (X := X) (ad := ad) (cA := cA) (cB := cB) (D := D) (cl := zt_cl) (μ' := zi_2) (r := none) ⟨hx, hb, hml, hown, hts, hzF, zi_inj hD⟩ zt_K zt_KC hR ?_ (fun q hq => List.all_eq_true.mp zk_ck q hq) (fun n as μ r μ' g1 g2 g3 => zw_sound (F := max F1 F2) (zi_inj hD) zt_K zt_KC zt_ck 9 n as μ r μ' g1 g2 g3) 53 315 [(0, .inr 22)] [] zi_0 H _ ls hrun hP hS1 (by show lv_has ls 2 [(0, .ref (ad 22))]; rw [h22]; exact hl) rfl
  intro H locs ls pc hP2 hS2 hd
  rcases hd with ⟨v, hv, _⟩ | ⟨_, hd, _⟩
  · cases hv
  · exact kk H locs ls pc hP2 (zi_D hD) ⟨hS2.1, fun q q1 q2 => hS2.2.1 q q1 (fun hz => q2 (zi_Aof hD hz)), fun y hy => zi_Aof hD (hS2.2.2 y hy)⟩ hd
end ZI

def R_law : String := "RigidCasesLaw"
def lw_P (b : Addr) (xs : List Int32) (args : Array Value) (s : State) : Prop := args = #[.ref b] ∧ s.IntsAt b xs ∧ xs.length ≤ 2048 ∧ (Jvm.Cond.and given_1 narrow_1).before args s = true
def lw_Q (_ : Array Value) (s : State) (o : Outcome) (t : State) : Prop := o = .returned (some (.int 1)) ∧ Framed s o t [] 600000 7302250
def lw_Z (below : List Frame) (a : Array Value) (s : State) : State → Prop := fun t => ∃ o, t.status = .running ∧ Ended t below o ∧ lw_Q a s o t
theorem lw_ret {p : Program} {l : Launch} {e : Env} {s : State} {m : MethodId} {below : List Frame} {meth : Method} {c : Code} {b : Nat} (hx : p.tables.exec = Jvm.exec) (hb : c.code = code) (hr : meth.sig.returnType = ret) (hlocks : meth.locks = false) {pc : Nat} {H : Heap} {ls : Array Slot} (hdg : decode code pc = .ok (.ireturn, 1)) : W p l e room_1 s m #[Value.ref b] below meth c H [] 600000 7302250 (lw_Z below #[Value.ref b] s) (F0 m pc ls [.int 1]) := by
  intro T hT X
  obtain ⟨fs, hret, hrun, hended, hW, hframe⟩ := X.leave (v := some (.int 1)) (hlocks := hlocks) (fun h => by rw [hr] at h; cases h)
  have hmeth' : T.vm.method? m = some meth := X.method'
  refine ⟨T.setFrames fs, ?_, .returned (some (.int 1)), hrun, hended, rfl, ⟨_, rfl⟩, hW, hframe⟩
  jvm_step X.here [X.here.top, hx, hb, hdg, hmeth', hr, ret, narrow_b1]
  (try refine ⟨rfl, ?_⟩); (try refine ⟨rfl, ?_⟩)
  first | (intro acts; rw [hret _ acts rfl rfl rfl]) | rw [hret _ _ rfl rfl rfl]
  exact Steps.refl _
def lw_At (p : Program) (s : State) (m : MethodId) (meth : Method) (c : Code) (b L : Nat) (xs : Nat → Int32) : Prop :=
  p.tables.exec = Jvm.exec ∧ c.code = code ∧ meth.sig.returnType = ret ∧ c.maxLocals = 4 ∧ s.vm.findClass R_law = some m.cls ∧ (∀ w ∈ lw_tbl, w.before #[Value.ref b] s = true) ∧ va_X b L xs s s.heap ∧ b < s.heap.size ∧ meth.locks = false ∧ (Jvm.Cond.and given_1 narrow_1).before #[Value.ref b] s = true
theorem zf_arr {s : State} {args : Array Value} {ty : FieldType} (h : (Cond.arrayClass ty).before args s = true) : ∃ cA : ClassId, s.vm.findClass ("[" ++ ty.toString) = some cA ∧ ∃ (kA : Class) (comp : ClassId), s.vm.classes[cA]? = some kA ∧ kA.kind = .array comp ty := by
  obtain ⟨cA, kA, comp, h1, h2, h3⟩ := Cond.arrayClass_spec h
  exact ⟨cA, h1, kA, comp, h2, h3⟩
theorem zf_K {s : State} {args : Array Value} (hts : ∀ w ∈ zt_big, w.before args s = true) : ∃ (D : va_G) (cA cB : ClassId), va_K D zt_cl (zn_t cA cB) s := by
  obtain ⟨c0, i0, k0⟩ := u_known (n := 6) hts (zt_kc 0 _ rfl).1 (hts _ (zt_in 13 (by decide +kernel) (by decide +kernel)))
  obtain ⟨c1, i1, k1⟩ := u_known (n := 4) hts (zt_kc 1 _ rfl).1 (hts _ (zt_in 21 (by decide +kernel) (by decide +kernel)))
  obtain ⟨c2, i2, k2⟩ := u_known (n := 8) hts (zt_kc 2 _ rfl).1 (hts _ (zt_in 41 (by decide +kernel) (by decide +kernel)))
  obtain ⟨c3, i3, k3⟩ := u_known (n := 6) hts (zt_kc 3 _ rfl).1 (hts _ (zt_in 72 (by decide +kernel) (by decide +kernel)))
  obtain ⟨c4, i4, k4⟩ := u_known (n := 7) hts (zt_kc 4 _ rfl).1 (hts _ (zt_in 100 (by decide +kernel) (by decide +kernel)))
  obtain ⟨c5, i5, k5⟩ := u_known (n := 9) hts (zt_kc 5 _ rfl).1 (hts _ (zt_in 106 (by decide +kernel) (by decide +kernel)))
  obtain ⟨c6, i6, k6⟩ := u_known (n := 57) hts (zt_kc 6 _ rfl).1 (hts _ (zt_in 619 (by decide +kernel) (by decide +kernel)))
  obtain ⟨cA, a1, kA, compA, a2, a3⟩ := zf_arr (hts _ (zn_hiA false))
  obtain ⟨cB, b1, kB, compB, b2, b3⟩ := zf_arr (hts _ (zn_hiA true))
  refine ⟨(fun k => match k with
    | 0 => c0
    | 1 => c1
    | 2 => c2
    | 3 => c3
    | 4 => c4
    | 5 => c5
    | _ => c6, fun k => match k with
    | 0 => i0
    | 1 => i1
    | 2 => i2
    | 3 => i3
    | 4 => i4
    | 5 => i5
    | _ => i6), cA, cB, ?_, ?_⟩
  · intro c q hq
    match c, hq with
    | 0, hq => cases hq; exact k0
    | 1, hq => cases hq; exact k1
    | 2, hq => cases hq; exact k2
    | 3, hq => cases hq; exact k3
    | 4, hq => cases hq; exact k4
    | 5, hq => cases hq; exact k5
    | 6, hq => cases hq; exact k6
    | n + 7, hq => cases hq
  · intro k q hq
    match k, hq with
    | 0, hq => cases hq; exact ⟨fun n z => ⟨fun k h => (by cases h), kA, a2, compA, a3⟩, a1⟩
    | 1, hq => cases hq; exact ⟨fun n z => ⟨fun k h => (by cases h), kB, b2, compB, b3⟩, b1⟩
    | n + 2, hq => cases hq
theorem zf_facts {p : Program} {s : State} {m : MethodId} {meth : Method} {c : Code} {b L : Nat} {xs : Nat → Int32} (hL : L ≤ 2048) (C0 : lw_At p s m meth c b L xs) : (∀ w ∈ zt_big, w.before #[Value.ref b] s = true) ∧ ∃ (D : va_G) (cA cB : ClassId) (t0 : Nat), zi_F s.heap.size (L, xs) t0 b D cA cB s := by
  obtain ⟨hx, hb, hr, hml, hown, hts0, hX, hbl, hlocks, hgv⟩ := C0
  have hts : ∀ w ∈ zt_big, w.before #[Value.ref b] s = true := fun w hw => hts0 w (List.mem_filter.mp hw).1
  refine ⟨hts, ?_⟩
  obtain ⟨D, cA, cB, hK⟩ := zf_K hts
  have hs := flat_of_before _ hgv
  have harr : (Cond.arrayOf (.static "RigidCases" "PARTS" "[I") .int).before #[Value.ref b] s = true := hs _ (by decide +kernel)
  have hlen : (Cond.eq (.length (.static "RigidCases" "PARTS" "[I")) (.int 18)).before #[Value.ref b] s = true := hs _ (by decide +kernel)
  have hel : ∀ j : Nat, j < 18 → (Cond.eq (.elem (.static "RigidCases" "PARTS" "[I") (.int (Int32.ofNat j))) (.int (zm_pt j))).before #[Value.ref b] s = true := by
    have hall : ∀ j : Nat, j < 18 → (Cond.eq (.elem (.static "RigidCases" "PARTS" "[I") (.int (Int32.ofNat j))) (.int (zm_pt j))) ∈ flatC (Jvm.Cond.and given_1 narrow_1) := by decide +kernel
    exact fun j hj => hs _ (hall j hj)
  have hA : ∀ a : Nat, a < s.heap.size → ¬ (s.heap.size ≤ a) := fun a h1 h2 => by omega
  obtain ⟨t0, ht0, hT⟩ := va_Tof (f := fun j => .int (zm_pt j)) (N := 18) (A := fun q => s.heap.size ≤ q) (by decide) harr (va_eqt hlen) (fun j hj => va_eqt (hel j hj)) hA
  have hZ := va_Zof (A := fun q => s.heap.size ≤ q) (hts0 _ (List.mem_append_right _ (List.mem_of_getElem? (i := 245) (by decide +kernel)))) (hts _ (zt_in 1 (by decide +kernel) (by decide +kernel))) ht0 hA
  refine ⟨D, cA, cB, t0, ⟨hK, fun w hw => ?_⟩, hZ, hT, ?_⟩
  · have hon : ∀ w ∈ zt_nest, w.onTables = true := by decide +kernel
    have hin : ∀ w ∈ zt_nest, w ∈ tables_1 := by decide +kernel
    exact va_Nw.of (hon w hw) (hts0 w (List.mem_append_right _ (hin w hw)))
  · obtain ⟨scr, h1, h2, h3, h4, h5⟩ := hX
    exact ⟨scr, h1, h2, h3, by show L ≤ _; omega, by rw [h4], h5, fun h => by omega⟩

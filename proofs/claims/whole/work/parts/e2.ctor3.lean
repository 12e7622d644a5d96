section ZN3
variable {p : Program} {l : Launch} {e : Env} {R : Room} {s : State} {m : MethodId} {args : Array Value} {below : List Frame} {meth : Method} {c : Code} {H H0 : Heap} {locs : List Loc} {cells slots : Nat} {Q : State → Prop}
variable {cc : ByteArray} {pc nL : Nat} {ls : Array Slot} {rest : List Value} {D : va_G} {cA cB : ClassId} {ws : va_W} {A : Nat → Prop}
theorem zn_get {C : String} {T : u_T} {N ci idx k : Nat} {fs : List Value} {v : Value} {h0 : Nat} {tl : va_W} (hx : p.tables.exec = Jvm.exec) (hb : c.code = cc) (hts : ∀ w ∈ zt_big, w.before args s = true) (hown : s.vm.findClass C = some m.cls) (hK : va_K D zt_cl (zn_t cA cB) s) (hP : va_P D zt_cl ((h0, .inr (ci, fs)) :: tl) H)
    (hc : zt_cl[ci]? = some (C, T, N)) (hcn : zt_cn ci = C) (hk : k < N) (ht : (zt_tb 0).contains (ci, idx, ci, k) = true) (hn : ¬ (zt_cn ci = "RigidCases$Values" ∧ idx = 58)) (hv : fs[k]? = some v) (hdg : decode cc pc = .ok (.getfield idx, 3))
    (kk : W p l e R s m args below meth c H locs cells slots Q (F0 m (pc + 3) ls (v :: rest))) : W p l e R s m args below meth c H locs cells slots Q (F0 m pc ls (.ref h0 :: rest)) := by
  obtain ⟨hTk, hlk⟩ := zn_link hc hcn ht hn
  obtain ⟨g1, ⟨ty0, g2⟩, g3⟩ := zt_kc ci _ hc
  exact va_get (D := D) (ci := ci) (v := v) (C := C) (T := T) (N := N) hx hb hts g1 hown hK hP 0 rfl hc k hk (hts _ hlk) (fun _ h9 => by rw [hTk] at h9; exact h9) hv hdg kk
theorem zn_putw {C : String} {T : u_T} {N ci idx k : Nat} {fs : List Value} {v : Value} {ty : FieldType} {h0 : Nat} {tl : va_W} (hx : p.tables.exec = Jvm.exec) (hb : c.code = cc) (hts : ∀ w ∈ zt_big, w.before args s = true) (hown : s.vm.findClass C = some m.cls) (hin : meth.name = "<init>") (hK : va_K D zt_cl (zn_t cA cB) s) (hP : va_P D zt_cl ((h0, .inr (ci, fs)) :: tl) H) (hD : va_D A ((h0, .inr (ci, fs)) :: tl)) (hS : va_S A H0 H locs)
    (hc : zt_cl[ci]? = some (C, T, N)) (hcn : zt_cn ci = C) (hk : k < N) (ht : (zt_tb 0).contains (ci, idx, ci, k) = true) (hn0 : ¬ (zt_cn ci = "RigidCases$Values" ∧ idx = 58)) (hd : parseFieldDescriptor (T k).2.2.1 = some ty) (hn : narrow ty v = v) (hf : fits ty v = true) (hl : k < fs.length) (hdg : decode cc pc = .ok (.putfield idx, 3))
    (kk : ∀ (H1 : Heap) (locs1 : List Loc), va_P D zt_cl ((h0, .inr (ci, fs.set k v)) :: tl) H1 → va_D A ((h0, .inr (ci, fs.set k v)) :: tl) → va_S A H0 H1 locs1 → W p l e R s m args below meth c H1 locs1 cells slots Q (F0 m (pc + 3) ls rest)) : W p l e R s m args below meth c H locs cells slots Q (F0 m pc ls (v :: .ref h0 :: rest)) := by
  obtain ⟨hTk, hlk⟩ := zn_link hc hcn ht hn0
  exact zn_put hx hb hts hown hin hK hP hD hS hc hk hTk hlk hd hn hf hl hdg kk
end ZN3
def zn_yTy : zw_Mt := (⟨"RigidCases$Types", "<init>", "()V"⟩, prog_5_method_1_code, 1, none, 1)
set_option maxHeartbeats 4000000 in
set_option maxRecDepth 100000 in
theorem zn_Ty (l : Launch) (D : va_G) (cA cB : ClassId) (h0 : Nat) : zn_Met (S := Nat × Nat × Nat) l D cA cB zn_yTy { frames := 1, cells := 3, slots := 1398, locals := 64 } [.ref h0] [(h0, .inr (1, [.null, .null, .null, .int 0]))] (fun u => [(h0, .inr (1, [.ref (u.1), .ref (u.2.1), .ref (u.2.2), .int 2])), ((u.1), .inl (cA, 466, .inl (upd (upd (fun _ => 0) 0 3) 1 4))), ((u.2.1), .inl (cA, 466, .inl (fun _ => 0))), ((u.2.2), .inl (cA, 466, .inl (fun _ => 0)))]) 3 1398 := by
  refine zn_enter (idx := 5) (by decide +kernel) rfl rfl (Nat.le_of_ble_eq_true rfl) (zt_in 25 (by decide +kernel) (by decide +kernel)) (by decide +kernel) (by decide +kernel) (by decide) (by decide) ?_
  intro p e s m below meth c ls hx hb hr hml hown hts hin hlocks hG hP hD hl
  have hK := hG.1
  generalize hW0 : ([(h0, .inr (1, [.null, .null, .null, .int 0]))] : va_W) = W0 at hD ⊢
  have hD : va_D (va_A W0 s.heap.size) [(h0, .inr (1, [.null, .null, .null, .int 0]))] := by rw [hW0]; exact hD
  have hA : ∀ q : Nat, s.heap.size ≤ q → va_A W0 s.heap.size q := fun q h => Or.inr h
  refine zn_rows (own := 1) (ci := 1) (pe := 31) (ce := 3) (se := 1398) hx hb hts hown hin hK hA zn_hiA (lv_at hl 0 rfl) rfl rfl (by decide) (by decide) [(4, 13, 11, 0, 466, false), (13, 22, 15, 1, 466, false), (22, 31, 18, 2, 466, false)] 4 _ [] s.heap [] 0 0 (by decide +kernel) rfl rfl rfl hP hD va_S.rf ?_
  intro q1 q2 q3 H locs hP hD hS
  have hP : va_P D zt_cl [(h0, .inr (1, [.ref q1, .ref q2, .ref q3, .int 0])), (q1, .inl (cA, 466, .inl (fun _ => 0))), (q2, .inl (cA, 466, .inl (fun _ => 0))), (q3, .inl (cA, 466, .inl (fun _ => 0)))] H := hP
  have hD : va_D (va_A W0 s.heap.size) [(h0, .inr (1, [.ref q1, .ref q2, .ref q3, .int 0])), (q1, .inl (cA, 466, .inl (fun _ => 0))), (q2, .inl (cA, 466, .inl (fun _ => 0))), (q3, .inl (cA, 466, .inl (fun _ => 0)))] := hD
  refine lv_aload_n (k := 0) (x := h0) hx hb (by decide +kernel) rfl (lv_at hl 0 rfl) ?_
  refine zn_get (k := 0) (idx := 11) (v := .ref q1) hx hb hts hown hK hP rfl rfl (by decide) (by decide +kernel) (by decide +kernel) rfl (by decide +kernel) ?_
  refine lv_iconst (n := 0) (v := 0) hx hb (by decide +kernel) (by decide) ?_
  refine lv_iconst (n := 3) (v := 3) hx hb (by decide +kernel) (by decide) ?_
  refine va_iast (cA := cA) (n := 466) (f := (fun _ => 0)) hx hb hK hP hD hS 1 0 rfl rfl (i := 0) (x := 3) (by unfold vp_in; decide) (by decide +kernel) (fun H locs hP hD hS => ?_)
  have hP : va_P D zt_cl [(h0, .inr (1, [.ref q1, .ref q2, .ref q3, .int 0])), (q1, .inl (cA, 466, .inl (upd (fun _ => 0) 0 3))), (q2, .inl (cA, 466, .inl (fun _ => 0))), (q3, .inl (cA, 466, .inl (fun _ => 0)))] H := hP
  have hD : va_D (va_A W0 s.heap.size) [(h0, .inr (1, [.ref q1, .ref q2, .ref q3, .int 0])), (q1, .inl (cA, 466, .inl (upd (fun _ => 0) 0 3))), (q2, .inl (cA, 466, .inl (fun _ => 0))), (q3, .inl (cA, 466, .inl (fun _ => 0)))] := hD
  refine lv_aload_n (k := 0) (x := h0) hx hb (by decide +kernel) rfl (lv_at hl 0 rfl) ?_
  refine zn_get (k := 0) (idx := 11) (v := .ref q1) hx hb hts hown hK hP rfl rfl (by decide) (by decide +kernel) (by decide +kernel) rfl (by decide +kernel) ?_
  refine lv_iconst (n := 1) (v := 1) hx hb (by decide +kernel) (by decide) ?_
  refine lv_iconst (n := 4) (v := 4) hx hb (by decide +kernel) (by decide) ?_
  refine va_iast (cA := cA) (n := 466) (f := (upd (fun _ => 0) 0 3)) hx hb hK hP hD hS 1 0 rfl rfl (i := 1) (x := 4) (by unfold vp_in; decide) (by decide +kernel) (fun H locs hP hD hS => ?_)
  have hP : va_P D zt_cl [(h0, .inr (1, [.ref q1, .ref q2, .ref q3, .int 0])), (q1, .inl (cA, 466, .inl (upd (upd (fun _ => 0) 0 3) 1 4))), (q2, .inl (cA, 466, .inl (fun _ => 0))), (q3, .inl (cA, 466, .inl (fun _ => 0)))] H := hP
  have hD : va_D (va_A W0 s.heap.size) [(h0, .inr (1, [.ref q1, .ref q2, .ref q3, .int 0])), (q1, .inl (cA, 466, .inl (upd (upd (fun _ => 0) 0 3) 1 4))), (q2, .inl (cA, 466, .inl (fun _ => 0))), (q3, .inl (cA, 466, .inl (fun _ => 0)))] := hD
  refine lv_aload_n (k := 0) (x := h0) hx hb (by decide +kernel) rfl (lv_at hl 0 rfl) ?_
  refine lv_iconst (n := 2) (v := 2) hx hb (by decide +kernel) (by decide) ?_
  refine zn_putw (k := 3) (idx := 21) (v := .int 2) (ty := .int) hx hb hts hown hin hK hP hD hS rfl rfl (by decide) (by decide +kernel) (by decide +kernel) (by decide +kernel) rfl rfl (by simp) (by decide +kernel) (fun H locs hP hD hS => ?_)
  have hP : va_P D zt_cl [(h0, .inr (1, [.ref q1, .ref q2, .ref q3, .int 2])), (q1, .inl (cA, 466, .inl (upd (upd (fun _ => 0) 0 3) 1 4))), (q2, .inl (cA, 466, .inl (fun _ => 0))), (q3, .inl (cA, 466, .inl (fun _ => 0)))] H := hP
  have hD : va_D (va_A W0 s.heap.size) [(h0, .inr (1, [.ref q1, .ref q2, .ref q3, .int 2])), (q1, .inl (cA, 466, .inl (upd (upd (fun _ => 0) 0 3) 1 4))), (q2, .inl (cA, 466, .inl (fun _ => 0))), (q3, .inl (cA, 466, .inl (fun _ => 0)))] := hD
  exact W.vret hx hb hr (fun t ht hW => ⟨⟨(q1, q2, q3), rfl, trivial, by rw [ht]; exact hP, hD⟩, hS.F ht⟩) hS.2.2 (by decide +kernel)
def zn_yTm : zw_Mt := (⟨"RigidCases$Terms", "<init>", "()V"⟩, prog_4_method_1_code, 1, none, 2)
set_option maxHeartbeats 4000000 in
set_option maxRecDepth 100000 in
theorem zn_Tm (l : Launch) (D : va_G) (cA cB : ClassId) (h0 : Nat) : zn_Met (S := Nat × Nat × Nat × Nat) l D cA cB zn_yTm { frames := 1, cells := 4, slots := 1692, locals := 64 } [.ref h0] [(h0, .inr (2, [.null, .null, .null, .null, .int 0, .int 0, .int 0, .int 0]))] (fun u => [(h0, .inr (2, [.ref (u.1), .ref (u.2.1), .ref (u.2.2.1), .ref (u.2.2.2), .int 0, .int 0, .int 480, .int 520])), ((u.1), .inl (cA, 560, .inl (upd (upd (fun _ => 0) 480 0) 520 0))), ((u.2.1), .inl (cA, 560, .inl (fun _ => 0))), ((u.2.2.1), .inl (cA, 560, .inl (upd (upd (fun _ => 0) 480 1) 520 1))), ((u.2.2.2), .inl (cA, 12, .inl (fun _ => 0)))]) 4 1692 := by
  refine zn_enter (idx := 5) (by decide +kernel) rfl rfl (Nat.le_of_ble_eq_true rfl) (zt_in 45 (by decide +kernel) (by decide +kernel)) (by decide +kernel) (by decide +kernel) (by decide) (by decide) ?_
  intro p e s m below meth c ls hx hb hr hml hown hts hin hlocks hG hP hD hl
  have hK := hG.1
  generalize hW0 : ([(h0, .inr (2, [.null, .null, .null, .null, .int 0, .int 0, .int 0, .int 0]))] : va_W) = W0 at hD ⊢
  have hD : va_D (va_A W0 s.heap.size) [(h0, .inr (2, [.null, .null, .null, .null, .int 0, .int 0, .int 0, .int 0]))] := by rw [hW0]; exact hD
  have hA : ∀ q : Nat, s.heap.size ≤ q → va_A W0 s.heap.size q := fun q h => Or.inr h
  refine zn_rows (own := 2) (ci := 2) (pe := 39) (ce := 4) (se := 1692) hx hb hts hown hin hK hA zn_hiA (lv_at hl 0 rfl) rfl rfl (by decide) (by decide) [(4, 13, 11, 0, 560, false), (13, 22, 15, 1, 560, false), (22, 31, 18, 2, 560, false), (31, 39, 21, 3, 12, false)] 4 _ [] s.heap [] 0 0 (by decide +kernel) rfl rfl rfl hP hD va_S.rf ?_
  intro q1 q2 q3 q4 H locs hP hD hS
  have hP : va_P D zt_cl [(h0, .inr (2, [.ref q1, .ref q2, .ref q3, .ref q4, .int 0, .int 0, .int 0, .int 0])), (q1, .inl (cA, 560, .inl (fun _ => 0))), (q2, .inl (cA, 560, .inl (fun _ => 0))), (q3, .inl (cA, 560, .inl (fun _ => 0))), (q4, .inl (cA, 12, .inl (fun _ => 0)))] H := hP
  have hD : va_D (va_A W0 s.heap.size) [(h0, .inr (2, [.ref q1, .ref q2, .ref q3, .ref q4, .int 0, .int 0, .int 0, .int 0])), (q1, .inl (cA, 560, .inl (fun _ => 0))), (q2, .inl (cA, 560, .inl (fun _ => 0))), (q3, .inl (cA, 560, .inl (fun _ => 0))), (q4, .inl (cA, 12, .inl (fun _ => 0)))] := hD
  refine lv_aload_n (k := 0) (x := h0) hx hb (by decide +kernel) rfl (lv_at hl 0 rfl) ?_
  refine lv_sipush (n := 480) (v := 480) hx hb (by decide +kernel) (by decide) ?_
  refine zn_putw (k := 6) (idx := 24) (v := .int 480) (ty := .int) hx hb hts hown hin hK hP hD hS rfl rfl (by decide) (by decide +kernel) (by decide +kernel) (by decide +kernel) rfl rfl (by simp) (by decide +kernel) (fun H locs hP hD hS => ?_)
  have hP : va_P D zt_cl [(h0, .inr (2, [.ref q1, .ref q2, .ref q3, .ref q4, .int 0, .int 0, .int 480, .int 0])), (q1, .inl (cA, 560, .inl (fun _ => 0))), (q2, .inl (cA, 560, .inl (fun _ => 0))), (q3, .inl (cA, 560, .inl (fun _ => 0))), (q4, .inl (cA, 12, .inl (fun _ => 0)))] H := hP
  have hD : va_D (va_A W0 s.heap.size) [(h0, .inr (2, [.ref q1, .ref q2, .ref q3, .ref q4, .int 0, .int 0, .int 480, .int 0])), (q1, .inl (cA, 560, .inl (fun _ => 0))), (q2, .inl (cA, 560, .inl (fun _ => 0))), (q3, .inl (cA, 560, .inl (fun _ => 0))), (q4, .inl (cA, 12, .inl (fun _ => 0)))] := hD
  refine lv_aload_n (k := 0) (x := h0) hx hb (by decide +kernel) rfl (lv_at hl 0 rfl) ?_
  refine lv_sipush (n := 520) (v := 520) hx hb (by decide +kernel) (by decide) ?_
  refine zn_putw (k := 7) (idx := 28) (v := .int 520) (ty := .int) hx hb hts hown hin hK hP hD hS rfl rfl (by decide) (by decide +kernel) (by decide +kernel) (by decide +kernel) rfl rfl (by simp) (by decide +kernel) (fun H locs hP hD hS => ?_)
  have hP : va_P D zt_cl [(h0, .inr (2, [.ref q1, .ref q2, .ref q3, .ref q4, .int 0, .int 0, .int 480, .int 520])), (q1, .inl (cA, 560, .inl (fun _ => 0))), (q2, .inl (cA, 560, .inl (fun _ => 0))), (q3, .inl (cA, 560, .inl (fun _ => 0))), (q4, .inl (cA, 12, .inl (fun _ => 0)))] H := hP
  have hD : va_D (va_A W0 s.heap.size) [(h0, .inr (2, [.ref q1, .ref q2, .ref q3, .ref q4, .int 0, .int 0, .int 480, .int 520])), (q1, .inl (cA, 560, .inl (fun _ => 0))), (q2, .inl (cA, 560, .inl (fun _ => 0))), (q3, .inl (cA, 560, .inl (fun _ => 0))), (q4, .inl (cA, 12, .inl (fun _ => 0)))] := hD
  refine lv_aload_n (k := 0) (x := h0) hx hb (by decide +kernel) rfl (lv_at hl 0 rfl) ?_
  refine zn_get (k := 0) (idx := 11) (v := .ref q1) hx hb hts hown hK hP rfl rfl (by decide) (by decide +kernel) (by decide +kernel) rfl (by decide +kernel) ?_
  refine lv_aload_n (k := 0) (x := h0) hx hb (by decide +kernel) rfl (lv_at hl 0 rfl) ?_
  refine zn_get (k := 6) (idx := 24) (v := .int 480) hx hb hts hown hK hP rfl rfl (by decide) (by decide +kernel) (by decide +kernel) rfl (by decide +kernel) ?_
  refine lv_iconst (n := 0) (v := 0) hx hb (by decide +kernel) (by decide) ?_
  refine va_iast (cA := cA) (n := 560) (f := (fun _ => 0)) hx hb hK hP hD hS 1 0 rfl rfl (i := 480) (x := 0) (by unfold vp_in; decide) (by decide +kernel) (fun H locs hP hD hS => ?_)
  have hP : va_P D zt_cl [(h0, .inr (2, [.ref q1, .ref q2, .ref q3, .ref q4, .int 0, .int 0, .int 480, .int 520])), (q1, .inl (cA, 560, .inl (upd (fun _ => 0) 480 0))), (q2, .inl (cA, 560, .inl (fun _ => 0))), (q3, .inl (cA, 560, .inl (fun _ => 0))), (q4, .inl (cA, 12, .inl (fun _ => 0)))] H := hP
  have hD : va_D (va_A W0 s.heap.size) [(h0, .inr (2, [.ref q1, .ref q2, .ref q3, .ref q4, .int 0, .int 0, .int 480, .int 520])), (q1, .inl (cA, 560, .inl (upd (fun _ => 0) 480 0))), (q2, .inl (cA, 560, .inl (fun _ => 0))), (q3, .inl (cA, 560, .inl (fun _ => 0))), (q4, .inl (cA, 12, .inl (fun _ => 0)))] := hD
  refine lv_aload_n (k := 0) (x := h0) hx hb (by decide +kernel) rfl (lv_at hl 0 rfl) ?_
  refine zn_get (k := 0) (idx := 11) (v := .ref q1) hx hb hts hown hK hP rfl rfl (by decide) (by decide +kernel) (by decide +kernel) rfl (by decide +kernel) ?_
  refine lv_aload_n (k := 0) (x := h0) hx hb (by decide +kernel) rfl (lv_at hl 0 rfl) ?_
  refine zn_get (k := 7) (idx := 28) (v := .int 520) hx hb hts hown hK hP rfl rfl (by decide) (by decide +kernel) (by decide +kernel) rfl (by decide +kernel) ?_
  refine lv_iconst (n := 0) (v := 0) hx hb (by decide +kernel) (by decide) ?_
  refine va_iast (cA := cA) (n := 560) (f := (upd (fun _ => 0) 480 0)) hx hb hK hP hD hS 1 0 rfl rfl (i := 520) (x := 0) (by unfold vp_in; decide) (by decide +kernel) (fun H locs hP hD hS => ?_)
  have hP : va_P D zt_cl [(h0, .inr (2, [.ref q1, .ref q2, .ref q3, .ref q4, .int 0, .int 0, .int 480, .int 520])), (q1, .inl (cA, 560, .inl (upd (upd (fun _ => 0) 480 0) 520 0))), (q2, .inl (cA, 560, .inl (fun _ => 0))), (q3, .inl (cA, 560, .inl (fun _ => 0))), (q4, .inl (cA, 12, .inl (fun _ => 0)))] H := hP
  have hD : va_D (va_A W0 s.heap.size) [(h0, .inr (2, [.ref q1, .ref q2, .ref q3, .ref q4, .int 0, .int 0, .int 480, .int 520])), (q1, .inl (cA, 560, .inl (upd (upd (fun _ => 0) 480 0) 520 0))), (q2, .inl (cA, 560, .inl (fun _ => 0))), (q3, .inl (cA, 560, .inl (fun _ => 0))), (q4, .inl (cA, 12, .inl (fun _ => 0)))] := hD
  refine lv_aload_n (k := 0) (x := h0) hx hb (by decide +kernel) rfl (lv_at hl 0 rfl) ?_
  refine zn_get (k := 2) (idx := 18) (v := .ref q3) hx hb hts hown hK hP rfl rfl (by decide) (by decide +kernel) (by decide +kernel) rfl (by decide +kernel) ?_
  refine lv_aload_n (k := 0) (x := h0) hx hb (by decide +kernel) rfl (lv_at hl 0 rfl) ?_
  refine zn_get (k := 6) (idx := 24) (v := .int 480) hx hb hts hown hK hP rfl rfl (by decide) (by decide +kernel) (by decide +kernel) rfl (by decide +kernel) ?_
  refine lv_iconst (n := 1) (v := 1) hx hb (by decide +kernel) (by decide) ?_
  refine va_iast (cA := cA) (n := 560) (f := (fun _ => 0)) hx hb hK hP hD hS 3 0 rfl rfl (i := 480) (x := 1) (by unfold vp_in; decide) (by decide +kernel) (fun H locs hP hD hS => ?_)
  have hP : va_P D zt_cl [(h0, .inr (2, [.ref q1, .ref q2, .ref q3, .ref q4, .int 0, .int 0, .int 480, .int 520])), (q1, .inl (cA, 560, .inl (upd (upd (fun _ => 0) 480 0) 520 0))), (q2, .inl (cA, 560, .inl (fun _ => 0))), (q3, .inl (cA, 560, .inl (upd (fun _ => 0) 480 1))), (q4, .inl (cA, 12, .inl (fun _ => 0)))] H := hP
  have hD : va_D (va_A W0 s.heap.size) [(h0, .inr (2, [.ref q1, .ref q2, .ref q3, .ref q4, .int 0, .int 0, .int 480, .int 520])), (q1, .inl (cA, 560, .inl (upd (upd (fun _ => 0) 480 0) 520 0))), (q2, .inl (cA, 560, .inl (fun _ => 0))), (q3, .inl (cA, 560, .inl (upd (fun _ => 0) 480 1))), (q4, .inl (cA, 12, .inl (fun _ => 0)))] := hD
  refine lv_aload_n (k := 0) (x := h0) hx hb (by decide +kernel) rfl (lv_at hl 0 rfl) ?_
  refine zn_get (k := 2) (idx := 18) (v := .ref q3) hx hb hts hown hK hP rfl rfl (by decide) (by decide +kernel) (by decide +kernel) rfl (by decide +kernel) ?_
  refine lv_aload_n (k := 0) (x := h0) hx hb (by decide +kernel) rfl (lv_at hl 0 rfl) ?_
  refine zn_get (k := 7) (idx := 28) (v := .int 520) hx hb hts hown hK hP rfl rfl (by decide) (by decide +kernel) (by decide +kernel) rfl (by decide +kernel) ?_
  refine lv_iconst (n := 1) (v := 1) hx hb (by decide +kernel) (by decide) ?_
  refine va_iast (cA := cA) (n := 560) (f := (upd (fun _ => 0) 480 1)) hx hb hK hP hD hS 3 0 rfl rfl (i := 520) (x := 1) (by unfold vp_in; decide) (by decide +kernel) (fun H locs hP hD hS => ?_)
  have hP : va_P D zt_cl [(h0, .inr (2, [.ref q1, .ref q2, .ref q3, .ref q4, .int 0, .int 0, .int 480, .int 520])), (q1, .inl (cA, 560, .inl (upd (upd (fun _ => 0) 480 0) 520 0))), (q2, .inl (cA, 560, .inl (fun _ => 0))), (q3, .inl (cA, 560, .inl (upd (upd (fun _ => 0) 480 1) 520 1))), (q4, .inl (cA, 12, .inl (fun _ => 0)))] H := hP
  have hD : va_D (va_A W0 s.heap.size) [(h0, .inr (2, [.ref q1, .ref q2, .ref q3, .ref q4, .int 0, .int 0, .int 480, .int 520])), (q1, .inl (cA, 560, .inl (upd (upd (fun _ => 0) 480 0) 520 0))), (q2, .inl (cA, 560, .inl (fun _ => 0))), (q3, .inl (cA, 560, .inl (upd (upd (fun _ => 0) 480 1) 520 1))), (q4, .inl (cA, 12, .inl (fun _ => 0)))] := hD
  exact W.vret hx hb hr (fun t ht hW => ⟨⟨(q1, q2, q3, q4), rfl, trivial, by rw [ht]; exact hP, hD⟩, hS.F ht⟩) hS.2.2 (by decide +kernel)
def zn_yVa : zw_Mt := (⟨"RigidCases$Values", "<init>", "()V"⟩, prog_6_method_1_code, 1, none, 5)
set_option maxHeartbeats 4000000 in
set_option maxRecDepth 100000 in
theorem zn_Va (l : Launch) (D : va_G) (cA cB : ClassId) (h0 : Nat) : zn_Met (S := Nat × Nat × Nat × Nat × Nat × Nat) l D cA cB zn_yVa { frames := 1, cells := 6, slots := 3001, locals := 64 } [.ref h0] [(h0, .inr (5, [.null, .null, .null, .null, .null, .null, .int 0, .int 0, .int 0]))] (fun u => [(h0, .inr (5, [.ref (u.1), .ref (u.2.1), .ref (u.2.2.1), .ref (u.2.2.2.1), .ref (u.2.2.2.2.1), .ref (u.2.2.2.2.2), .int 0, .int 0, .int 0])), ((u.1), .inl (cA, 600, .inl (fun _ => 0))), ((u.2.1), .inl (cA, 600, .inl (fun _ => 0))), ((u.2.2.1), .inl (cA, 600, .inl (fun _ => 0))), ((u.2.2.2.1), .inl (cA, 600, .inl (fun _ => 0))), ((u.2.2.2.2.1), .inl (cA, 200, .inl (fun _ => 0))), ((u.2.2.2.2.2), .inl (cA, 401, .inl (fun _ => 0)))]) 6 3001 := by
  refine zn_enter (idx := 3) (by decide +kernel) rfl rfl (Nat.le_of_ble_eq_true rfl) (zt_in 110 (by decide +kernel) (by decide +kernel)) (by decide +kernel) (by decide +kernel) (by decide) (by decide) ?_
  intro p e s m below meth c ls hx hb hr hml hown hts hin hlocks hG hP hD hl
  have hK := hG.1
  generalize hW0 : ([(h0, .inr (5, [.null, .null, .null, .null, .null, .null, .int 0, .int 0, .int 0]))] : va_W) = W0 at hD ⊢
  have hD : va_D (va_A W0 s.heap.size) [(h0, .inr (5, [.null, .null, .null, .null, .null, .null, .int 0, .int 0, .int 0]))] := by rw [hW0]; exact hD
  have hA : ∀ q : Nat, s.heap.size ≤ q → va_A W0 s.heap.size q := fun q h => Or.inr h
  refine zn_rows (own := 5) (ci := 5) (pe := 58) (ce := 6) (se := 3001) hx hb hts hown hin hK hA zn_hiA (lv_at hl 0 rfl) rfl rfl (by decide) (by decide) [(4, 13, 9, 0, 600, false), (13, 22, 15, 1, 600, false), (22, 31, 18, 2, 600, false), (31, 40, 21, 3, 600, false), (40, 49, 24, 4, 200, false), (49, 58, 27, 5, 401, false)] 4 _ [] s.heap [] 0 0 (by decide +kernel) rfl rfl rfl hP hD va_S.rf ?_
  intro q1 q2 q3 q4 q5 q6 H locs hP hD hS
  have hP : va_P D zt_cl [(h0, .inr (5, [.ref q1, .ref q2, .ref q3, .ref q4, .ref q5, .ref q6, .int 0, .int 0, .int 0])), (q1, .inl (cA, 600, .inl (fun _ => 0))), (q2, .inl (cA, 600, .inl (fun _ => 0))), (q3, .inl (cA, 600, .inl (fun _ => 0))), (q4, .inl (cA, 600, .inl (fun _ => 0))), (q5, .inl (cA, 200, .inl (fun _ => 0))), (q6, .inl (cA, 401, .inl (fun _ => 0)))] H := hP
  have hD : va_D (va_A W0 s.heap.size) [(h0, .inr (5, [.ref q1, .ref q2, .ref q3, .ref q4, .ref q5, .ref q6, .int 0, .int 0, .int 0])), (q1, .inl (cA, 600, .inl (fun _ => 0))), (q2, .inl (cA, 600, .inl (fun _ => 0))), (q3, .inl (cA, 600, .inl (fun _ => 0))), (q4, .inl (cA, 600, .inl (fun _ => 0))), (q5, .inl (cA, 200, .inl (fun _ => 0))), (q6, .inl (cA, 401, .inl (fun _ => 0)))] := hD
  exact W.vret hx hb hr (fun t ht hW => ⟨⟨(q1, q2, q3, q4, q5, q6), rfl, trivial, by rw [ht]; exact hP, hD⟩, hS.F ht⟩) hS.2.2 (by decide +kernel)

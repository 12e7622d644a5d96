set_option maxHeartbeats 2000000 in
set_option maxRecDepth 100000 in
theorem zi_set1 (q23 q24 q25 q26 q27 q28 q29 q30 q31 q32 q33 q34 q35 q36 q37 q38 q39 q40 q41 q42 q43 q44 q45 q46 q47 q48 q49 q50 q51 : Nat) : (((((((((((((((((((((((((((((zi_fs.set 2 (Value.ref q23)).set 3 (Value.ref q24)).set 4 (Value.ref q25)).set 5 (Value.ref q26)).set 6 (Value.ref q27)).set 7 (Value.ref q28)).set 8 (Value.ref q29)).set 9 (Value.ref q30)).set 13 (Value.ref q31)).set 14 (Value.ref q32)).set 15 (Value.ref q33)).set 16 (Value.ref q34)).set 18 (Value.ref q35)).set 20 (Value.ref q36)).set 21 (Value.ref q37)).set 22 (Value.ref q38)).set 23 (Value.ref q39)).set 24 (Value.ref q40)).set 25 (Value.ref q41)).set 26 (Value.ref q42)).set 30 (Value.ref q43)).set 31 (Value.ref q44)).set 32 (Value.ref q45)).set 33 (Value.ref q46)).set 35 (Value.ref q47)).set 36 (Value.ref q48)).set 38 (Value.ref q49)).set 39 (Value.ref q50)).set 40 (Value.ref q51)) = [Value.int 0, Value.int 0, Value.ref q23, Value.ref q24, Value.ref q25, Value.ref q26, Value.ref q27, Value.ref q28, Value.ref q29, Value.ref q30, Value.int 0, Value.int 0, Value.int 0, Value.ref q31, Value.ref q32, Value.ref q33, Value.ref q34, Value.int 0, Value.ref q35, Value.int 0, Value.ref q36, Value.ref q37, Value.ref q38, Value.ref q39, Value.ref q40, Value.ref q41, Value.ref q42, Value.int 0, Value.int 0, Value.int 0, Value.ref q43, Value.ref q44, Value.ref q45, Value.ref q46, Value.int 0, Value.ref q47, Value.ref q48, Value.int 0, Value.ref q49, Value.ref q50, Value.ref q51, Value.int 0, Value.int 0, Value.int 0, Value.null, Value.null, Value.null, Value.null, Value.null, Value.null, Value.int 0, Value.int 0, Value.int 0, Value.int 0, Value.int 0, Value.int 0, Value.null] := by
  simp only [zi_fs, List.set_cons_succ, List.set_cons_zero]
set_option maxHeartbeats 2000000 in
set_option maxRecDepth 100000 in
theorem zi_set2 (q23 q24 q25 q26 q27 q28 q29 q30 q31 q32 q33 q34 q35 q36 q37 q38 q39 q40 q41 q42 q43 q44 q45 q46 q47 q48 q49 q50 q51 q52 q53 q54 q55 q56 q57 q58 : Nat) : ((((((((([Value.int 0, Value.int 0, Value.ref q23, Value.ref q24, Value.ref q25, Value.ref q26, Value.ref q27, Value.ref q28, Value.ref q29, Value.ref q30, Value.int 0, Value.int 0, Value.int 0, Value.ref q31, Value.ref q32, Value.ref q33, Value.ref q34, Value.int 0, Value.ref q35, Value.int 0, Value.ref q36, Value.ref q37, Value.ref q38, Value.ref q39, Value.ref q40, Value.ref q41, Value.ref q42, Value.int 0, Value.int 0, Value.int 0, Value.ref q43, Value.ref q44, Value.ref q45, Value.ref q46, Value.int 0, Value.ref q47, Value.ref q48, Value.int 0, Value.ref q49, Value.ref q50, Value.ref q51, Value.int 0, Value.int 0, Value.int 0, Value.null, Value.null, Value.null, Value.null, Value.null, Value.null, Value.int 0, Value.int 0, Value.int 0, Value.int 0, Value.int 0, Value.int 0, Value.null] : List Value).set 41 (Value.int (-1))).set 44 (Value.ref q52)).set 45 (Value.ref q53)).set 46 (Value.ref q54)).set 47 (Value.ref q55)).set 48 (Value.ref q56)).set 49 (Value.ref q57)).set 56 (Value.ref q58)) = [Value.int 0, Value.int 0, Value.ref q23, Value.ref q24, Value.ref q25, Value.ref q26, Value.ref q27, Value.ref q28, Value.ref q29, Value.ref q30, Value.int 0, Value.int 0, Value.int 0, Value.ref q31, Value.ref q32, Value.ref q33, Value.ref q34, Value.int 0, Value.ref q35, Value.int 0, Value.ref q36, Value.ref q37, Value.ref q38, Value.ref q39, Value.ref q40, Value.ref q41, Value.ref q42, Value.int 0, Value.int 0, Value.int 0, Value.ref q43, Value.ref q44, Value.ref q45, Value.ref q46, Value.int 0, Value.ref q47, Value.ref q48, Value.int 0, Value.ref q49, Value.ref q50, Value.ref q51, Value.int (-1), Value.int 0, Value.int 0, Value.ref q52, Value.ref q53, Value.ref q54, Value.ref q55, Value.ref q56, Value.ref q57, Value.int 0, Value.int 0, Value.int 0, Value.int 0, Value.int 0, Value.int 0, Value.ref q58] := by
  simp only [List.set_cons_succ, List.set_cons_zero]
set_option maxHeartbeats 2000000 in
set_option maxRecDepth 100000 in
theorem zi_app1 (a0 : Nat → Nat) (cA cB : ClassId) (q23 q24 q25 q26 q27 q28 q29 q30 q31 q32 q33 q34 q35 q36 q37 q38 q39 q40 q41 q42 q43 q44 q45 q46 q47 q48 q49 q50 q51 : Nat) : (((((((((((((((((((((((((((((zi_c a0 cA cB ++ [((q23, .inl (cA, 600, .inl (fun _ => 0))) : Nat × va_E)]) ++ [((q24, .inl (cA, 600, .inl (fun _ => 0))) : Nat × va_E)]) ++ [((q25, .inl (cA, 600, .inl (fun _ => 0))) : Nat × va_E)]) ++ [((q26, .inl (cA, 600, .inl (fun _ => 0))) : Nat × va_E)]) ++ [((q27, .inl (cA, 560, .inl (fun _ => 0))) : Nat × va_E)]) ++ [((q28, .inl (cA, 560, .inl (fun _ => 0))) : Nat × va_E)]) ++ [((q29, .inl (cA, 14, .inl (fun _ => 0))) : Nat × va_E)]) ++ [((q30, .inl (cA, 14, .inl (fun _ => 0))) : Nat × va_E)]) ++ [((q31, .inl (cA, 40, .inl (fun _ => 0))) : Nat × va_E)]) ++ [((q32, .inl (cA, 40, .inl (fun _ => 0))) : Nat × va_E)]) ++ [((q33, .inl (cA, 64, .inl (fun _ => 0))) : Nat × va_E)]) ++ [((q34, .inl (cA, 64, .inl (fun _ => 0))) : Nat × va_E)]) ++ [((q35, .inl (cA, 64, .inl (fun _ => 0))) : Nat × va_E)]) ++ [((q36, .inl (cA, 40, .inl (fun _ => 0))) : Nat × va_E)]) ++ [((q37, .inl (cA, 40, .inl (fun _ => 0))) : Nat × va_E)]) ++ [((q38, .inl (cA, 40, .inl (fun _ => 0))) : Nat × va_E)]) ++ [((q39, .inl (cA, 40, .inl (fun _ => 0))) : Nat × va_E)]) ++ [((q40, .inl (cA, 40, .inl (fun _ => 0))) : Nat × va_E)]) ++ [((q41, .inl (cA, 40, .inl (fun _ => 0))) : Nat × va_E)]) ++ [((q42, .inl (cA, 40, .inl (fun _ => 0))) : Nat × va_E)]) ++ [((q43, .inl (cA, 600, .inl (fun _ => 0))) : Nat × va_E)]) ++ [((q44, .inl (cA, 600, .inl (fun _ => 0))) : Nat × va_E)]) ++ [((q45, .inl (cA, 800, .inl (fun _ => 0))) : Nat × va_E)]) ++ [((q46, .inl (cA, 800, .inl (fun _ => 0))) : Nat × va_E)]) ++ [((q47, .inl (cB, 600, .inl (fun _ => 0))) : Nat × va_E)]) ++ [((q48, .inl (cA, 600, .inl (fun _ => 0))) : Nat × va_E)]) ++ [((q49, .inl (cA, 1300, .inl (fun _ => 0))) : Nat × va_E)]) ++ [((q50, .inl (cA, 1300, .inl (fun _ => 0))) : Nat × va_E)]) ++ [((q51, .inl (cA, 3900, .inl (fun _ => 0))) : Nat × va_E)]) = zi_c a0 cA cB ++ [((q23, .inl (cA, 600, .inl (fun _ => 0))) : Nat × va_E), ((q24, .inl (cA, 600, .inl (fun _ => 0))) : Nat × va_E), ((q25, .inl (cA, 600, .inl (fun _ => 0))) : Nat × va_E), ((q26, .inl (cA, 600, .inl (fun _ => 0))) : Nat × va_E), ((q27, .inl (cA, 560, .inl (fun _ => 0))) : Nat × va_E), ((q28, .inl (cA, 560, .inl (fun _ => 0))) : Nat × va_E), ((q29, .inl (cA, 14, .inl (fun _ => 0))) : Nat × va_E), ((q30, .inl (cA, 14, .inl (fun _ => 0))) : Nat × va_E), ((q31, .inl (cA, 40, .inl (fun _ => 0))) : Nat × va_E), ((q32, .inl (cA, 40, .inl (fun _ => 0))) : Nat × va_E), ((q33, .inl (cA, 64, .inl (fun _ => 0))) : Nat × va_E), ((q34, .inl (cA, 64, .inl (fun _ => 0))) : Nat × va_E), ((q35, .inl (cA, 64, .inl (fun _ => 0))) : Nat × va_E), ((q36, .inl (cA, 40, .inl (fun _ => 0))) : Nat × va_E), ((q37, .inl (cA, 40, .inl (fun _ => 0))) : Nat × va_E), ((q38, .inl (cA, 40, .inl (fun _ => 0))) : Nat × va_E), ((q39, .inl (cA, 40, .inl (fun _ => 0))) : Nat × va_E), ((q40, .inl (cA, 40, .inl (fun _ => 0))) : Nat × va_E), ((q41, .inl (cA, 40, .inl (fun _ => 0))) : Nat × va_E), ((q42, .inl (cA, 40, .inl (fun _ => 0))) : Nat × va_E), ((q43, .inl (cA, 600, .inl (fun _ => 0))) : Nat × va_E), ((q44, .inl (cA, 600, .inl (fun _ => 0))) : Nat × va_E), ((q45, .inl (cA, 800, .inl (fun _ => 0))) : Nat × va_E), ((q46, .inl (cA, 800, .inl (fun _ => 0))) : Nat × va_E), ((q47, .inl (cB, 600, .inl (fun _ => 0))) : Nat × va_E), ((q48, .inl (cA, 600, .inl (fun _ => 0))) : Nat × va_E), ((q49, .inl (cA, 1300, .inl (fun _ => 0))) : Nat × va_E), ((q50, .inl (cA, 1300, .inl (fun _ => 0))) : Nat × va_E), ((q51, .inl (cA, 3900, .inl (fun _ => 0))) : Nat × va_E)] := by
  simp only [List.append_assoc, List.cons_append, List.nil_append]
set_option maxHeartbeats 2000000 in
set_option maxRecDepth 100000 in
theorem zi_app2 (a0 : Nat → Nat) (cA cB : ClassId) (q23 q24 q25 q26 q27 q28 q29 q30 q31 q32 q33 q34 q35 q36 q37 q38 q39 q40 q41 q42 q43 q44 q45 q46 q47 q48 q49 q50 q51 q52 q53 q54 q55 q56 q57 q58 : Nat) : ((((((((zi_c a0 cA cB ++ [((q23, .inl (cA, 600, .inl (fun _ => 0))) : Nat × va_E), ((q24, .inl (cA, 600, .inl (fun _ => 0))) : Nat × va_E), ((q25, .inl (cA, 600, .inl (fun _ => 0))) : Nat × va_E), ((q26, .inl (cA, 600, .inl (fun _ => 0))) : Nat × va_E), ((q27, .inl (cA, 560, .inl (fun _ => 0))) : Nat × va_E), ((q28, .inl (cA, 560, .inl (fun _ => 0))) : Nat × va_E), ((q29, .inl (cA, 14, .inl (fun _ => 0))) : Nat × va_E), ((q30, .inl (cA, 14, .inl (fun _ => 0))) : Nat × va_E), ((q31, .inl (cA, 40, .inl (fun _ => 0))) : Nat × va_E), ((q32, .inl (cA, 40, .inl (fun _ => 0))) : Nat × va_E), ((q33, .inl (cA, 64, .inl (fun _ => 0))) : Nat × va_E), ((q34, .inl (cA, 64, .inl (fun _ => 0))) : Nat × va_E), ((q35, .inl (cA, 64, .inl (fun _ => 0))) : Nat × va_E), ((q36, .inl (cA, 40, .inl (fun _ => 0))) : Nat × va_E), ((q37, .inl (cA, 40, .inl (fun _ => 0))) : Nat × va_E), ((q38, .inl (cA, 40, .inl (fun _ => 0))) : Nat × va_E), ((q39, .inl (cA, 40, .inl (fun _ => 0))) : Nat × va_E), ((q40, .inl (cA, 40, .inl (fun _ => 0))) : Nat × va_E), ((q41, .inl (cA, 40, .inl (fun _ => 0))) : Nat × va_E), ((q42, .inl (cA, 40, .inl (fun _ => 0))) : Nat × va_E), ((q43, .inl (cA, 600, .inl (fun _ => 0))) : Nat × va_E), ((q44, .inl (cA, 600, .inl (fun _ => 0))) : Nat × va_E), ((q45, .inl (cA, 800, .inl (fun _ => 0))) : Nat × va_E), ((q46, .inl (cA, 800, .inl (fun _ => 0))) : Nat × va_E), ((q47, .inl (cB, 600, .inl (fun _ => 0))) : Nat × va_E), ((q48, .inl (cA, 600, .inl (fun _ => 0))) : Nat × va_E), ((q49, .inl (cA, 1300, .inl (fun _ => 0))) : Nat × va_E), ((q50, .inl (cA, 1300, .inl (fun _ => 0))) : Nat × va_E), ((q51, .inl (cA, 3900, .inl (fun _ => 0))) : Nat × va_E)]) ++ [((q52, .inl (cA, 64, .inl (fun _ => 0))) : Nat × va_E)]) ++ [((q53, .inl (cA, 64, .inl (fun _ => 0))) : Nat × va_E)]) ++ [((q54, .inl (cA, 64, .inl (fun _ => 0))) : Nat × va_E)]) ++ [((q55, .inl (cA, 64, .inl (fun _ => 0))) : Nat × va_E)]) ++ [((q56, .inl (cA, 192, .inl (fun _ => 0))) : Nat × va_E)]) ++ [((q57, .inl (cA, 160, .inl (fun _ => 0))) : Nat × va_E)]) ++ [((q58, .inl (cA, 1300, .inl (fun _ => 0))) : Nat × va_E)]) = zi_c a0 cA cB ++ [((q23, .inl (cA, 600, .inl (fun _ => 0))) : Nat × va_E), ((q24, .inl (cA, 600, .inl (fun _ => 0))) : Nat × va_E), ((q25, .inl (cA, 600, .inl (fun _ => 0))) : Nat × va_E), ((q26, .inl (cA, 600, .inl (fun _ => 0))) : Nat × va_E), ((q27, .inl (cA, 560, .inl (fun _ => 0))) : Nat × va_E), ((q28, .inl (cA, 560, .inl (fun _ => 0))) : Nat × va_E), ((q29, .inl (cA, 14, .inl (fun _ => 0))) : Nat × va_E), ((q30, .inl (cA, 14, .inl (fun _ => 0))) : Nat × va_E), ((q31, .inl (cA, 40, .inl (fun _ => 0))) : Nat × va_E), ((q32, .inl (cA, 40, .inl (fun _ => 0))) : Nat × va_E), ((q33, .inl (cA, 64, .inl (fun _ => 0))) : Nat × va_E), ((q34, .inl (cA, 64, .inl (fun _ => 0))) : Nat × va_E), ((q35, .inl (cA, 64, .inl (fun _ => 0))) : Nat × va_E), ((q36, .inl (cA, 40, .inl (fun _ => 0))) : Nat × va_E), ((q37, .inl (cA, 40, .inl (fun _ => 0))) : Nat × va_E), ((q38, .inl (cA, 40, .inl (fun _ => 0))) : Nat × va_E), ((q39, .inl (cA, 40, .inl (fun _ => 0))) : Nat × va_E), ((q40, .inl (cA, 40, .inl (fun _ => 0))) : Nat × va_E), ((q41, .inl (cA, 40, .inl (fun _ => 0))) : Nat × va_E), ((q42, .inl (cA, 40, .inl (fun _ => 0))) : Nat × va_E), ((q43, .inl (cA, 600, .inl (fun _ => 0))) : Nat × va_E), ((q44, .inl (cA, 600, .inl (fun _ => 0))) : Nat × va_E), ((q45, .inl (cA, 800, .inl (fun _ => 0))) : Nat × va_E), ((q46, .inl (cA, 800, .inl (fun _ => 0))) : Nat × va_E), ((q47, .inl (cB, 600, .inl (fun _ => 0))) : Nat × va_E), ((q48, .inl (cA, 600, .inl (fun _ => 0))) : Nat × va_E), ((q49, .inl (cA, 1300, .inl (fun _ => 0))) : Nat × va_E), ((q50, .inl (cA, 1300, .inl (fun _ => 0))) : Nat × va_E), ((q51, .inl (cA, 3900, .inl (fun _ => 0))) : Nat × va_E), ((q52, .inl (cA, 64, .inl (fun _ => 0))) : Nat × va_E), ((q53, .inl (cA, 64, .inl (fun _ => 0))) : Nat × va_E), ((q54, .inl (cA, 64, .inl (fun _ => 0))) : Nat × va_E), ((q55, .inl (cA, 64, .inl (fun _ => 0))) : Nat × va_E), ((q56, .inl (cA, 192, .inl (fun _ => 0))) : Nat × va_E), ((q57, .inl (cA, 160, .inl (fun _ => 0))) : Nat × va_E), ((q58, .inl (cA, 1300, .inl (fun _ => 0))) : Nat × va_E)] := by
  simp only [List.append_assoc, List.cons_append, List.nil_append]
theorem zn_go_mono {cA cB : ClassId} {K K' : List Value → va_W → Prop} (hK : ∀ fs tl, K fs tl → K' fs tl) : ∀ (rs : List zn_r) (fs : List Value) (tl : va_W), zn_go cA cB rs fs tl K → zn_go cA cB rs fs tl K' := by
  intro rs
  induction rs with
  | nil => intro fs tl h; exact hK fs tl h
  | cons r rs ih => intro fs tl h q; exact ih _ _ (h q)
set_option maxHeartbeats 2000000 in
set_option maxRecDepth 100000 in
theorem zn_Mo (l : Launch) (D : va_G) (cA cB : ClassId) (X : zm_T) (n0 t0 b h : Nat) (a0 : Nat → Nat) (sz : Nat) : Met l zn_yMo.1 (zw_ws zt_big zn_yMo) { frames := 10, cells := 36, slots := 16508, locals := 640 } (zi_P n0 X t0 b D cA cB h a0 sz) (zi_Q t0 b D cA cB h a0 sz) 36 16508 (va_A (zi_ws h a0 cA cB) sz) := by
  refine Met.ofW (cc := prog_8_method_1_code) (maxL := 2) (ret := none) (by decide +kernel) rfl ?_
  intro p e s m args below meth c s₁ B hml hv
  obtain ⟨rfl, hsz, hn0, hP, hF, hD0⟩ := hv
  have hx := B.exec
  have hb := B.bytes
  have hr := B.returns
  have hts0 := atoms_spec (ws := zw_ws zt_big zn_yMo) B.pre
  have hts : ∀ w ∈ zt_big, w.before ([Value.ref h] : List Value).toArray s = true := fun w hw => hts0 w (List.mem_cons_of_mem _ hw)
  have hown : s.vm.findClass "RigidCasesModel" = some m.cls := findClass_of_methodNamed B.named
  have hlocks := B.notSynchronized
  have hin : meth.name = "<init>" := (name_of_methodNamed B.named B.method).1
  subst hsz
  have hD := hD0.self (sz := s.heap.size)
  have hl := lv_entry [.ref h] (n := 2) (Nat.le_of_ble_eq_true rfl)
  rw [lg_entry_eq]
  generalize (lg_sl [.ref h] ++ List.replicate (2 - (lg_sl [.ref h]).length) Slot.unset).toArray = ls at hl ⊢
  have hl : lv_has ls 2 [(0, .ref h)] := hl
  refine lv_aload_n (k := 0) hx hb (by decide +kernel) rfl (lv_at hl 0 rfl) ?_
  refine W.objInit (idx := 1) hx hb hown (hts _ (zt_in 623 (by decide +kernel) (by decide +kernel))) (hts (.instanceMethod Lib.objectInit) (zt_in 18 (by decide +kernel) (by decide +kernel))) (hts (.code Lib.objectInit ⟨#[0xb1]⟩ 1 none) (zt_in 19 (by decide +kernel) (by decide +kernel))) rfl (by rw [hml]; exact hl.1) rfl (show decode prog_8_method_1_code 1 = .ok (.invokespecial 1, 3) from by decide +kernel) (Nat.le_of_ble_eq_true rfl) (Nat.le_of_ble_eq_true rfl) ?_
  refine W.eq (g2 := F0 m 4 ls []) rfl ?_
  have hK := hF.1.1
  have hA : ∀ q : Nat, s.heap.size ≤ q → va_A (zi_ws h a0 cA cB) s.heap.size q := fun q h => Or.inr h
  refine zn_rows (own := 6) (ci := 6) (pe := 251) (ce := 29) (se := 14600) hx hb hts hown hin hK hA zn_hiA (lv_at hl 0 rfl) rfl rfl (Nat.le_of_ble_eq_true rfl) (Nat.le_of_ble_eq_true rfl) zi_r1 4 zi_fs (zi_c a0 cA cB) s.heap [] 0 0 zi_k1 rfl rfl rfl hP hD va_S.rf ?_
  refine zn_go_mono (K := fun fs tl => ∀ (fs' : List Value) (tl' : va_W), fs = fs' → tl = tl' → ∀ (H : Heap) (locs : List Loc), va_P D zt_cl ((h, .inr (6, fs')) :: tl') H → va_D (va_A (zi_ws h a0 cA cB) s.heap.size) ((h, .inr (6, fs')) :: tl') → va_S (va_A (zi_ws h a0 cA cB) s.heap.size) s.heap H locs → W p l e { frames := 10, cells := 36, slots := 16508, locals := 640 } s m ([Value.ref h] : List Value).toArray below meth c H locs 29 14600 (MQ below (zi_Q t0 b D cA cB h a0 s.heap.size) ([Value.ref h] : List Value).toArray s 36 16508 (va_A (zi_ws h a0 cA cB) s.heap.size)) (F0 m 251 ls [])) (fun fs tl g H locs => g fs tl rfl rfl H locs) _ _ _ ?_
  intro q23 q24 q25 q26 q27 q28 q29 q30 q31 q32 q33 q34 q35 q36 q37 q38 q39 q40 q41 q42 q43 q44 q45 q46 q47 q48 q49 q50 q51 fs1 tl1 e1 e2 H locs hP hD hS
  have hl1 : fs1.length = 57 := by
    rw [← e1]
    simp only [List.length_set]
    rfl
  refine lv_aload_n (k := 0) hx hb (by decide +kernel) rfl (lv_at hl 0 rfl) ?_
  refine lv_iconst (n := -1) (v := -1) hx hb (by decide +kernel) (by decide) ?_
  refine zn_putw (k := 41) (idx := 98) (v := .int (-1)) (ty := .int) hx hb hts hown hin hK hP hD hS rfl rfl (by decide) (by decide +kernel) (by decide +kernel) (by decide +kernel) rfl rfl (by rw [hl1]; decide) (by decide +kernel) (fun H locs hP hD hS => ?_)
  refine zn_rows (own := 6) (ci := 6) (pe := 315) (ce := 36) (se := 16508) hx hb hts hown hin hK hA zn_hiA (lv_at hl 0 rfl) rfl rfl (Nat.le_of_ble_eq_true rfl) (Nat.le_of_ble_eq_true rfl) zi_r2 256 _ _ H locs 29 14600 zi_k2 (by rw [List.length_set]; exact hl1) rfl rfl hP hD hS ?_
  refine zn_go_mono (K := fun fs tl => ∀ (fs' : List Value) (tl' : va_W), fs = fs' → tl = tl' → ∀ (H : Heap) (locs : List Loc), va_P D zt_cl ((h, .inr (6, fs')) :: tl') H → va_D (va_A (zi_ws h a0 cA cB) s.heap.size) ((h, .inr (6, fs')) :: tl') → va_S (va_A (zi_ws h a0 cA cB) s.heap.size) s.heap H locs → W p l e { frames := 10, cells := 36, slots := 16508, locals := 640 } s m ([Value.ref h] : List Value).toArray below meth c H locs 36 16508 (MQ below (zi_Q t0 b D cA cB h a0 s.heap.size) ([Value.ref h] : List Value).toArray s 36 16508 (va_A (zi_ws h a0 cA cB) s.heap.size)) (F0 m 315 ls [])) (fun fs tl g H locs => g fs tl rfl rfl H locs) _ _ _ ?_
  intro q52 q53 q54 q55 q56 q57 q58 fs2 tl2 e3 e4 H locs hP hD hS
  have hf1 := e1.symm.trans (zi_set1 q23 q24 q25 q26 q27 q28 q29 q30 q31 q32 q33 q34 q35 q36 q37 q38 q39 q40 q41 q42 q43 q44 q45 q46 q47 q48 q49 q50 q51)
  have hf2 := e2.symm.trans (zi_app1 a0 cA cB q23 q24 q25 q26 q27 q28 q29 q30 q31 q32 q33 q34 q35 q36 q37 q38 q39 q40 q41 q42 q43 q44 q45 q46 q47 q48 q49 q50 q51)
  rw [hf1] at e3
  rw [hf2] at e4
  have hf3 := e3.symm.trans (zi_set2 q23 q24 q25 q26 q27 q28 q29 q30 q31 q32 q33 q34 q35 q36 q37 q38 q39 q40 q41 q42 q43 q44 q45 q46 q47 q48 q49 q50 q51 q52 q53 q54 q55 q56 q57 q58)
  have hf4 := e4.symm.trans (zi_app2 a0 cA cB q23 q24 q25 q26 q27 q28 q29 q30 q31 q32 q33 q34 q35 q36 q37 q38 q39 q40 q41 q42 q43 q44 q45 q46 q47 q48 q49 q50 q51 q52 q53 q54 q55 q56 q57 q58)
  have hw : ((h, .inr (6, fs2)) :: tl2 : va_W) = zi_w a0 cA cB h q23 q24 q25 q26 q27 q28 q29 q30 q31 q32 q33 q34 q35 q36 q37 q38 q39 q40 q41 q42 q43 q44 q45 q46 q47 q48 q49 q50 q51 q52 q53 q54 q55 q56 q57 q58 := by
    rw [hf3, hf4]
    rfl
  rw [hw] at hP hD
  have hg : ∀ (k : Nat) (q : Nat × va_E), (zw_W zs (zi_ad a0 t0 b h [q23, q24, q25, q26, q27, q28, q29, q30, q31, q32, q33, q34, q35, q36, q37, q38, q39, q40, q41, q42, q43, q44, q45, q46, q47, q48, q49, q50, q51, q52, q53, q54, q55, q56, q57, q58]) cA cB zi_0)[k]? = some q → (zi_w a0 cA cB h q23 q24 q25 q26 q27 q28 q29 q30 q31 q32 q33 q34 q35 q36 q37 q38 q39 q40 q41 q42 q43 q44 q45 q46 q47 q48 q49 q50 q51 q52 q53 q54 q55 q56 q57 q58)[zi_g k]? = some q := by
    intro k q hk
    obtain ⟨x, hx, rfl⟩ := zw_of hk
    exact zi_p1 a0 cA cB t0 b h q23 q24 q25 q26 q27 q28 q29 q30 q31 q32 q33 q34 q35 q36 q37 q38 q39 q40 q41 q42 q43 q44 q45 q46 q47 q48 q49 q50 q51 q52 q53 q54 q55 q56 q57 q58 k x hx
  have hP1 := hP.by zi_g hg
  have hD1 := hD.by zi_g hg (fun i j _ _ he => zi_gi he)
  have b1 : zi_ad a0 t0 b h [q23, q24, q25, q26, q27, q28, q29, q30, q31, q32, q33, q34, q35, q36, q37, q38, q39, q40, q41, q42, q43, q44, q45, q46, q47, q48, q49, q50, q51, q52, q53, q54, q55, q56, q57, q58] 22 = h := rfl
  have b2 : zi_ad a0 t0 b h [q23, q24, q25, q26, q27, q28, q29, q30, q31, q32, q33, q34, q35, q36, q37, q38, q39, q40, q41, q42, q43, q44, q45, q46, q47, q48, q49, q50, q51, q52, q53, q54, q55, q56, q57, q58] 100 = t0 := rfl
  have b3 : zi_ad a0 t0 b h [q23, q24, q25, q26, q27, q28, q29, q30, q31, q32, q33, q34, q35, q36, q37, q38, q39, q40, q41, q42, q43, q44, q45, q46, q47, q48, q49, q50, q51, q52, q53, q54, q55, q56, q57, q58] 101 = b := rfl
  have b4 : ∀ i, i < 22 → zi_ad a0 t0 b h [q23, q24, q25, q26, q27, q28, q29, q30, q31, q32, q33, q34, q35, q36, q37, q38, q39, q40, q41, q42, q43, q44, q45, q46, q47, q48, q49, q50, q51, q52, q53, q54, q55, q56, q57, q58] i = a0 i := by
    intro i hi
    match i, hi with
    | 0, _ => rfl
    | 1, _ => rfl
    | 2, _ => rfl
    | 3, _ => rfl
    | 4, _ => rfl
    | 5, _ => rfl
    | 6, _ => rfl
    | 7, _ => rfl
    | 8, _ => rfl
    | 9, _ => rfl
    | 10, _ => rfl
    | 11, _ => rfl
    | 12, _ => rfl
    | 13, _ => rfl
    | 14, _ => rfl
    | 15, _ => rfl
    | 16, _ => rfl
    | 17, _ => rfl
    | 18, _ => rfl
    | 19, _ => rfl
    | 20, _ => rfl
    | 21, _ => rfl
    | n + 22, hi => omega
  generalize zi_ad a0 t0 b h [q23, q24, q25, q26, q27, q28, q29, q30, q31, q32, q33, q34, q35, q36, q37, q38, q39, q40, q41, q42, q43, q44, q45, q46, q47, q48, q49, q50, q51, q52, q53, q54, q55, q56, q57, q58] = ad at hP1 hD1 b1 b2 b3 b4
  refine zi_fin (X := X) (n0 := n0) hx hb hml hown hts hF hn0 hD0 hl ⟨Nat.le_refl _, Nat.le_refl _, Nat.le_refl _, Nat.le_refl _⟩ b1 b2 b3 b4 hP1 hD1 hS ?_
  intro H locs ls pc hP hD hS hd
  exact W.vret hx hb hr (fun t ht hW => ⟨⟨ad, rfl, ⟨b4 0 (by decide), b1, b2, b3⟩, by rw [ht]; exact hP, hD⟩, hS.F ht⟩) hS.2.2 hd

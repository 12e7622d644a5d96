def zn_fl (i : Nat) : Nat → Int32 := fun j => if j < i then -1 else 0
theorem zn_fl_up {i : Nat} : upd (zn_fl i) i (-1) = zn_fl (i + 1) := by
  funext j
  unfold upd zn_fl
  by_cases h : j = i
  · subst h
    simp
  · rw [if_neg h]
    by_cases h2 : j < i
    · rw [if_pos h2, if_pos (by omega)]
    · rw [if_neg h2, if_neg (by omega)]
def zn_yFi : zw_Mt := (⟨"java/util/Arrays", "fill", "([II)V"⟩, prog_12_method_103_code, 4, none, 8)
section ZN4
variable {p : Program} {l : Launch} {e : Env} {R : Room} {s : State} {m : MethodId} {args : Array Value} {below : List Frame} {meth : Method} {c : Code} {H H0 : Heap} {locs : List Loc} {cells slots : Nat} {Q : State → Prop}
variable {cc : ByteArray} {pc nL : Nat} {ls : Array Slot} {rest : List Value} {D : va_G} {cA cB : ClassId} {ws : va_W} {A : Nat → Prop}
theorem zn_floop {q : Nat} (hx : p.tables.exec = Jvm.exec) (hb : c.code = prog_12_method_103_code) (hK : va_K D zt_cl (zn_t cA cB) s)
    (kk : ∀ (H : Heap) (locs : List Loc) (ls : Array Slot), va_P D zt_cl [(q, .inl (cA, 466, .inl (zn_fl 466)))] H → va_D A [(q, .inl (cA, 466, .inl (zn_fl 466)))] → va_S A H0 H locs → W p l e R s m args below meth c H locs cells slots Q (F0 m 20 ls [])) :
    ∀ (r i : Nat) (H : Heap) (locs : List Loc) (ls : Array Slot), i + r = 466 → va_P D zt_cl [(q, .inl (cA, 466, .inl (zn_fl i)))] H → va_D A [(q, .inl (cA, 466, .inl (zn_fl i)))] → va_S A H0 H locs → lv_has ls 4 [(2, .int (nI i)), (3, .int 466), (0, .ref q), (1, .int (-1))] → W p l e R s m args below meth c H locs cells slots Q (F0 m 5 ls []) := by
  intro r
  induction r with
  | zero =>
    intro i H locs ls hi hP hD hS hl
    have hi : i = 466 := by omega
    subst hi
    refine lv_iload_n (k := 2) hx hb (by decide +kernel) rfl (lv_at hl 0 rfl) ?_
    refine lv_iload_n (k := 3) hx hb (by decide +kernel) rfl (lv_at hl 1 rfl) ?_
    refine lv_icmp_ge (off := 13) (tgt := 20) hx hb (by decide +kernel) (by decide) (fun _ => ?_) (fun h => ?_)
    · exact kk H locs ls hP hD hS
    · exact absurd (show (466 : Int32) ≤ nI 466 by decide) h
  | succ r ih =>
    intro i H locs ls hi hP hD hS hl
    have h1 : i < 466 := by omega
    have ht : (nI i).toInt = i := nI_t (by omega)
    have hcl : (nI i).toNatClampNeg = i := nI_c (by omega)
    refine lv_iload_n (k := 2) hx hb (by decide +kernel) rfl (lv_at hl 0 rfl) ?_
    refine lv_iload_n (k := 3) hx hb (by decide +kernel) rfl (lv_at hl 1 rfl) ?_
    refine lv_icmp_ge (off := 13) (tgt := 20) hx hb (by decide +kernel) (by decide) (fun h => ?_) (fun _ => ?_)
    · exfalso
      rw [Int32.le_iff_toInt_le, ht] at h
      have h9 : (466 : Int32).toInt = 466 := by decide
      omega
    refine lv_aload_n (k := 0) hx hb (by decide +kernel) rfl (lv_at hl 2 rfl) ?_
    refine lv_iload_n (k := 2) hx hb (by decide +kernel) rfl (lv_at hl 0 rfl) ?_
    refine lv_iload_n (k := 1) hx hb (by decide +kernel) rfl (lv_at hl 3 rfl) ?_
    refine va_iast (cA := cA) (n := 466) (f := zn_fl i) hx hb hK hP hD hS 0 0 rfl rfl (i := nI i) (x := -1) (by unfold vp_in; rw [hcl, Int32.lt_iff_toInt_lt, ht]; simp; omega) (by decide +kernel) (fun H locs hP hD hS => ?_)
    rw [hcl, zn_fl_up] at hP hD
    refine lv_iinc (n := 1) (v := nI (i + 1)) (k := 0) hx hb (by decide +kernel) hl rfl (nI_1 i) (by decide) rfl (fun ls' hl' => ?_)
    refine lv_goto (off := -12) (tgt := 5) hx hb (by decide +kernel) (by decide) ?_
    exact ih (i + 1) H locs ls' (by omega) hP hD hS hl'
theorem zn_new {C own : String} {T : u_T} {N ci idx : Nat} {fs : List Value} (hx : p.tables.exec = Jvm.exec) (hb : c.code = cc) (hts : ∀ w ∈ zt_big, w.before args s = true) (hown : s.vm.findClass own = some m.cls) (hK : va_K D zt_cl (zn_t cA cB) s) (hP : va_P D zt_cl ws H) (hD : va_D A ws) (hS : va_S A H0 H locs) (hA : ∀ q, H0.size ≤ q → A q)
    (hc : zt_cl[ci]? = some (C, T, N)) (ty : Nat → FieldType) (hty : ∀ k, k < N → parseFieldDescriptor (T k).2.2.1 = some (ty k)) (hcl : Cond.classLink own idx C ∈ zt_big) (hinst : Cond.instantiable C N ∈ zt_big) (hini : Cond.initialized C ∈ zt_big) (hfs : ∀ j, j < N → defaultValue (ty j) = vp_V fs j) (hcells : cells + 1 ≤ R.cells) (hslots : slots + N ≤ R.slots) (hdg : decode cc pc = .ok (.new idx, 3))
    (kk : ∀ (q : Nat) (H1 : Heap), va_P D zt_cl (ws ++ [(q, .inr (ci, fs))]) H1 → va_D A (ws ++ [(q, .inr (ci, fs))]) → va_S A H0 H1 locs → W p l e R s m args below meth c H1 locs (cells + 1) (slots + N) Q (F0 m (pc + 3) ls (.ref q :: rest))) : W p l e R s m args below meth c H locs cells slots Q (F0 m pc ls rest) :=
  va_new (ci := ci) (fs := fs) (C := C) (T := T) (N := N) hx hb hts (zt_kc ci _ hc).1 ty hty hown (hts _ hcl) (hts _ hinst) (hts _ hini) hK hP hD hS hA hc hfs hcells hslots hdg kk
end ZN4
set_option maxHeartbeats 4000000 in
theorem zn_Fi (l : Launch) (D : va_G) (cA cB : ClassId) (q : Nat) : zn_Met (S := Unit) l D cA cB zn_yFi { frames := 1, cells := 0, slots := 0, locals := 64 } [.ref q, .int (-1)] [(q, .inl (cA, 466, .inl (fun _ => 0)))] (fun _ => [(q, .inl (cA, 466, .inl (zn_fl 466)))]) 0 0 := by
  intro sz
  refine Met.ofW (cc := prog_12_method_103_code) (maxL := 4) (ret := none) (by decide +kernel) rfl ?_
  intro p e s m args below meth c s₁ B hml hv
  obtain ⟨rfl, hsz, hP, hG, hD0⟩ := hv
  have hx := B.exec
  have hb := B.bytes
  have hr := B.returns
  have hlocks := B.notSynchronized
  have hK := hG.1
  subst hsz
  have hD := hD0.self (sz := s.heap.size)
  generalize hW0 : ([(q, .inl (cA, 466, .inl (fun _ => 0)))] : va_W) = W0 at hD ⊢
  have hD : va_D (va_A W0 s.heap.size) [(q, .inl (cA, 466, .inl (fun _ => 0)))] := by rw [hW0]; exact hD
  have hl := lv_entry ([.ref q, .int (-1)]) (n := 4) (Nat.le_of_ble_eq_true rfl)
  rw [lg_entry_eq]
  generalize (lg_sl ([.ref q, .int (-1)]) ++ List.replicate (4 - (lg_sl ([.ref q, .int (-1)])).length) Slot.unset).toArray = ls at hl ⊢
  have hl : lv_has ls 4 [(0, .ref q), (1, .int (-1))] := hl
  have hf0 : (fun _ => 0 : Nat → Int32) = zn_fl 0 := by
    funext j
    unfold zn_fl
    rw [if_neg (by omega)]
  rw [hf0] at hP hD
  refine lv_iconst (n := 0) (v := 0) hx hb (by decide +kernel) (by decide) ?_
  refine lv_istore_n (k := 2) (lv' := [(2, .int 0), (0, .ref q), (1, .int (-1))]) hx hb (by decide +kernel) rfl hl (by decide) rfl (fun ls hl => ?_)
  refine lv_aload_n (k := 0) hx hb (by decide +kernel) rfl (lv_at hl 1 rfl) ?_
  refine va_alen (v := 466) hx hb hK hP 0 0 rfl (ty := .int) rfl (by decide) (by decide +kernel) ?_
  refine lv_istore_n (k := 3) (lv' := [(3, .int 466), (2, .int 0), (0, .ref q), (1, .int (-1))]) hx hb (by decide +kernel) rfl hl (by decide) rfl (fun ls hl => ?_)
  refine zn_floop (A := va_A W0 s.heap.size) (q := q) hx hb hK ?_ 466 0 s.heap [] ls rfl hP hD va_S.rf (⟨hl.1, hl.2.1, fun x hx9 => hl.2.2 x (by simp only [List.mem_cons, List.not_mem_nil, or_false] at hx9 ⊢; rcases hx9 with h | h | h | h <;> simp [h, nI])⟩)
  intro H locs ls hP hD hS
  exact W.vret hx hb hr (fun t ht hW => ⟨⟨(), rfl, trivial, by rw [ht]; exact hP, hD⟩, hS.F ht⟩) hS.2.2 (by decide +kernel)
theorem zn_yt0 : ∀ k, k < 6 → parseFieldDescriptor (zt_T0 k).2.2.1 = some (zt_y0 k) := by decide +kernel
theorem zn_yt1 : ∀ k, k < 4 → parseFieldDescriptor (zt_T1 k).2.2.1 = some (zt_y1 k) := by decide +kernel
theorem zn_yt2 : ∀ k, k < 8 → parseFieldDescriptor (zt_T2 k).2.2.1 = some (zt_y2 k) := by decide +kernel
theorem zn_yt3 : ∀ k, k < 6 → parseFieldDescriptor (zt_T3 k).2.2.1 = some (zt_y3 k) := by decide +kernel
theorem zn_yt4 : ∀ k, k < 7 → parseFieldDescriptor (zt_T4 k).2.2.1 = some (zt_y4 k) := by decide +kernel
theorem zn_yt5 : ∀ k, k < 9 → parseFieldDescriptor (zt_T5 k).2.2.1 = some (zt_y5 k) := by decide +kernel
theorem zn_yt6 : ∀ k, k < 57 → parseFieldDescriptor (zt_T6 k).2.2.1 = some (zt_y6 k) := by decide +kernel

section ZF2
variable {p : Program} {l : Launch} {e : Env} {s : State} {m : MethodId} {below : List Frame} {meth : Method} {c : Code} {H : Heap} {locs : List Loc}
variable {ls : Array Slot} {D : va_G} {cA cB : ClassId} {b L t0 : Nat} {xs : Nat → Int32} {ad : Nat → Nat}
theorem zf_end (hL : L ≤ 2048) (hx : p.tables.exec = Jvm.exec) (hb : c.code = code) (hr : meth.sig.returnType = ret) (hml : c.maxLocals = 4) (hown : s.vm.findClass R_law = some m.cls) (hts : ∀ w ∈ zt_big, w.before #[Value.ref b] s = true) (hlocks : meth.locks = false) (hF : zi_F s.heap.size (L, xs) t0 b D cA cB s) (h1 : ad 100 = t0) (h2 : ad 101 = b)
    (hP : va_P D zt_cl (zw_W zs ad cA cB zi_2) H) (hD : va_D (fun q => s.heap.size ≤ q) (zw_W zs ad cA cB zi_2)) (hS : va_S (fun q => s.heap.size ≤ q) s.heap H locs) (hl : lv_has ls 4 [(0, .ref (ad 101)), (1, .ref (ad 0)), (2, .ref (ad 22)), (3, .int 0)]) :
    W p l e room_1 s m #[Value.ref b] below meth c H locs 600000 7302250 (lw_Z below #[Value.ref b] s) (F0 m 18 ls []) := by
  refine va_forget (fun q hq => hS.2.2 q hq) ?_
  have hn : ∀ q, zw_A zs ad q → s.heap.size ≤ q := fun q hq => zi_Aof hD hq
  have hzF := zi_FF hF h1 h2 hn
  have hS1 : va_S (zw_A zs ad) s.heap H [] := ⟨hS.1, fun q q1 _ => hS.2.1 q q1 (by show ¬ s.heap.size ≤ q; omega), fun _ h => by cases h⟩
  obtain ⟨F, r, μ', hrun, v, rfl, rfl⟩ := law_loop (X := (L, xs)) (d := 200) (by decide) hL L 0 zi_2 (by show L ≤ 0 + L; omega) (by decide) Rel_0
  refine zw_inner (d := 200) (call := zm_ev zs zc (L, xs) F 200) (t := zc 160) (cc := code) (nL := 4) (own := 7) (ret := ret) (big := zt_big) (nest := zt_nest) (cn := zt_cn) (tb := zt_tb) (M := zt_M) (np := zt_np) (N := 162) (sh := zs) (X := (L, xs)) (ad := ad) (cA := cA) (cB := cB) (D := D) (cl := zt_cl) (μ' := μ') (r := some (.inl 1)) ⟨hx, hb, hml, hown, hts, hzF, zi_inj hD⟩ zt_K zt_KC (by decide) ?_ (zt_ck 160 (by decide)).2.2 (fun n as μ r μ' g1 g2 g3 => zw_sound (F := F) (zi_inj hD) zt_K zt_KC zt_ck 200 n as μ r μ' g1 g2 g3) F 18 _ [] zi_2 H [] ls hrun hP hS1 hl rfl
  intro H locs ls pc hP2 hS2 hd
  refine va_forget (fun q hq => hn _ (hS2.2.2 q hq)) ?_
  rcases hd with ⟨v, hv, hd, _⟩ | ⟨hv, _⟩
  · exact lw_ret hx hb hr hlocks hd
  · cases hv
end ZF2
set_option maxHeartbeats 4000000 in
set_option maxRecDepth 100000 in
theorem whole_start {p : Program} {e : Env} {s : State} {m : MethodId} {below : List Frame} {meth : Method} {c : Code} (l : Launch) {b L : Nat} {xs : Nat → Int32} (hL : L ≤ 2048) (C0 : lw_At p s m meth c b L xs) : W p l e room_1 s m #[Value.ref b] below meth c s.heap [] 0 0 (lw_Z below #[Value.ref b] s) (entryFrame m ([Value.ref b] : List Value).toArray 4) := by
  obtain ⟨hts, D, cA, cB, t0, hF⟩ := zf_facts hL C0
  obtain ⟨hx, hb, hr, hml, hown, -, -, hbl, hlocks, -⟩ := C0
  have hG := hF.1
  have hK := hG.1
  have hA : ∀ q : Nat, s.heap.size ≤ q → (fun q => s.heap.size ≤ q) q := fun q h => h
  have hS : va_S (fun q => s.heap.size ≤ q) s.heap s.heap [] := va_S.rf
  have hP : va_P D zt_cl [] s.heap := fun k q h => by simp at h
  have hD : va_D (fun q => s.heap.size ≤ q) [] := ⟨fun i j p q h => by simp at h, fun k q h => by simp at h⟩
  have hl := lv_entry ([.ref b]) (n := 4) (Nat.le_of_ble_eq_true rfl)
  rw [lg_entry_eq]
  generalize (lg_sl ([.ref b]) ++ List.replicate (4 - (lg_sl ([.ref b])).length) Slot.unset).toArray = ls at hl ⊢
  have hl : lv_has ls 4 [(0, .ref b)] := hl
  refine zn_new (ci := 0) (idx := 7) (fs := [.null, .null, .null, .null, .int 0, .int 0]) hx hb hts hown hK hP hD hS hA rfl zt_y0 zn_yt0 (zt_in 12 (by decide +kernel) (by decide +kernel)) (zt_in 13 (by decide +kernel) (by decide +kernel)) (zt_in 1 (by decide +kernel) (by decide +kernel)) (by decide +kernel) (by decide) (by decide) (by decide +kernel) (fun q0 H hP hD hS => ?_)
  have hP : va_P D zt_cl [(q0, .inr (0, [.null, .null, .null, .null, .int 0, .int 0]))] H := hP
  have hD : va_D (fun q => s.heap.size ≤ q) [(q0, .inr (0, [.null, .null, .null, .null, .int 0, .int 0]))] := hD
  refine lv_dup hx hb (by decide +kernel) rfl ?_
  refine zn_callI (b := q0) (idx := 9) (n := 0) (As := []) (rest := [.ref q0]) (wr := []) (zn_Rc l D cA cB q0) hx hb hml hown hts hG hl.1 rfl rfl rfl (zt_in 16 (by decide +kernel) (by decide +kernel)) (zt_in 1 (by decide +kernel) (by decide +kernel)) (zt_in 15 (by decide +kernel) (by decide +kernel)) (Or.inl (zt_in 14 (by decide +kernel) (by decide +kernel))) rfl (by decide +kernel) (by decide) rfl (Nat.le_of_ble_eq_true rfl) (by decide +kernel) (by decide) hP hD hS hA [0] [] hP (hD.weaken (B := fun _ => True) (fun _ _ _ _ => trivial)) rfl rfl (by decide) (by decide) (fun u H locs hP hD hS => ?_)
  have hP : va_P D zt_cl (zf_w cA q0 u) H := hP
  have hD : va_D (fun q => s.heap.size ≤ q) (zf_w cA q0 u) := hD
  have hP := hP.by (ws' := zi_c (zf_a q0 u) cA cB) zf_g (zf_p cA cB q0 u)
  have hD := hD.by (ws' := zi_c (zf_a q0 u) cA cB) zf_g (zf_p cA cB q0 u) (fun i j hi hj => zf_gi i hi j hj)
  have ha0 : zf_a q0 u 0 = q0 := rfl
  generalize zf_a q0 u = a0 at hP hD ha0
  refine lv_astore_n (k := 1) (lv' := [(1, .ref q0), (0, .ref b)]) hx hb (by decide +kernel) rfl hl (by decide) rfl (fun ls hl => ?_)
  refine zn_new (ci := 6) (idx := 10) (fs := zi_fs) hx hb hts hown hK hP hD hS hA rfl zt_y6 zn_yt6 (zt_in 618 (by decide +kernel) (by decide +kernel)) (zt_in 619 (by decide +kernel) (by decide +kernel)) (zt_in 8 (by decide +kernel) (by decide +kernel)) (by decide +kernel) (by decide) (by decide) (by decide +kernel) (fun h H hP hD hS => ?_)
  have hP := hP.by (ws' := zi_ws h a0 cA cB) (fun k => if k = 0 then 22 else k - 1) zf_q
  have hD := hD.by (ws' := zi_ws h a0 cA cB) (fun k => if k = 0 then 22 else k - 1) zf_q (fun i j hi hj he => by
    have hi : i < 23 := hi
    have hj : j < 23 := hj
    split at he <;> split at he <;> omega)
  refine lv_dup hx hb (by decide +kernel) rfl ?_
  refine zf_call (idx := 12) hx hb hml hown hts hF hl.1 (zt_in 620 (by decide +kernel) (by decide +kernel)) (by decide) (Nat.le_of_ble_eq_true rfl) (by decide +kernel) (by decide) hP hD hS (fun ad H locs had hP hD hS => ?_)
  obtain ⟨d0, d1, d2, d3⟩ := had
  refine lv_astore_n (k := 2) (lv' := [(2, .ref h), (1, .ref q0), (0, .ref b)]) hx hb (by decide +kernel) rfl hl (by decide) rfl (fun ls hl => ?_)
  refine lv_iconst (n := 0) (v := 0) hx hb (by decide +kernel) (by decide) ?_
  refine lv_istore_n (k := 3) (lv' := [(3, .int 0), (2, .ref h), (1, .ref q0), (0, .ref b)]) hx hb (by decide +kernel) rfl hl (by decide) rfl (fun ls hl => ?_)
  refine W.widen (k := 600000) (n := 7302250) (by decide) (by decide) ?_
  refine zf_end hL hx hb hr hml hown hts hlocks hF d2 d3 hP hD hS ?_
  rw [d3, d1, d0, ha0]
  exact ⟨hl.1, hl.2.1, fun x hx9 => hl.2.2 x (by
    simp only [List.mem_cons, List.not_mem_nil, or_false] at hx9 ⊢
    rcases hx9 with h | h | h | h <;> simp [h])⟩

def zn_G (D : va_G) (cA cB : ClassId) (U : State) : Prop := va_K D zt_cl (zn_t cA cB) U ∧ ∀ w ∈ zt_nest, va_Nw w U
theorem zn_G.to {D : va_G} {cA cB : ClassId} {s U : State} (h : zn_G D cA cB s) (hW : s.WarmedH U.vm) : zn_G D cA cB U := by
  refine ⟨va_K.moved hW.alike h.1, fun w hw => ?_⟩
  rcases zt_nk w hw with ⟨a, i, b, n, d, h9, rfl⟩ | ⟨a, i, x, h9, rfl⟩
  · exact va_Nw.warmF hW (h.2 _ hw)
  · exact va_Nw.warmM hW (h.2 _ hw)
theorem zn_G.same {D : va_G} {cA cB : ClassId} {U : State} {g : JFrame} {mk : MethodId} {a : Array Value} (h : zn_G D cA cB U) : zn_G D cA cB (U.calling g mk a) := by
  refine ⟨va_K.moved (u := U) (U := U.calling g mk a) (Vm.Alike.refl U.vm) h.1, fun w hw => ?_⟩
  rcases zt_nk w hw with ⟨a1, i, b, n, d, h9, rfl⟩ | ⟨a1, i, x, h9, rfl⟩
  · exact va_Nw.same (u := U) rfl rfl (h.2 _ hw)
  · exact va_Nw.same (u := U) rfl rfl (h.2 _ hw)
def zn_P (D : va_G) (cA cB : ClassId) (as : List Value) (ws : va_W) (sz : Nat) : Array Value → State → Prop := va_Pc as (fun U => U.heap.size = sz ∧ va_P D zt_cl ws U.heap ∧ zn_G D cA cB U ∧ va_D (fun _ => True) ws)
def zn_Q {S : Type} (D : va_G) (ws : va_W) (sz : Nat) (ws' : S → va_W) : Array Value → State → Outcome → State → Prop := va_Qv (fun _ : S => True) (fun u t => va_P D zt_cl (ws' u) t.heap ∧ va_D (va_A ws sz) (ws' u)) (va_A ws sz)
def zn_Met {S : Type} (l : Launch) (D : va_G) (cA cB : ClassId) (y : zw_Mt) (rm : Room) (as : List Value) (ws : va_W) (ws' : S → va_W) (mc ms : Nat) : Prop :=
  ∀ sz, Met l y.1 (zw_ws zt_big y) rm (zn_P D cA cB as ws sz) (zn_Q D ws sz ws') mc ms (va_A ws sz)
theorem zn_blind {D : va_G} {cA cB : ClassId} {as : List Value} {ws : va_W} {sz : Nat} : FrameBlind (zn_P D cA cB as ws sz) := by
  intro a U g mk q
  obtain ⟨q0, q1, q2, q3, q4⟩ := q
  exact ⟨q0, q1, q2, q3.same, q4⟩
theorem zn_enter {S : Type} {l : Launch} {D : va_G} {cA cB : ClassId} {y : zw_Mt} {rm : Room} {h0 : Nat} {As : List Value} {ws : va_W} {ws' : S → va_W} {mc ms idx : Nat} (hpl : plainName y.1.cls = true) (hret : y.2.2.2.1 = none) (hnm : y.1.name = "<init>") (hlen : (lg_sl (.ref h0 :: As)).length ≤ y.2.2.1)
    (hlk : Cond.methodLink y.1.cls idx Lib.objectInit ∈ zt_big) (hd0 : decode y.2.1 0 = .ok (.aload_n 0, 1)) (hd1 : decode y.2.1 1 = .ok (.invokespecial idx, 3)) (hfr : 1 ≤ rm.frames) (hlo : 12 ≤ rm.locals)
    (kk : ∀ (p : Program) (e : Env) (s : State) (m : MethodId) (below : List Frame) (meth : Method) (c : Code) (ls : Array Slot), p.tables.exec = Jvm.exec → c.code = y.2.1 → meth.sig.returnType = none → c.maxLocals = y.2.2.1 → s.vm.findClass y.1.cls = some m.cls → (∀ w ∈ zt_big, w.before (Value.ref h0 :: As).toArray s = true) → meth.name = "<init>" → meth.locks = false → zn_G D cA cB s → va_P D zt_cl ws s.heap → va_D (va_A ws s.heap.size) ws → lv_has ls y.2.2.1 (lv_args 0 (.ref h0 :: As)) →
      W p l e rm s m (Value.ref h0 :: As).toArray below meth c s.heap [] 0 0 (MQ below (zn_Q D ws s.heap.size ws') (Value.ref h0 :: As).toArray s mc ms (va_A ws s.heap.size)) (F0 m 4 ls [])) : zn_Met l D cA cB y rm (.ref h0 :: As) ws ws' mc ms := by
  intro sz
  refine Met.ofW (cc := y.2.1) (maxL := y.2.2.1) (ret := y.2.2.2.1) hpl rfl ?_
  intro p e s m args below meth c s₁ B hml hv
  obtain ⟨rfl, hsz, hP, hG, hD0⟩ := hv
  have hx := B.exec
  have hb := B.bytes
  have hr := B.returns
  rw [hret] at hr
  have hts0 := atoms_spec (ws := zw_ws zt_big y) B.pre
  have hts : ∀ w ∈ zt_big, w.before (Value.ref h0 :: As).toArray s = true := fun w hw => hts0 w (List.mem_cons_of_mem _ hw)
  have hown : s.vm.findClass y.1.cls = some m.cls := findClass_of_methodNamed B.named
  have hlocks := B.notSynchronized
  have hin : meth.name = "<init>" := (name_of_methodNamed B.named B.method).1.trans hnm
  subst hsz
  have hD := hD0.self (sz := s.heap.size)
  have hl := lv_entry (.ref h0 :: As) (n := y.2.2.1) hlen
  rw [lg_entry_eq]
  generalize (lg_sl (.ref h0 :: As) ++ List.replicate (y.2.2.1 - (lg_sl (.ref h0 :: As)).length) Slot.unset).toArray = ls at hl ⊢
  refine lv_aload_n hx hb hd0 rfl (lv_at hl 0 rfl) ?_
  refine W.objInit hx hb hown (hts _ hlk) (hts (.instanceMethod Lib.objectInit) (zt_in 18 (by decide +kernel) (by decide +kernel))) (hts (.code Lib.objectInit ⟨#[0xb1]⟩ 1 none) (zt_in 19 (by decide +kernel) (by decide +kernel))) rfl (by rw [hml]; exact hl.1) rfl hd1 hfr hlo ?_
  exact kk p e s m below meth c ls hx hb hr hml hown hts hin hlocks hG hP hD hl
section ZN2
variable {p : Program} {l : Launch} {e : Env} {R : Room} {s : State} {m : MethodId} {args : Array Value} {below : List Frame} {meth : Method} {c : Code} {H H0 : Heap} {locs : List Loc} {cells slots : Nat} {Q : State → Prop}
variable {cc : ByteArray} {pc nL : Nat} {ls : Array Slot} {rest : List Value} {D : va_G} {cA cB : ClassId} {ws : va_W} {A : Nat → Prop}
theorem zn_after {S : Type} {wc wr : va_W} {ws' : S → va_W} {mc ms : Nat} {st0 : List Value} {a : Array Value} (hr : va_Run p l e R s m args below meth c H locs cells slots mc ms (F0 m pc ls st0) rest (zn_Q D wc H.size ws' a) (va_A wc H.size)) (hP : va_P D zt_cl ws H) (hD : va_D A ws) (hS : va_S A H0 H locs) (hA : ∀ q, H0.size ≤ q → A q) (isC isR : List Nat) (hC : isC.map (fun i => ws[i]?) = wc.map some) (hR : isR.map (fun i => ws[i]?) = wr.map some) (hn : va_nd isR = true) (hdis : ∀ i ∈ isR, i ∉ isC)
    (kk : ∀ (u : S) (H1 : Heap) (locs1 : List Loc), va_P D zt_cl (wr ++ ws' u) H1 → va_D A (wr ++ ws' u) → va_S A H0 H1 locs1 → W p l e R s m args below meth c H1 locs1 (cells + mc) (slots + ms) Q (F0 m (pc + 3) ls rest)) : W p l e R s m args below meth c H locs cells slots Q (F0 m pc ls st0) := by
  have hFc := va_free (wc := wc) hD hS hA isC hC
  refine va_callv hr hS (fun q _ h => hFc q h) hFc (fun u t H1 locs1 ht hvm _ hB hz1 hk1 hS1 => ?_)
  obtain ⟨hP1, hD1⟩ := hB
  rw [ht] at hP1
  obtain ⟨hP2, hD2⟩ := va_join (wr := wr) (w1 := ws' u) hP hD isC isR hC hR hn hdis hk1 hFc hP1 hD1
  exact kk u H1 locs1 hP2 hD2 hS1
theorem zn_callI {S : Type} {y : zw_Mt} {own : String} {rm : Room} {b idx n mc ms : Nat} {As : List Value} {wc wr : va_W} {ws' : S → va_W} (hM : zn_Met l D cA cB y rm (.ref b :: As) wc ws' mc ms) (hx : p.tables.exec = Jvm.exec) (hb : c.code = cc) (hml : c.maxLocals = nL) (hown : s.vm.findClass own = some m.cls) (hts : ∀ w ∈ zt_big, w.before args s = true) (hG : zn_G D cA cB s) (hls : ls.size = nL)
    (hret : y.2.2.2.1 = none) (hrc : rm.cells = mc) (hrs : rm.slots = ms) (hcd : Cond.code y.1 y.2.1 y.2.2.1 y.2.2.2.1 ∈ zt_big) (hini : Cond.initialized y.1.cls ∈ zt_big) (him : Cond.instanceMethod y.1 ∈ zt_big) (hlk : Cond.methodLink own idx y.1 ∈ zt_big ∨ Cond.methodLinkNest own idx y.1 "RigidCases" ∈ zt_nest) (hnm : y.1.name = "<init>") (hyd : y.1.cls ≠ "java/lang/invoke/MethodHandle" ∧ y.1.cls ≠ "java/lang/invoke/VarHandle" ∧ (parseMethodDescriptor y.1.desc).map (fun d => d.parameters.length) = some n)
    (hR : rm.frames + 1 ≤ R.frames ∧ 8 + (y.2.2.1 + 11) + rm.locals ≤ R.locals) (hn : As.length = n) (hcat : (rest.map fun v => v.category).sum ≤ 8) (hdg : decode cc pc = .ok (.invokespecial idx, 3)) (hf : cells + mc ≤ R.cells ∧ slots + ms ≤ R.slots)
    (hP : va_P D zt_cl ws H) (hD : va_D A ws) (hS : va_S A H0 H locs) (hA : ∀ q, H0.size ≤ q → A q) (isC isR : List Nat) (hPc : va_P D zt_cl wc H) (hDc : va_D (fun _ => True) wc) (hC : isC.map (fun i => ws[i]?) = wc.map some) (hRr : isR.map (fun i => ws[i]?) = wr.map some) (hnd : va_nd isR = true) (hdis : ∀ i ∈ isR, i ∉ isC)
    (kk : ∀ (u : S) (H1 : Heap) (locs1 : List Loc), va_P D zt_cl (wr ++ ws' u) H1 → va_D A (wr ++ ws' u) → va_S A H0 H1 locs1 → W p l e R s m args below meth c H1 locs1 (cells + mc) (slots + ms) Q (F0 m (pc + 3) ls rest)) : W p l e R s m args below meth c H locs cells slots Q (F0 m pc ls (As.reverse ++ .ref b :: rest)) := by
  have hSt : CallFix p m c cc nL s args zt_big own := ⟨hx, hb, hml, hown, hts⟩
  have hp : PreS s H (zn_P D cA cB (.ref b :: As) wc H.size) (.ref b :: As) := ⟨zn_blind, fun U hU hW => ⟨rfl, by rw [hU], by rw [hU]; exact hPc, hG.to hW, hDc⟩⟩
  have hrt : Cond.code y.1 y.2.1 y.2.2.1 none ∈ zt_big := by rw [← hret]; exact hcd
  have hw : zw_ws zt_big y = Cond.code y.1 y.2.1 y.2.2.1 none :: zt_big := by unfold zw_ws; rw [hret]
  rcases hlk with hlk | hlk
  · exact zn_after (va_runI hSt (hM H.size) ⟨callB_of n hts (zw_goodIn zt_good hcd) hw hrc hrs (hts _ hini) (hts _ hlk) hyd hR, hnm, hts _ him⟩ hp rfl hn hls rfl (lv_room hcat) hdg hf) hP hD hS hA isC isR hC hRr hnd hdis kk
  · exact zn_after (va_runIN hSt (hM H.size) ⟨va_cnB n hts (zw_goodIn zt_good hcd) hw hrc hrs (hG.2 _ hlk) (hts _ hini) hyd hR, hnm, hts _ him⟩ hp rfl hn hls rfl (lv_room hcat) hdg hf) hP hD hS hA isC isR hC hRr hnd hdis kk
theorem zn_callS {S : Type} {y : zw_Mt} {own : String} {rm : Room} {idx n mc ms : Nat} {As : List Value} {wc wr : va_W} {ws' : S → va_W} (hM : zn_Met l D cA cB y rm As wc ws' mc ms) (hx : p.tables.exec = Jvm.exec) (hb : c.code = cc) (hml : c.maxLocals = nL) (hown : s.vm.findClass own = some m.cls) (hts : ∀ w ∈ zt_big, w.before args s = true) (hG : zn_G D cA cB s) (hls : ls.size = nL)
    (hrc : rm.cells = mc) (hrs : rm.slots = ms) (hcd : Cond.code y.1 y.2.1 y.2.2.1 y.2.2.2.1 ∈ zt_big) (hini : Cond.initialized y.1.cls ∈ zt_big) (him : Cond.static y.1 ∈ zt_big) (hlk : Cond.methodLink own idx y.1 ∈ zt_big) (hyd : y.1.cls ≠ "java/lang/invoke/MethodHandle" ∧ y.1.cls ≠ "java/lang/invoke/VarHandle" ∧ (parseMethodDescriptor y.1.desc).map (fun d => d.parameters.length) = some n)
    (hR : rm.frames + 1 ≤ R.frames ∧ 8 + (y.2.2.1 + 11) + rm.locals ≤ R.locals) (hn : As.length = n) (hcat : (rest.map fun v => v.category).sum ≤ 8) (hdg : decode cc pc = .ok (.invokestatic idx, 3)) (hf : cells + mc ≤ R.cells ∧ slots + ms ≤ R.slots)
    (hP : va_P D zt_cl ws H) (hD : va_D A ws) (hS : va_S A H0 H locs) (hA : ∀ q, H0.size ≤ q → A q) (isC isR : List Nat) (hPc : va_P D zt_cl wc H) (hDc : va_D (fun _ => True) wc) (hC : isC.map (fun i => ws[i]?) = wc.map some) (hRr : isR.map (fun i => ws[i]?) = wr.map some) (hnd : va_nd isR = true) (hdis : ∀ i ∈ isR, i ∉ isC)
    (kk : ∀ (u : S) (H1 : Heap) (locs1 : List Loc), va_P D zt_cl (wr ++ ws' u) H1 → va_D A (wr ++ ws' u) → va_S A H0 H1 locs1 → W p l e R s m args below meth c H1 locs1 (cells + mc) (slots + ms) Q (F0 m (pc + 3) ls rest)) : W p l e R s m args below meth c H locs cells slots Q (F0 m pc ls (As.reverse ++ rest)) := by
  have hSt : CallFix p m c cc nL s args zt_big own := ⟨hx, hb, hml, hown, hts⟩
  have hp : PreS s H (zn_P D cA cB As wc H.size) As := ⟨zn_blind, fun U hU hW => ⟨rfl, by rw [hU], by rw [hU]; exact hPc, hG.to hW, hDc⟩⟩
  exact zn_after (va_runS hSt (hM H.size) ⟨callB_of n hts (zw_goodIn zt_good hcd) rfl hrc hrs (hts _ hini) (hts _ hlk) hyd hR, hts _ him⟩ hp rfl hn hls rfl (lv_room hcat) hdg hf) hP hD hS hA isC isR hC hRr hnd hdis kk
end ZN2

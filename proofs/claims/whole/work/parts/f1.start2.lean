def zf_g (k : Nat) : Nat := [0, 1, 5, 10, 13, 14, 2, 3, 4, 6, 7, 8, 9, 12, 11, 21, 15, 16, 17, 18, 19, 20].getD k 0
theorem zf_gi : ∀ i, i < 22 → ∀ j, j < 22 → zf_g i = zf_g j → i = j := by decide
def zf_a (q0 : Nat) (u : Nat × (Nat × Nat × Nat) × Nat × (Nat × Nat × Nat × Nat) × Nat × (Nat × Nat) × Nat × (Nat × (Nat × Nat × Nat × Nat × Nat × Nat) × Nat)) : Nat → Nat := fun i => [q0, u.1, u.2.2.1, u.2.2.2.2.1, u.2.2.2.2.2.2.1, u.2.2.2.2.2.2.2.1, u.2.1.1, u.2.1.2.1, u.2.1.2.2, u.2.2.2.1.1, u.2.2.2.1.2.1, u.2.2.2.1.2.2.1, u.2.2.2.1.2.2.2, u.2.2.2.2.2.1.1, u.2.2.2.2.2.1.2, u.2.2.2.2.2.2.2.2.2, u.2.2.2.2.2.2.2.2.1.1, u.2.2.2.2.2.2.2.2.1.2.1, u.2.2.2.2.2.2.2.2.1.2.2.1, u.2.2.2.2.2.2.2.2.1.2.2.2.1, u.2.2.2.2.2.2.2.2.1.2.2.2.2.1, u.2.2.2.2.2.2.2.2.1.2.2.2.2.2].getD i 0
def zf_w (cA : ClassId) (q0 : Nat) (u : Nat × (Nat × Nat × Nat) × Nat × (Nat × Nat × Nat × Nat) × Nat × (Nat × Nat) × Nat × (Nat × (Nat × Nat × Nat × Nat × Nat × Nat) × Nat)) : va_W := [(q0, .inr (0, [.ref u.1, .ref u.2.2.1, .ref u.2.2.2.2.1, .ref u.2.2.2.2.2.2.1, .int 0, .int 0])), (u.1, .inr (1, [.ref u.2.1.1, .ref u.2.1.2.1, .ref u.2.1.2.2, .int 2])), (u.2.1.1, .inl (cA, 466, .inl (upd (upd (fun _ => 0) 0 3) 1 4))), (u.2.1.2.1, .inl (cA, 466, .inl (fun _ => 0))), (u.2.1.2.2, .inl (cA, 466, .inl (fun _ => 0))), (u.2.2.1, .inr (2, [.ref u.2.2.2.1.1, .ref u.2.2.2.1.2.1, .ref u.2.2.2.1.2.2.1, .ref u.2.2.2.1.2.2.2, .int 0, .int 0, .int 480, .int 520])), (u.2.2.2.1.1, .inl (cA, 560, .inl (upd (upd (fun _ => 0) 480 0) 520 0))), (u.2.2.2.1.2.1, .inl (cA, 560, .inl (fun _ => 0))), (u.2.2.2.1.2.2.1, .inl (cA, 560, .inl (upd (upd (fun _ => 0) 480 1) 520 1))), (u.2.2.2.1.2.2.2, .inl (cA, 12, .inl (fun _ => 0))), (u.2.2.2.2.1, .inr (3, [.ref u.1, .ref u.2.2.1, .ref u.2.2.2.2.2.1.1, .ref u.2.2.2.2.2.1.2, .int 0, .int 0])), (u.2.2.2.2.2.1.2, .inl (cA, 16, .inl (fun _ => 0))), (u.2.2.2.2.2.1.1, .inl (cA, 466, .inl (zn_fl 466))), (u.2.2.2.2.2.2.1, .inr (4, [.ref u.2.2.1, .ref u.2.2.2.2.2.2.2.1, .ref u.2.2.2.2.2.2.2.2.2, .int 0, .int 0, .int 0, .int 0])), (u.2.2.2.2.2.2.2.1, .inr (5, [.ref u.2.2.2.2.2.2.2.2.1.1, .ref u.2.2.2.2.2.2.2.2.1.2.1, .ref u.2.2.2.2.2.2.2.2.1.2.2.1, .ref u.2.2.2.2.2.2.2.2.1.2.2.2.1, .ref u.2.2.2.2.2.2.2.2.1.2.2.2.2.1, .ref u.2.2.2.2.2.2.2.2.1.2.2.2.2.2, .int 0, .int 0, .int 0])), (u.2.2.2.2.2.2.2.2.1.1, .inl (cA, 600, .inl (fun _ => 0))), (u.2.2.2.2.2.2.2.2.1.2.1, .inl (cA, 600, .inl (fun _ => 0))), (u.2.2.2.2.2.2.2.2.1.2.2.1, .inl (cA, 600, .inl (fun _ => 0))), (u.2.2.2.2.2.2.2.2.1.2.2.2.1, .inl (cA, 600, .inl (fun _ => 0))), (u.2.2.2.2.2.2.2.2.1.2.2.2.2.1, .inl (cA, 200, .inl (fun _ => 0))), (u.2.2.2.2.2.2.2.2.1.2.2.2.2.2, .inl (cA, 401, .inl (fun _ => 0))), (u.2.2.2.2.2.2.2.2.2, .inl (cA, 79, .inl (fun _ => 0)))]
set_option maxHeartbeats 2000000 in
set_option maxRecDepth 100000 in
theorem zf_p (cA cB : ClassId) (q0 : Nat) (u : Nat × (Nat × Nat × Nat) × Nat × (Nat × Nat × Nat × Nat) × Nat × (Nat × Nat) × Nat × (Nat × (Nat × Nat × Nat × Nat × Nat × Nat) × Nat)) : ∀ (k : Nat) (q : Nat × va_E), (zi_c (zf_a q0 u) cA cB)[k]? = some q → (zf_w cA q0 u)[zf_g k]? = some q := by
  intro k q hk
  match k, hk with
  | 0, hk => exact hk
  | 1, hk => exact hk
  | 2, hk => exact hk
  | 3, hk => exact hk
  | 4, hk => exact hk
  | 5, hk => exact hk
  | 6, hk => exact hk
  | 7, hk => exact hk
  | 8, hk => exact hk
  | 9, hk => exact hk
  | 10, hk => exact hk
  | 11, hk => exact hk
  | 12, hk => exact hk
  | 13, hk => exact hk
  | 14, hk => exact hk
  | 15, hk => exact hk
  | 16, hk => exact hk
  | 17, hk => exact hk
  | 18, hk => exact hk
  | 19, hk => exact hk
  | 20, hk => exact hk
  | 21, hk => exact hk
  | n + 22, hk => cases hk
theorem zf_q {a0 : Nat → Nat} {cA cB : ClassId} {h : Nat} : ∀ (k : Nat) (q : Nat × va_E), (zi_ws h a0 cA cB)[k]? = some q → (zi_c a0 cA cB ++ [(h, .inr (6, zi_fs))])[(if k = 0 then 22 else k - 1)]? = some q := by
  intro k q hk
  cases k with
  | zero => exact hk
  | succ k =>
    rw [if_neg (by omega), show k + 1 - 1 = k by omega]
    have hk : (zi_c a0 cA cB)[k]? = some q := hk
    rw [List.getElem?_append_left (List.getElem?_eq_some_iff.mp hk).1]
    exact hk
section ZF
variable {p : Program} {l : Launch} {e : Env} {R : Room} {s : State} {m : MethodId} {args : Array Value} {below : List Frame} {meth : Method} {c : Code} {H : Heap} {locs : List Loc} {cells slots : Nat} {Q : State → Prop}
variable {cc : ByteArray} {pc nL : Nat} {ls : Array Slot} {rest : List Value} {D : va_G} {cA cB : ClassId} {X : zm_T} {a0 : Nat → Nat} {t0 b h : Nat}
theorem zf_call {own : String} {idx : Nat} (hx : p.tables.exec = Jvm.exec) (hb : c.code = cc) (hml : c.maxLocals = nL) (hown : s.vm.findClass own = some m.cls) (hts : ∀ w ∈ zt_big, w.before args s = true) (hF : zi_F s.heap.size X t0 b D cA cB s) (hls : ls.size = nL) (hlk : Cond.methodLink own idx zn_yMo.1 ∈ zt_big) (hR : 11 ≤ R.frames ∧ 700 ≤ R.locals) (hcat : (rest.map fun v => v.category).sum ≤ 8) (hdg : decode cc pc = .ok (.invokespecial idx, 3)) (hf : cells + 36 ≤ R.cells ∧ slots + 16508 ≤ R.slots)
    (hP : va_P D zt_cl (zi_ws h a0 cA cB) H) (hD : va_D (fun q => s.heap.size ≤ q) (zi_ws h a0 cA cB)) (hS : va_S (fun q => s.heap.size ≤ q) s.heap H locs)
    (kk : ∀ (ad : Nat → Nat) (H1 : Heap) (locs1 : List Loc), (ad 0 = a0 0 ∧ ad 22 = h ∧ ad 100 = t0 ∧ ad 101 = b) → va_P D zt_cl (zw_W zs ad cA cB zi_2) H1 → va_D (fun q => s.heap.size ≤ q) (zw_W zs ad cA cB zi_2) → va_S (fun q => s.heap.size ≤ q) s.heap H1 locs1 → W p l e R s m args below meth c H1 locs1 (cells + 36) (slots + 16508) Q (F0 m (pc + 3) ls rest)) : W p l e R s m args below meth c H locs cells slots Q (F0 m pc ls (.ref h :: rest)) := by
  have hSt : CallFix p m c cc nL s args zt_big own := ⟨hx, hb, hml, hown, hts⟩
  have hp : PreS s H (zi_P s.heap.size X t0 b D cA cB h a0 H.size) [.ref h] := ⟨zi_blind, fun U hU hW => by
    obtain ⟨g1, g2, g3, g4⟩ := hF
    refine ⟨rfl, by rw [hU], hS.1, by rw [hU]; exact hP, ⟨g1.to hW, ?_, ?_, ?_⟩, hD⟩
    · rw [hU]; exact (va_Z.moved hW.alike g2).kept (fun a ha hb => hS.2.1 a ha hb)
    · rw [hU]; exact (va_T.moved hW.alike g3).kept (fun a ha hb => hS.2.1 a ha hb)
    · rw [hU]; exact (va_T.moved hW.alike g4).kept (fun a ha hb => hS.2.1 a ha hb)⟩
  have hcd : Cond.code zn_yMo.1 zn_yMo.2.1 zn_yMo.2.2.1 zn_yMo.2.2.2.1 ∈ zt_big := (zt_in 622 (by decide +kernel) (by decide +kernel))
  have hr := va_runI (R := R) (below := below) (meth := meth) (e := e) (cells := cells) (slots := slots) (locs := locs) (H := H) (b := h) (As := []) (rest := rest) (g := F0 m pc ls (.ref h :: rest)) (n := 0) hSt (zn_Mo l D cA cB X s.heap.size t0 b h a0 H.size) ⟨callB_of 0 hts (zw_goodIn zt_good hcd) rfl rfl rfl (hts _ (zt_in 8 (by decide +kernel) (by decide +kernel))) (hts _ hlk) (by decide +kernel) (by
    show 10 + 1 ≤ R.frames ∧ 8 + (2 + 11) + 640 ≤ R.locals
    omega), rfl, hts _ (zt_in 621 (by decide +kernel) (by decide +kernel))⟩ hp rfl rfl hls rfl (lv_room hcat) hdg hf
  have hFc : ∀ q, va_A (zi_ws h a0 cA cB) H.size q → s.heap.size ≤ q := by
    rintro q (⟨k, e, hk⟩ | hk)
    · exact hD.2 k (q, e) hk
    · exact Nat.le_trans hS.1 hk
  refine va_callv hr hS (fun q _ h => hFc q h) hFc (fun ad t H1 locs1 ht hvm hpo hB hz1 hk1 hS1 => ?_)
  obtain ⟨hP1, hD1⟩ := hB
  rw [ht] at hP1
  exact kk ad H1 locs1 hpo hP1 (hD1.weaken (fun k q _ hq => hFc _ hq)) hS1
end ZF

section ZN
variable {p : Program} {l : Launch} {e : Env} {R : Room} {s : State} {m : MethodId} {args : Array Value} {below : List Frame} {meth : Method} {c : Code} {H H0 : Heap} {locs : List Loc} {cells slots : Nat} {Q : State → Prop}
variable {cc : ByteArray} {pc : Nat} {ls : Array Slot} {rest : List Value} {D : va_G} {cA cB : ClassId} {ws : va_W} {A : Nat → Prop}
theorem zn_forget {g : JFrame} {locs' : List Loc} (hf : ∀ y ∈ locs, y.base < s.heap.size → y ∈ locs') (kk : W p l e R s m args below meth c H locs' cells slots Q g) : W p l e R s m args below meth c H locs cells slots Q g := fun T hT X => kk T hT { X with same := X.same.weaken hf (Nat.le_refl _) (Nat.le_refl _) }
abbrev zn_t (cA cB : ClassId) : List (ClassId × FieldType) := [(cA, .int), (cB, .boolean)]
def zn_ty (z : Bool) : FieldType := cond z .boolean .int
def zn_at (z : Bool) : ArrayType := cond z .boolean .int
theorem zn_newa (hx : p.tables.exec = Jvm.exec) (hb : c.code = cc) (z : Bool) (harr : (Cond.arrayClass (zn_ty z)).before args s = true) (hK : va_K D zt_cl (zn_t cA cB) s) (hP : va_P D zt_cl ws H) (hD : va_D A ws) (hS : va_S A H0 H locs) (hA : ∀ q, H0.size ≤ q → A q)
    {n : Int32} {N : Nat} (hn : ¬ n < 0) (hN : n.toNatClampNeg = N) (hby : N ≤ 100000) (hcells : cells + 1 ≤ R.cells) (hslots : slots + N ≤ R.slots) (hdg : decode cc pc = .ok (.newarray (zn_at z), 2))
    (kk : ∀ (q : Nat) (H1 : Heap), va_P D zt_cl (ws ++ [(q, .inl (cond z cB cA, N, .inl fun _ => 0))]) H1 → va_D A (ws ++ [(q, .inl (cond z cB cA, N, .inl fun _ => 0))]) → va_S A H0 H1 locs → W p l e R s m args below meth c H1 locs (cells + 1) (slots + N) Q (F0 m (pc + 2) ls (.ref q :: rest))) : W p l e R s m args below meth c H locs cells slots Q (F0 m pc ls (.int n :: rest)) := by
  cases z with
  | false =>
    refine va_newa (ty := .int) (atype := .int) (a0 := (N, .inl fun _ => 0)) hx hb harr rfl hK hP hD hS hA (fun _ => rfl) hn hN (by show N * 4 ≤ _; omega) hcells hslots hdg (fun q cA' H1 hK1 hP1 hD1 hS1 => ?_)
    have h1 : s.vm.findClass ("[" ++ FieldType.int.toString) = some cA' := (hK1.2 2 (cA', .int) rfl).2
    have h2 : s.vm.findClass ("[" ++ FieldType.int.toString) = some cA := (hK.2 0 (cA, .int) rfl).2
    have h3 : cA' = cA := Option.some.inj (h1.symm.trans h2)
    subst h3
    exact kk q H1 hP1 hD1 hS1
  | true =>
    refine va_newa (ty := .boolean) (atype := .boolean) (a0 := (N, .inl fun _ => 0)) hx hb harr rfl hK hP hD hS hA (fun _ => rfl) hn hN (by show N * 1 ≤ _; omega) hcells hslots hdg (fun q cA' H1 hK1 hP1 hD1 hS1 => ?_)
    have h1 : s.vm.findClass ("[" ++ FieldType.boolean.toString) = some cA' := (hK1.2 2 (cA', .boolean) rfl).2
    have h2 : s.vm.findClass ("[" ++ FieldType.boolean.toString) = some cB := (hK.2 1 (cB, .boolean) rfl).2
    have h3 : cA' = cB := Option.some.inj (h1.symm.trans h2)
    subst h3
    exact kk q H1 hP1 hD1 hS1

theorem zn_put {C : String} {T : u_T} {N ci idx k : Nat} {fs : List Value} {v : Value} {ty : FieldType} {h0 : Nat} {tl : va_W} (hx : p.tables.exec = Jvm.exec) (hb : c.code = cc) (hts : ∀ w ∈ zt_big, w.before args s = true) (hown : s.vm.findClass C = some m.cls) (hin : meth.name = "<init>") (hK : va_K D zt_cl (zn_t cA cB) s) (hP : va_P D zt_cl ((h0, .inr (ci, fs)) :: tl) H) (hD : va_D A ((h0, .inr (ci, fs)) :: tl)) (hS : va_S A H0 H locs)
    (hc : zt_cl[ci]? = some (C, T, N)) (hk : k < N) (hTk : (T k).1 = C) (hlk : Cond.fieldLink C idx C (T k).2.1 (T k).2.2.1 ∈ zt_big) (hd : parseFieldDescriptor (T k).2.2.1 = some ty) (hn : narrow ty v = v) (hf : fits ty v = true) (hl : k < fs.length) (hdg : decode cc pc = .ok (.putfield idx, 3))
    (kk : ∀ (H1 : Heap) (locs1 : List Loc), va_P D zt_cl ((h0, .inr (ci, fs.set k v)) :: tl) H1 → va_D A ((h0, .inr (ci, fs.set k v)) :: tl) → va_S A H0 H1 locs1 → W p l e R s m args below meth c H1 locs1 cells slots Q (F0 m (pc + 3) ls rest)) : W p l e R s m args below meth c H locs cells slots Q (F0 m pc ls (v :: .ref h0 :: rest)) := by
  obtain ⟨g1, ⟨ty0, g2⟩, g3⟩ := zt_kc ci _ hc
  cases hfin : (T k).2.2.2 with
  | true => exact va_putF (D := D) (ci := ci) (v := v) (ty := ty) (C := C) (T := T) (N := N) hx hb hts g1 ty0 g2 g3 hown hK hP hD hS 0 rfl hc k hk (hts _ hlk) (fun _ h9 => by rw [hTk] at h9; exact h9) hfin hin hTk hd hn hf hl hdg (fun H1 locs1 a1 a2 a3 => kk H1 locs1 a1 a2 a3)
  | false => exact va_put (D := D) (ci := ci) (v := v) (ty := ty) (C := C) (T := T) (N := N) hx hb hts g1 ty0 g2 g3 hown hK hP hD hS 0 rfl hc k hk (hts _ hlk) (fun _ h9 => by rw [hTk] at h9; exact h9) hfin hd hn hf hl hdg (fun H1 locs1 a1 a2 a3 => kk H1 locs1 a1 a2 a3)

abbrev zn_r : Type := Nat × Nat × Nat × Nat × Nat × Bool
def zn_go (cA cB : ClassId) (rs : List zn_r) (fs : List Value) (tl : va_W) (K : List Value → va_W → Prop) : Prop := match rs with
  | [] => K fs tl
  | r :: rs => ∀ q : Nat, zn_go cA cB rs (fs.set r.2.2.2.1 (.ref q)) (tl ++ [(q, .inl (cond r.2.2.2.2.2 cB cA, r.2.2.2.2.1, .inl fun _ => 0))]) K
def zn_sum (rs : List zn_r) : Nat := match rs with
  | [] => 0
  | r :: rs => r.2.2.2.2.1 + zn_sum rs
def zn_ok (cc : ByteArray) (own ci : Nat) (T : u_T) (N : Nat) (r : zn_r) : Bool :=
  decide (decode cc r.1 = .ok (.aload_n 0, 1)) &&
  ((decide (decode cc (r.1 + 1) = .ok (.sipush (r.2.2.2.2.1 : Int), 3)) && decide ((Int16.ofInt (r.2.2.2.2.1 : Int)).toInt32.toNatClampNeg = r.2.2.2.2.1 ∧ ¬ (Int16.ofInt (r.2.2.2.2.1 : Int)).toInt32 < 0) && decide (decode cc (r.1 + 4) = .ok (.newarray (zn_at r.2.2.2.2.2), 2)) && decide (decode cc (r.1 + 6) = .ok (.putfield r.2.2.1, 3)) && Nat.beq r.2.1 (r.1 + 9)) ||
   (decide (decode cc (r.1 + 1) = .ok (.bipush (r.2.2.2.2.1 : Int), 2)) && decide ((Int8.ofInt (r.2.2.2.2.1 : Int)).toInt32.toNatClampNeg = r.2.2.2.2.1 ∧ ¬ (Int8.ofInt (r.2.2.2.2.1 : Int)).toInt32 < 0) && decide (decode cc (r.1 + 3) = .ok (.newarray (zn_at r.2.2.2.2.2), 2)) && decide (decode cc (r.1 + 5) = .ok (.putfield r.2.2.1, 3)) && Nat.beq r.2.1 (r.1 + 8))) &&
  (Nat.blt r.2.2.2.1 N && decide (parseFieldDescriptor (T r.2.2.2.1).2.2.1 = some (.array (zn_ty r.2.2.2.2.2))) && Nat.ble r.2.2.2.2.1 100000 && (zt_tb 0).contains (own, r.2.2.1, ci, r.2.2.2.1) && decide (¬ (zt_cn own = "RigidCases$Values" ∧ r.2.2.1 = 58)))
def zn_chain (cc : ByteArray) (own ci : Nat) (T : u_T) (N : Nat) (pe : Nat) (rs : List zn_r) (pc : Nat) : Bool := match rs with
  | [] => Nat.beq pc pe
  | r :: rs => Nat.beq r.1 pc && (zn_ok cc own ci T N r && zn_chain cc own ci T N pe rs r.2.1)
theorem zn_nonest {a : String} {i : Nat} {b n d h : String} (hw : Cond.fieldLinkNest a i b n d h ∈ zt_nest) : a = "RigidCases$Values" ∧ i = 58 := by
  simp only [zt_nest, List.mem_cons, List.not_mem_nil, or_false, reduceCtorEq, false_or, Cond.fieldLinkNest.injEq] at hw
  exact ⟨hw.1, hw.2.1⟩
theorem zn_link {own ci k idx : Nat} {C : String} {T : u_T} {N : Nat} (hc : zt_cl[ci]? = some (C, T, N)) (hcn : zt_cn own = C) (ht : (zt_tb 0).contains (own, idx, ci, k) = true) (hn : ¬ (zt_cn own = "RigidCases$Values" ∧ idx = 58)) : (T k).1 = C ∧ Cond.fieldLink C idx C (T k).2.1 (T k).2.2.1 ∈ zt_big := by
  obtain ⟨C', T', N', h1, h2, h3, h4⟩ := zt_K.1 _ (List.contains_iff_mem.mp ht)
  simp only at h1 h2 h3 h4
  rw [hc] at h1
  cases h1
  refine ⟨h3, ?_⟩
  rcases h4 with h4 | ⟨h, h4⟩
  · rw [hcn] at h4
    exact h4
  · exact absurd (zn_nonest h4) hn
theorem zn_rows {own ci h0 : Nat} {C : String} {T : u_T} {N pe ce se : Nat} (hx : p.tables.exec = Jvm.exec) (hb : c.code = cc) (hts : ∀ w ∈ zt_big, w.before args s = true) (hown : s.vm.findClass C = some m.cls) (hin : meth.name = "<init>") (hK : va_K D zt_cl (zn_t cA cB) s) (hA : ∀ q, H0.size ≤ q → A q) (hi : ∀ z, Cond.arrayClass (zn_ty z) ∈ zt_big)
    (hl : ls[0]? = some (.val (.ref h0))) (hc : zt_cl[ci]? = some (C, T, N)) (hcn : zt_cn own = C) (hce : ce ≤ R.cells) (hse : se ≤ R.slots) :
    ∀ (rs : List zn_r) (pc : Nat) (fs : List Value) (tl : va_W) (H : Heap) (locs : List Loc) (cells slots : Nat), zn_chain cc own ci T N pe rs pc = true → fs.length = N → cells + rs.length = ce → slots + zn_sum rs = se → va_P D zt_cl ((h0, .inr (ci, fs)) :: tl) H → va_D A ((h0, .inr (ci, fs)) :: tl) → va_S A H0 H locs →
      zn_go cA cB rs fs tl (fun fs tl => ∀ (H : Heap) (locs : List Loc), va_P D zt_cl ((h0, .inr (ci, fs)) :: tl) H → va_D A ((h0, .inr (ci, fs)) :: tl) → va_S A H0 H locs → W p l e R s m args below meth c H locs ce se Q (F0 m pe ls rest)) →
      W p l e R s m args below meth c H locs cells slots Q (F0 m pc ls rest) := by
  intro rs
  induction rs with
  | nil =>
    intro pc fs tl H locs cells slots h1 h2 h3 h4 hP hD hS kk
    have h1 := Nat.eq_of_beq_eq_true h1
    subst h1
    simp only [List.length_nil, Nat.add_zero] at h3
    simp only [zn_sum, Nat.add_zero] at h4
    subst h3
    subst h4
    exact kk H locs hP hD hS
  | cons r rs ih =>
    obtain ⟨pc0, nx, idx, k, n, z⟩ := r
    intro pc fs tl H locs cells slots h1 h2 h3 h4 hP hD hS kk
    unfold zn_chain at h1
    rw [Bool.and_eq_true, Bool.and_eq_true] at h1
    obtain ⟨hpc, hok, hch⟩ := h1
    have hpc := Nat.eq_of_beq_eq_true hpc
    simp only at hpc hch
    subst hpc
    simp only [zn_ok, Bool.and_eq_true, Bool.or_eq_true, decide_eq_true_eq] at hok
    obtain ⟨⟨e1, e2⟩, ⟨⟨⟨⟨f1, f2⟩, f3⟩, f4⟩, f5⟩⟩ := hok
    have hk : k < N := Nat.le_of_ble_eq_true f1
    have hn9 : n ≤ 100000 := Nat.le_of_ble_eq_true f3
    obtain ⟨hTk, hlk⟩ := zn_link hc hcn f4 f5
    simp only [List.length_cons] at h3
    simp only [zn_sum] at h4
    refine lv_aload_n hx hb e1 rfl hl ?_
    have key : ∀ (v : Int32) (pc1 : Nat), ¬ v < 0 → v.toNatClampNeg = n → decode cc pc1 = .ok (.newarray (zn_at z), 2) → decode cc (pc1 + 2) = .ok (.putfield idx, 3) → nx = pc1 + 2 + 3 → W p l e R s m args below meth c H locs cells slots Q (F0 m pc1 ls (.int v :: .ref h0 :: rest)) := by
      intro v pc1 v1 v2 v3 v4 v5
      refine zn_newa hx hb z (hts _ (hi z)) hK hP hD hS hA v1 v2 hn9 (by omega) (by omega) v3 (fun q H1 hP1 hD1 hS1 => ?_)
      refine zn_put (ty := .array (zn_ty z)) hx hb hts hown hin hK hP1 hD1 hS1 hc hk hTk hlk f2 rfl rfl (by rw [h2]; exact hk) v4 (fun H2 locs2 hP2 hD2 hS2 => ?_)
      rw [← v5]
      exact ih nx (fs.set k (.ref q)) _ H2 locs2 (cells + 1) (slots + n) hch (by rw [List.length_set]; exact h2) (by omega) (by omega) hP2 hD2 hS2 (kk q)
    rcases e2 with ⟨⟨⟨⟨g1, g2, g3⟩, g4⟩, g5⟩, g6⟩ | ⟨⟨⟨⟨g1, g2, g3⟩, g4⟩, g5⟩, g6⟩
    · exact lv_sipush hx hb g1 rfl (key _ _ g3 g2 g4 g5 (Nat.eq_of_beq_eq_true g6))
    · exact lv_bipush hx hb g1 rfl (key _ _ g3 g2 g4 g5 (Nat.eq_of_beq_eq_true g6))
theorem zn_hiA : ∀ z, Cond.arrayClass (zn_ty z) ∈ zt_big := fun z => by
  cases z
  · exact zt_in 39 (by decide +kernel) (by decide +kernel)
  · exact zt_in 800 (by decide +kernel) (by decide +kernel)
end ZN

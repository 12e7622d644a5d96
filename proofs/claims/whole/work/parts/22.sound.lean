abbrev zw_Mt : Type := MethodName × ByteArray × Nat × Option FieldType × Nat
def zw_rm (d : Nat) : Room := { frames := d, cells := 0, slots := 0, locals := 64 * d }
def zw_ws (big : List Cond) (y : zw_Mt) : List Cond := Cond.code y.1 y.2.1 y.2.2.1 y.2.2.2.1 :: big
def zw_Q (sh : List zm_h) (ad : Nat → Nat) (cA cB : ClassId) (D : va_G) (cl : List vw_C) (r : Option zm_v) (μ' : zm_u) : Array Value → State → Outcome → State → Prop :=
  fun _ st oc t => (oc = .returned (r.map (zw_v ad)) ∧ va_P D cl (zw_W sh ad cA cB μ') t.heap) ∧ va_F (zw_A sh ad) st t
def zw_P (sh : List zm_h) (X : zm_T) (ad : Nat → Nat) (cA cB : ClassId) (D : va_G) (cl : List vw_C) (nest : List Cond) (as : List zm_v) (μ : zm_u) : Array Value → State → Prop :=
  va_Pc (as.map (zw_v ad)) (fun U => zw_F sh X ad cA cB D cl nest U ∧ va_P D cl (zw_W sh ad cA cB μ) U.heap)
def zw_Met (l : Launch) (sh : List zm_h) (X : zm_T) (ad : Nat → Nat) (cA cB : ClassId) (D : va_G) (cl : List vw_C) (big nest : List Cond) (M : Nat → zw_Mt) (d n : Nat) (as : List zm_v) (μ : zm_u) (r : Option zm_v) (μ' : zm_u) : Prop :=
  Met l (M n).1 (zw_ws big (M n)) (zw_rm d) (zw_P sh X ad cA cB D cl nest as μ) (zw_Q sh ad cA cB D cl r μ') 0 0 (zw_A sh ad)
def zw_mk (big nest : List Cond) (o : String) (i : Nat) (y : MethodName) : Prop := Cond.methodLink o i y ∈ big ∨ ∃ h : String, Cond.methodLinkNest o i y h ∈ nest
def zw_my (big : List Cond) (M : Nat → zw_Mt) (n np : Nat) : Prop := ((M n).1.cls ≠ "java/lang/invoke/MethodHandle" ∧ (M n).1.cls ≠ "java/lang/invoke/VarHandle" ∧ (parseMethodDescriptor (M n).1.desc).map (fun d => d.parameters.length) = some np) ∧ Cond.initialized (M n).1.cls ∈ big ∧ Cond.code (M n).1 (M n).2.1 (M n).2.2.1 (M n).2.2.2.1 ∈ big ∧ (M n).2.2.1 ≤ 45

def zw_KC (cl : List vw_C) (big nest : List Cond) (cn : Nat → String) (tb : Nat → zw_Tb) (M : Nat → zw_Mt) (np : Nat → Nat) (N : Nat) : Prop :=
  (∀ x ∈ tb 3, zw_my big M x.2.2.1 (np x.2.2.1) ∧ zw_mk big nest (cn x.1) x.2.1 (M x.2.2.1).1 ∧ Cond.static (M x.2.2.1).1 ∈ big ∧ x.2.2.1 < N ∧ np x.2.2.1 ≤ (M x.2.2.1).2.2.1) ∧
  (∀ x ∈ tb 4, zw_my big M x.2.2.1 (np x.2.2.1) ∧ zw_mk big nest (cn x.1) x.2.1 (M x.2.2.1).1 ∧ Cond.instanceMethod (M x.2.2.1).1 ∈ big ∧ Cond.selects (M x.2.2.1).1.cls (M x.2.2.1).1 (M x.2.2.1).1 ∈ big ∧ (∃ (T : u_T) (k : Nat), cl[x.2.2.2]? = some ((M x.2.2.1).1.cls, T, k)) ∧ x.2.2.1 < N ∧ np x.2.2.1 + 1 ≤ (M x.2.2.1).2.2.1) ∧
  (∀ w ∈ big, (w.onTables && w.keeps) = true ∨ ∃ ty, w = .arrayClass ty) ∧
  (∀ w ∈ nest, (∃ (a : String) (i : Nat) (b n d h : String), w = .fieldLinkNest a i b n d h) ∨ ∃ (a : String) (i : Nat) (x : MethodName) (h : String), w = .methodLinkNest a i x h)
theorem zw_F.to {sh : List zm_h} {X : zm_T} {ad : Nat → Nat} {cA cB : ClassId} {D : va_G} {cl : List vw_C} {nest : List Cond} {s U : State} {locs : List Loc} (hn : ∀ w ∈ nest, (∃ (a : String) (i : Nat) (b n d h : String), w = .fieldLinkNest a i b n d h) ∨ ∃ (a : String) (i : Nat) (x : MethodName) (h : String), w = .methodLinkNest a i x h)
    (hF : zw_F sh X ad cA cB D cl nest s) (hS : va_S (zw_A sh ad) s.heap U.heap locs) (hW : s.WarmedH U.vm) : zw_F sh X ad cA cB D cl nest U := by
  obtain ⟨h1, h2, h3, h4, h5⟩ := hF
  refine ⟨va_K.moved hW.alike h1, fun w hw => ?_, (va_Z.moved hW.alike h3).kept (fun a ha hb => hS.2.1 a ha hb), (va_T.moved hW.alike h4).kept (fun a ha hb => hS.2.1 a ha hb), (va_T.moved hW.alike h5).kept (fun a ha hb => hS.2.1 a ha hb)⟩
  rcases hn w hw with ⟨a, i, b, n, d, h, rfl⟩ | ⟨a, i, x, h, rfl⟩
  · exact va_Nw.warmF hW (h2 _ hw)
  · exact va_Nw.warmM hW (h2 _ hw)
theorem zw_tsw_at {pc d : Nat} {x : Int32} : ∀ (os : List Int) (lo : Int), -2000 ≤ lo → lo + os.length ≤ 2000 → (zm_sw (zw_tsw pc lo os) d x = d ∧ (x.toInt < lo ∨ lo + os.length ≤ x.toInt)) ∨ (¬ x.toInt < lo ∧ x.toInt < lo + os.length ∧ ∃ o, os[(x.toInt - lo).toNat]? = some o ∧ zm_sw (zw_tsw pc lo os) d x = ((pc : Int) + o).toNat) := by
  intro os
  induction os with
  | nil =>
    intro lo h1 h2
    refine Or.inl ⟨rfl, ?_⟩
    simp only [List.length_nil]
    omega
  | cons o r ih =>
    intro lo h1 h2
    simp only [List.length_cons] at h2 ⊢
    have hlo : (Int32.ofInt lo).toInt = lo := Int32.toInt_ofInt_of_le (by omega) (by omega)
    by_cases hx : x = Int32.ofInt lo
    · refine Or.inr ⟨by rw [hx, hlo]; omega, by rw [hx, hlo]; omega, o, ?_, ?_⟩
      · rw [hx, hlo]
        simp
      · show cond (decide (x = Int32.ofInt lo)) _ _ = _
        rw [decide_eq_true hx]
        rfl
    · have e1 : zm_sw (zw_tsw pc lo (o :: r)) d x = zm_sw (zw_tsw pc (lo + 1) r) d x := by
        show cond (decide (x = Int32.ofInt lo)) _ _ = _
        rw [decide_eq_false hx]
        rfl
      have hne : x.toInt ≠ lo := fun z => hx (Int32.toInt_inj.mp (by rw [hlo]; exact z))
      rcases ih (lo + 1) (by omega) (by omega) with ⟨g1, g2⟩ | ⟨g1, g2, o', g3, g4⟩
      · exact Or.inl ⟨by rw [e1]; exact g1, by omega⟩
      · refine Or.inr ⟨by omega, by omega, o', ?_, by rw [e1]; exact g4⟩
        have e2 : (x.toInt - lo).toNat = (x.toInt - (lo + 1)).toNat + 1 := by omega
        rw [e2, List.getElem?_cons_succ]
        exact g3
theorem zw_lsw_at {pc d : Nat} {x : Int32} {df : Int} (hd : (pc : Int) + df = (d : Int)) : ∀ (ps : List (Int × Int)), ps.all (fun y => decide (0 ≤ (pc : Int) + y.2 ∧ -1000 ≤ y.1 ∧ y.1 ≤ 1000)) = true → (pc : Int) + Op.lookupswitch.offset ps df x.toInt = ((zm_sw (ps.map (fun y => (Int32.ofInt y.1, ((pc : Int) + y.2).toNat))) d x : Nat) : Int) := by
  intro ps
  induction ps with
  | nil => intro _; exact hd
  | cons y r ih =>
    obtain ⟨a, o⟩ := y
    intro h
    simp only [List.all_cons, Bool.and_eq_true, decide_eq_true_eq] at h
    obtain ⟨⟨h1, h2, h3⟩, h4⟩ := h
    have ha : (Int32.ofInt a).toInt = a := Int32.toInt_ofInt_of_le (by omega) (by omega)
    rw [Op.lookupswitch.offset_cons]
    show _ = ((cond (decide (x = Int32.ofInt a)) ((pc : Int) + o).toNat (zm_sw (r.map (fun y => (Int32.ofInt y.1, ((pc : Int) + y.2).toNat))) d x) : Nat) : Int)
    by_cases hx : x = Int32.ofInt a
    · rw [if_pos (by rw [hx, ha]), decide_eq_true hx]
      show _ = ((((pc : Int) + o).toNat : Nat) : Int)
      omega
    · rw [if_neg (fun z => hx (Int32.toInt_inj.mp (by rw [ha]; exact z.symm))), decide_eq_false hx]
      exact ih h4
section ZY
variable {p : Program} {l : Launch} {e : Env} {R : Room} {s : State} {m : MethodId} {args : Array Value} {below : List Frame} {meth : Method} {c : Code} {cells slots : Nat} {Q : State → Prop}
variable {sh : List zm_h} {X : zm_T} {ad : Nat → Nat} {cA cB : ClassId} {D : va_G} {cl : List vw_C} {big nest : List Cond} {tb : Nat → zw_Tb} {cn : Nat → String} {cc : ByteArray} {nL own N : Nat} {ret : Option FieldType} {np : Nat → Nat} {M : Nat → zw_Mt}
variable {pc nx a b : Nat} {k : Int32} {sw : List (Int32 × Nat)} {lo : zm_L} {st : List zm_v} {μ μ' : zm_u} {H : Heap} {locs : List Loc} {ls : Array Slot}
theorem zw_c30 {x : Int32} {r : List zm_v} (S : zw_C p m c cc nL s args big (cn own) sh X ad cA cB D cl nest) (hck : zw_ck cc own nL ret tb np (pc, nx, 30, a, b, k, sw) = true)
    (kk : W p l e R s m args below meth c H locs cells slots Q (F0 m (cond (zm_c b x 0) a nx) ls (r.map (zw_v ad)))) : W p l e R s m args below meth c H locs cells slots Q (F0 m pc ls (.int x :: r.map (zw_v ad))) := by
  obtain ⟨hx, hc, -⟩ := S
  simp only [zw_ck] at hck
  split at hck
  · cases hck
  rename_i ins len hd
  rw [Bool.and_eq_true] at hck
  obtain ⟨hnx, hck⟩ := hck
  have hnx := Nat.eq_of_beq_eq_true hnx
  split at hck
  · rename_i cd o
    simp only [Bool.and_eq_true, decide_eq_true_eq] at hck
    obtain ⟨h1, h2, h3⟩ := hck
    have h1 := Nat.eq_of_beq_eq_true h1
    subst h1
    subst hnx
    subst h2
    match b, hd, kk with
    | 0, hd, kk => exact lv_if_eq hx hc hd h3 (fun z => by have kk := kk; rw [show zm_c 0 x 0 = true from decide_eq_true z] at kk; exact kk) (fun z => by have kk := kk; rw [show zm_c 0 x 0 = false from decide_eq_false z] at kk; exact kk)
    | 1, hd, kk => exact lv_if_ne hx hc hd h3 (fun z => by have kk := kk; rw [show zm_c 1 x 0 = true from decide_eq_true z] at kk; exact kk) (fun z => by have kk := kk; rw [show zm_c 1 x 0 = false from decide_eq_false (fun y => y z)] at kk; exact kk)
    | 2, hd, kk => exact lv_if_lt hx hc hd h3 (fun z => by have kk := kk; rw [show zm_c 2 x 0 = true from decide_eq_true z] at kk; exact kk) (fun z => by have kk := kk; rw [show zm_c 2 x 0 = false from decide_eq_false z] at kk; exact kk)
    | 3, hd, kk => exact lv_if_ge hx hc hd h3 (fun z => by have kk := kk; rw [show zm_c 3 x 0 = true from decide_eq_true z] at kk; exact kk) (fun z => by have kk := kk; rw [show zm_c 3 x 0 = false from decide_eq_false z] at kk; exact kk)
    | 4, hd, kk => exact lv_if_gt hx hc hd h3 (fun z => by have kk := kk; rw [show zm_c 4 x 0 = true from decide_eq_true z] at kk; exact kk) (fun z => by have kk := kk; rw [show zm_c 4 x 0 = false from decide_eq_false z] at kk; exact kk)
    | n + 5, hd, kk => exact lv_if_le hx hc hd h3 (fun z => by have kk := kk; rw [show zm_c (n + 5) x 0 = true from decide_eq_true z] at kk; exact kk) (fun z => by have kk := kk; rw [show zm_c (n + 5) x 0 = false from decide_eq_false z] at kk; exact kk)
  · cases hck
theorem zw_c31 {x y : Int32} {r : List zm_v} (S : zw_C p m c cc nL s args big (cn own) sh X ad cA cB D cl nest) (hck : zw_ck cc own nL ret tb np (pc, nx, 31, a, b, k, sw) = true)
    (kk : W p l e R s m args below meth c H locs cells slots Q (F0 m (cond (zm_c b x y) a nx) ls (r.map (zw_v ad)))) : W p l e R s m args below meth c H locs cells slots Q (F0 m pc ls (.int y :: .int x :: r.map (zw_v ad))) := by
  obtain ⟨hx, hc, -⟩ := S
  simp only [zw_ck] at hck
  split at hck
  · cases hck
  rename_i ins len hd
  rw [Bool.and_eq_true] at hck
  obtain ⟨hnx, hck⟩ := hck
  have hnx := Nat.eq_of_beq_eq_true hnx
  split at hck
  · rename_i cd o
    simp only [Bool.and_eq_true, decide_eq_true_eq] at hck
    obtain ⟨h1, h2, h3⟩ := hck
    have h1 := Nat.eq_of_beq_eq_true h1
    subst h1
    subst hnx
    subst h2
    match b, hd, kk with
    | 0, hd, kk => exact lv_icmp_eq hx hc hd h3 (fun z => by have kk := kk; rw [show zm_c 0 x y = true from decide_eq_true z] at kk; exact kk) (fun z => by have kk := kk; rw [show zm_c 0 x y = false from decide_eq_false z] at kk; exact kk)
    | 1, hd, kk => exact lv_icmp_ne hx hc hd h3 (fun z => by have kk := kk; rw [show zm_c 1 x y = true from decide_eq_true z] at kk; exact kk) (fun z => by have kk := kk; rw [show zm_c 1 x y = false from decide_eq_false (fun q => q z)] at kk; exact kk)
    | 2, hd, kk => exact lv_icmp_lt hx hc hd h3 (fun z => by have kk := kk; rw [show zm_c 2 x y = true from decide_eq_true z] at kk; exact kk) (fun z => by have kk := kk; rw [show zm_c 2 x y = false from decide_eq_false z] at kk; exact kk)
    | 3, hd, kk => exact lv_icmp_ge hx hc hd h3 (fun z => by have kk := kk; rw [show zm_c 3 x y = true from decide_eq_true z] at kk; exact kk) (fun z => by have kk := kk; rw [show zm_c 3 x y = false from decide_eq_false z] at kk; exact kk)
    | 4, hd, kk => exact lv_icmp_gt hx hc hd h3 (fun z => by have kk := kk; rw [show zm_c 4 x y = true from decide_eq_true z] at kk; exact kk) (fun z => by have kk := kk; rw [show zm_c 4 x y = false from decide_eq_false z] at kk; exact kk)
    | n + 5, hd, kk => exact lv_icmp_le hx hc hd h3 (fun z => by have kk := kk; rw [show zm_c (n + 5) x y = true from decide_eq_true z] at kk; exact kk) (fun z => by have kk := kk; rw [show zm_c (n + 5) x y = false from decide_eq_false z] at kk; exact kk)
  · cases hck
theorem zw_c32 {x : Int32} {r : List zm_v} (S : zw_C p m c cc nL s args big (cn own) sh X ad cA cB D cl nest) (hck : zw_ck cc own nL ret tb np (pc, nx, 32, a, b, k, sw) = true)
    (kk : W p l e R s m args below meth c H locs cells slots Q (F0 m (zm_sw sw a x) ls (r.map (zw_v ad)))) : W p l e R s m args below meth c H locs cells slots Q (F0 m pc ls (.int x :: r.map (zw_v ad))) := by
  obtain ⟨hx, hc, -⟩ := S
  simp only [zw_ck] at hck
  split at hck
  · cases hck
  rename_i ins len hd
  rw [Bool.and_eq_true] at hck
  obtain ⟨hnx, hck⟩ := hck
  split at hck
  · rename_i df lw hi os
    simp only [Bool.and_eq_true, decide_eq_true_eq] at hck
    obtain ⟨h1, h2, h3, ⟨h4, h5, h6⟩, h7⟩ := hck
    have hlen : os.toList.length = os.size := Array.length_toList
    subst h2
    rcases zw_tsw_at (pc := pc) (d := a) (x := x) os.toList lw (by omega) (by rw [hlen]; omega) with ⟨g1, g2⟩ | ⟨g1, g2, o, g3, g4⟩
    · rw [g1] at kk
      exact lv_tableOut hx hc hd (by rw [hlen] at g2; omega) h1 kk
    · rw [g4] at kk
      have ho : 0 ≤ (pc : Int) + o := by
        rw [List.all_eq_true] at h7
        exact of_decide_eq_true (h7 o (List.mem_of_getElem? g3))
      refine lv_tableIn hx hc hd g1 (by rw [hlen] at g2; omega) (off := o) ?_ (by omega) kk
      rw [← Array.getElem?_toList]
      exact g3
  · rename_i df ps
    simp only [Bool.and_eq_true, decide_eq_true_eq] at hck
    obtain ⟨h1, h2, h3, h4⟩ := hck
    subst h2
    refine lv_lookup hx hc hd ?_ rfl (zw_lsw_at h1 ps.toList ?_) kk
    · simpa using h3
    · simpa using h4
  · cases hck
theorem zw_after {r : Option zm_v} {st0 rest : List Value} {A1 : Array Value} (hr : va_Run p l e R s m args below meth c H locs cells slots 0 0 (F0 m pc ls st0) rest (zw_Q sh ad cA cB D cl r μ' A1) (zw_A sh ad)) (hS : va_S (zw_A sh ad) s.heap H locs)
    (kk : ∀ (H1 : Heap) (locs1 : List Loc), va_P D cl (zw_W sh ad cA cB μ') H1 → va_S (zw_A sh ad) s.heap H1 locs1 → W p l e R s m args below meth c H1 locs1 cells slots Q (F0 m (pc + 3) ls ((r.map (zw_v ad)).toList ++ rest))) : W p l e R s m args below meth c H locs cells slots Q (F0 m pc ls st0) := by
  intro T hT X'
  obtain ⟨v, st₀, t, T', L, h0, X', hL, e1, e2, ⟨⟨hv, hP⟩, hz, hk⟩, st⟩ := hr T hT X'
  cases hv
  rw [h0] at hz hk
  obtain ⟨t2, a1, b1⟩ := kk T'.heap (locs ++ L) (by rw [e1]; exact hP)
    ⟨Nat.le_trans hS.1 (by rw [e1]; exact hz), fun q h1 h2 => by rw [e1, hk q (Nat.lt_of_lt_of_le h1 hS.1) h2]; exact hS.2.1 q h1 h2, fun q hq => by
      rcases List.mem_append.mp hq with h | h
      · exact hS.2.2 q h
      · exact hL q h⟩ T' rfl X'
  exact ⟨t2, st t2 a1, b1⟩
theorem zw_goodIn {y : zw_Mt} (hg : ∀ w ∈ big, (w.onTables && w.keeps) = true ∨ ∃ ty, w = .arrayClass ty) (hy : Cond.code y.1 y.2.1 y.2.2.1 y.2.2.2.1 ∈ big) : GoodIn big (zw_ws big y) := by
  intro w hw
  rcases List.mem_cons.mp hw with rfl | hw
  · exact ⟨hy, hg _ hy⟩
  · exact ⟨hw, hg _ hw⟩
theorem zw_blind {as : List zm_v} (hn : ∀ w ∈ nest, (∃ (a : String) (i : Nat) (b n d h : String), w = .fieldLinkNest a i b n d h) ∨ ∃ (a : String) (i : Nat) (x : MethodName) (h : String), w = .methodLinkNest a i x h) : FrameBlind (zw_P sh X ad cA cB D cl nest as μ) := by
  intro a U g mk q
  obtain ⟨q0, ⟨h1, h2, h3, h4, h5⟩, hP⟩ := q
  refine ⟨q0, ⟨va_K.moved (u := U) (U := U.calling g mk a) (Vm.Alike.refl U.vm) h1, fun w hw => ?_, va_Z.moved (u := U) (U := U.calling g mk a) (Vm.Alike.refl U.vm) h3, va_T.moved (u := U) (U := U.calling g mk a) (Vm.Alike.refl U.vm) h4, va_T.moved (u := U) (U := U.calling g mk a) (Vm.Alike.refl U.vm) h5⟩, hP⟩
  rcases hn w hw with ⟨a1, i, b, n, d, h, rfl⟩ | ⟨a1, i, x, h, rfl⟩
  · exact va_Nw.same (u := U) rfl rfl (h2 _ hw)
  · exact va_Nw.same (u := U) rfl rfl (h2 _ hw)
theorem zw_c35 {d : Nat} {r : Option zm_v} (S : zw_C p m c cc nL s args big (cn own) sh X ad cA cB D cl nest) (KC : zw_KC cl big nest cn tb M np N) (hR : d + 1 ≤ R.frames ∧ 64 * (d + 1) ≤ R.locals ∧ cells ≤ R.cells ∧ slots ≤ R.slots) (hck : zw_ck cc own nL ret tb np (pc, nx, 35, a, b, k, sw) = true) (hlen : (Nat.ble b st.length && Nat.ble (st.drop b).length 8) = true)
    (hM : zw_Met l sh X ad cA cB D cl big nest M d a (st.take b).reverse μ r μ') (hP : va_P D cl (zw_W sh ad cA cB μ) H) (hS : va_S (zw_A sh ad) s.heap H locs) (hl : lv_has ls nL (zw_l ad lo))
    (kk : ∀ (H1 : Heap) (locs1 : List Loc), va_P D cl (zw_W sh ad cA cB μ') H1 → va_S (zw_A sh ad) s.heap H1 locs1 → W p l e R s m args below meth c H1 locs1 cells slots Q (F0 m nx ls ((r.toList ++ st.drop b).map (zw_v ad)))) : W p l e R s m args below meth c H locs cells slots Q (F0 m pc ls (st.map (zw_v ad))) := by
  obtain ⟨hx, hc, hml, hown, hts, hF, hinj⟩ := S
  simp only [zw_ck] at hck
  split at hck
  · cases hck
  rename_i ins len hd
  rw [Bool.and_eq_true] at hck
  obtain ⟨hnx, hck⟩ := hck
  have hnx := Nat.eq_of_beq_eq_true hnx
  split at hck
  · rename_i i
    simp only [Bool.and_eq_true] at hck
    obtain ⟨h1, h2, h3⟩ := hck
    have h1 := Nat.eq_of_beq_eq_true h1
    have h3 := Nat.eq_of_beq_eq_true h3
    subst h1
    subst hnx
    have h2 := List.contains_iff_mem.mp h2
    obtain ⟨⟨y1, y2, y3, y4⟩, g2, g3, g4⟩ := KC.1 _ h2
    rw [Bool.and_eq_true] at hlen
    have hb1 : b ≤ st.length := Nat.le_of_ble_eq_true hlen.1
    have hb2 : (st.drop b).length ≤ 8 := Nat.le_of_ble_eq_true hlen.2
    have hSt : CallFix p m c cc nL s args big (cn own) := ⟨hx, hc, hml, hown, hts⟩
    have hp : PreS s H (zw_P sh X ad cA cB D cl nest (st.take b).reverse μ) ((st.take b).reverse.map (zw_v ad)) := ⟨zw_blind KC.2.2.2, fun U hU hW => ⟨rfl, zw_F.to KC.2.2.2 hF (by rw [hU]; exact hS) hW, by rw [hU]; exact hP⟩⟩
    have hn : ((st.take b).reverse.map (zw_v ad)).length = np a := by
      rw [List.length_map, List.length_reverse, List.length_take]
      omega
    have hst : st.map (zw_v ad) = ((st.take b).reverse.map (zw_v ad)).reverse ++ (st.drop b).map (zw_v ad) := by
      rw [← List.map_reverse, List.reverse_reverse, ← List.map_append, List.take_append_drop]
    have hrr : (zw_rm d).frames + 1 ≤ R.frames ∧ 8 + ((M a).2.2.1 + 11) + (zw_rm d).locals ≤ R.locals := by
      show d + 1 ≤ R.frames ∧ 8 + ((M a).2.2.1 + 11) + 64 * d ≤ R.locals
      have y4' : (M a).2.2.1 ≤ 45 := y4
      omega
    have hw8 : 2 * (F0 m pc ls (st.map (zw_v ad))).monitorRoom + (((st.drop b).map (zw_v ad)).map fun v => v.category).sum ≤ 8 := by
      rw [zw_cat]
      show 2 * 0 + _ ≤ 8
      omega
    have hre : (r.map (zw_v ad)).toList ++ (st.drop b).map (zw_v ad) = (r.toList ++ st.drop b).map (zw_v ad) := by
      rw [List.map_append]
      cases r <;> rfl
    rcases g2 with g2 | ⟨ho, g2⟩
    · have hr := va_runS (R := R) (below := below) (meth := meth) (e := e) (cells := cells) (slots := slots) (locs := locs) (g := F0 m pc ls (st.map (zw_v ad))) hSt hM ⟨callB_of (np a) hts (zw_goodIn KC.2.2.1 y3) rfl rfl rfl (hts _ y2) (hts _ g2) y1 hrr, hts _ g3⟩ hp rfl hn hl.1 hst hw8 hd ⟨hR.2.2.1, hR.2.2.2⟩
      exact zw_after hr hS (fun H1 locs1 q1 q2 => by rw [hre]; exact kk H1 locs1 q1 q2)
    · have hr := va_runSN (R := R) (below := below) (meth := meth) (e := e) (cells := cells) (slots := slots) (locs := locs) (g := F0 m pc ls (st.map (zw_v ad))) hSt hM ⟨va_cnB (np a) hts (zw_goodIn KC.2.2.1 y3) rfl rfl rfl (hF.2.1 _ g2) (hts _ y2) y1 hrr, hts _ g3, trivial⟩ hp rfl hn hl.1 hst hw8 hd ⟨hR.2.2.1, hR.2.2.2⟩
      exact zw_after hr hS (fun H1 locs1 q1 q2 => by rw [hre]; exact kk H1 locs1 q1 q2)
  · cases hck
theorem zw_c36 {d : Nat} {r : Option zm_v} (S : zw_C p m c cc nL s args big (cn own) sh X ad cA cB D cl nest) (KC : zw_KC cl big nest cn tb M np N) (hR : d + 1 ≤ R.frames ∧ 64 * (d + 1) ≤ R.locals ∧ cells ≤ R.cells ∧ slots ≤ R.slots) (hck : zw_ck cc own nL ret tb np (pc, nx, 36, a, b, k, sw) = true) (hlen : (Nat.ble b st.length && Nat.ble (st.drop b).length 8 && zm_is sh k.toNatClampNeg (st.take b).reverse) = true)
    (hM : zw_Met l sh X ad cA cB D cl big nest M d a (st.take b).reverse μ r μ') (hP : va_P D cl (zw_W sh ad cA cB μ) H) (hS : va_S (zw_A sh ad) s.heap H locs) (hl : lv_has ls nL (zw_l ad lo))
    (kk : ∀ (H1 : Heap) (locs1 : List Loc), va_P D cl (zw_W sh ad cA cB μ') H1 → va_S (zw_A sh ad) s.heap H1 locs1 → W p l e R s m args below meth c H1 locs1 cells slots Q (F0 m nx ls ((r.toList ++ st.drop b).map (zw_v ad)))) : W p l e R s m args below meth c H locs cells slots Q (F0 m pc ls (st.map (zw_v ad))) := by
  obtain ⟨hx, hc, hml, hown, hts, hF, hinj⟩ := S
  simp only [zw_ck] at hck
  split at hck
  · cases hck
  rename_i ins len hd
  rw [Bool.and_eq_true] at hck
  obtain ⟨hnx, hck⟩ := hck
  have hnx := Nat.eq_of_beq_eq_true hnx
  split at hck
  · rename_i i
    simp only [Bool.and_eq_true] at hck hlen
    obtain ⟨h1, h2, h3⟩ := hck
    have h1 := Nat.eq_of_beq_eq_true h1
    have h3 := Nat.eq_of_beq_eq_true h3
    subst h1
    subst hnx
    have h2 := List.contains_iff_mem.mp h2
    obtain ⟨⟨y1, y2, y3, y4⟩, g2, g3, g5, ⟨T, kT, g6⟩, g4⟩ := KC.2.1 _ h2
    obtain ⟨⟨hl1, hl2⟩, his⟩ := hlen
    have hb1 : b ≤ st.length := Nat.le_of_ble_eq_true hl1
    have hb2 : (st.drop b).length ≤ 8 := Nat.le_of_ble_eq_true hl2
    have hSt : CallFix p m c cc nL s args big (cn own) := ⟨hx, hc, hml, hown, hts⟩
    generalize has : (st.take b).reverse = as at hM his
    have hst0 : st = as.reverse ++ st.drop b := by
      rw [← has, List.reverse_reverse, List.take_append_drop]
    have hlas : as.length = b := by
      rw [← has, List.length_reverse, List.length_take]
      omega
    match as, his, hM, hst0, hlas with
    | .inr j :: ar, his, hM, hst0, hlas =>
      simp only [zm_is] at his
      split at his
      · rename_i ci fs hj
        have hci := Nat.eq_of_beq_eq_true his
        subst hci
        have hw := zw_at (ad := ad) (cA := cA) (cB := cB) (μ := μ) hj
        obtain ⟨cellB, q1, q2, q3⟩ := va_recv hF.1 hP g6 hw
        have hp : PreV s H (M a).1.cls (ad j) (zw_P sh X ad cA cB D cl nest (.inr j :: ar) μ) (ar.map (zw_v ad)) := ⟨zw_blind KC.2.2.2, ⟨cellB, q1, q2, q3⟩, fun U hU hW => ⟨rfl, zw_F.to KC.2.2.2 hF (by rw [hU]; exact hS) hW, by rw [hU]; exact hP⟩⟩
        have hn : (ar.map (zw_v ad)).length = np a := by
          rw [List.length_map]
          simp only [List.length_cons] at hlas
          omega
        have hst : st.map (zw_v ad) = (ar.map (zw_v ad)).reverse ++ .ref (ad j) :: (st.drop b).map (zw_v ad) := by
          have h9 := congrArg (List.map (zw_v ad)) hst0
          rw [h9]
          simp only [List.reverse_cons, List.map_append, List.map_reverse, List.map_cons, List.map_nil, List.append_assoc, List.cons_append, List.nil_append, zw_v]
        have hrr : (zw_rm d).frames + 1 ≤ R.frames ∧ 8 + ((M a).2.2.1 + 11) + (zw_rm d).locals ≤ R.locals := by
          show d + 1 ≤ R.frames ∧ 8 + ((M a).2.2.1 + 11) + 64 * d ≤ R.locals
          have y4' : (M a).2.2.1 ≤ 45 := y4
          omega
        have hw8 : 2 * (F0 m pc ls (st.map (zw_v ad))).monitorRoom + (((st.drop b).map (zw_v ad)).map fun v => v.category).sum ≤ 8 := by
          rw [zw_cat]
          show 2 * 0 + _ ≤ 8
          omega
        have hre : (r.map (zw_v ad)).toList ++ (st.drop b).map (zw_v ad) = (r.toList ++ st.drop b).map (zw_v ad) := by
          rw [List.map_append]
          cases r <;> rfl
        rcases g2 with g2 | ⟨ho, g2⟩
        · have hr := va_runV (R := R) (below := below) (meth := meth) (e := e) (cells := cells) (slots := slots) (locs := locs) (g := F0 m pc ls (st.map (zw_v ad))) hSt hM ⟨callB_of (np a) hts (zw_goodIn KC.2.2.1 y3) rfl rfl rfl (hts _ y2) (hts _ g2) y1 hrr, hts _ g3, hts _ g5⟩ hp rfl hn hl.1 hst hw8 hd ⟨hR.2.2.1, hR.2.2.2⟩
          exact zw_after hr hS (fun H1 locs1 q1 q2 => by rw [hre]; exact kk H1 locs1 q1 q2)
        · have hr := va_runVN (R := R) (below := below) (meth := meth) (e := e) (cells := cells) (slots := slots) (locs := locs) (g := F0 m pc ls (st.map (zw_v ad))) hSt hM ⟨va_cnB (np a) hts (zw_goodIn KC.2.2.1 y3) rfl rfl rfl (hF.2.1 _ g2) (hts _ y2) y1 hrr, hts _ g3, hts _ g5⟩ hp rfl hn hl.1 hst hw8 hd ⟨hR.2.2.1, hR.2.2.2⟩
          exact zw_after hr hS (fun H1 locs1 q1 q2 => by rw [hre]; exact kk H1 locs1 q1 q2)
      · cases his
    | .inl _ :: _, his, _, _, _ => cases his
    | [], his, _, _, _ => cases his
  · cases hck
theorem zw_c33 (hck : zw_ck cc own nL ret tb np (pc, nx, 33, a, b, k, sw) = true) : decode cc pc = .ok (.ireturn, 1) ∧ ret = some .int := by
  simp only [zw_ck] at hck
  split at hck
  · cases hck
  rename_i ins len hd
  rw [Bool.and_eq_true] at hck
  obtain ⟨hnx, hck⟩ := hck
  split at hck
  · simp only [Bool.and_eq_true, decide_eq_true_eq] at hck
    obtain ⟨h1, h2⟩ := hck
    have h1 := Nat.eq_of_beq_eq_true h1
    subst h1
    exact ⟨hd, h2⟩
  · cases hck
theorem zw_c34 (hck : zw_ck cc own nL ret tb np (pc, nx, 34, a, b, k, sw) = true) : decode cc pc = .ok (.return_, 1) ∧ ret = none := by
  simp only [zw_ck] at hck
  split at hck
  · cases hck
  rename_i ins len hd
  rw [Bool.and_eq_true] at hck
  obtain ⟨hnx, hck⟩ := hck
  split at hck
  · simp only [Bool.and_eq_true, decide_eq_true_eq] at hck
    obtain ⟨h1, h2⟩ := hck
    have h1 := Nat.eq_of_beq_eq_true h1
    subst h1
    exact ⟨hd, h2⟩
  · cases hck
theorem zw_c37 (hck : zw_ck cc own nL ret tb np (pc, nx, 37, a, b, k, sw) = true) : decode cc pc = .ok (.ireturn, 1) ∧ ret = some .boolean := by
  simp only [zw_ck] at hck
  split at hck
  · cases hck
  rename_i ins len hd
  rw [Bool.and_eq_true] at hck
  obtain ⟨hnx, hck⟩ := hck
  split at hck
  · simp only [Bool.and_eq_true, decide_eq_true_eq] at hck
    obtain ⟨h1, h2⟩ := hck
    have h1 := Nat.eq_of_beq_eq_true h1
    subst h1
    exact ⟨hd, h2⟩
  · cases hck
theorem zw_takeL {st : List zm_v} {b n : Nat} (h : b ≤ n) : (st.take b).reverse.length ≤ n := by
  rw [List.length_reverse, List.length_take]
  omega
theorem zw_c35n (KC : zw_KC cl big nest cn tb M np N) (hck : zw_ck cc own nL ret tb np (pc, nx, 35, a, b, k, sw) = true) : a < N ∧ b ≤ (M a).2.2.1 := by
  simp only [zw_ck] at hck
  split at hck
  · cases hck
  rename_i ins len hd
  rw [Bool.and_eq_true] at hck
  obtain ⟨hnx, hck⟩ := hck
  split at hck
  · simp only [Bool.and_eq_true] at hck
    obtain ⟨h1, h2, h3⟩ := hck
    have h2 := List.contains_iff_mem.mp h2
    have h3 := Nat.eq_of_beq_eq_true h3
    have h4 := (KC.1 _ h2).2.2.2
    exact ⟨h4.1, by rw [h3]; exact h4.2⟩
  · cases hck
theorem zw_c36n (KC : zw_KC cl big nest cn tb M np N) (hck : zw_ck cc own nL ret tb np (pc, nx, 36, a, b, k, sw) = true) : a < N ∧ b ≤ (M a).2.2.1 := by
  simp only [zw_ck] at hck
  split at hck
  · cases hck
  rename_i ins len hd
  rw [Bool.and_eq_true] at hck
  obtain ⟨hnx, hck⟩ := hck
  split at hck
  · simp only [Bool.and_eq_true] at hck
    obtain ⟨h1, h2, h3⟩ := hck
    have h2 := List.contains_iff_mem.mp h2
    have h3 := Nat.eq_of_beq_eq_true h3
    have h4 := (KC.2.1 _ h2).2.2.2.2.2
    exact ⟨h4.1, by rw [h3]; exact h4.2⟩
  · cases hck
theorem zm_at_mem : ∀ {t : List zm_q} {pc : Nat} {q : zm_q}, zm_at t pc = some q → q ∈ t ∧ q.1 = pc := by
  intro t
  induction t with
  | nil => intro pc q h; cases h
  | cons x r ih =>
    intro pc q h
    unfold zm_at at h
    cases hb : Nat.beq x.1 pc with
    | true =>
      rw [hb] at h
      cases h
      exact ⟨List.mem_cons_self, Nat.eq_of_beq_eq_true hb⟩
    | false =>
      rw [hb] at h
      obtain ⟨h1, h2⟩ := ih h
      exact ⟨List.mem_cons_of_mem _ h1, h2⟩
theorem zw_inner {d : Nat} {call : Nat → List zm_v → zm_u → Option (Option zm_v × zm_u)} {t : List zm_q} {r : Option zm_v} (S : zw_C p m c cc nL s args big (cn own) sh X ad cA cB D cl nest) (K : zw_K cl big nest cn tb) (KC : zw_KC cl big nest cn tb M np N) (hR : d + 1 ≤ R.frames ∧ 64 * (d + 1) ≤ R.locals ∧ cells ≤ R.cells ∧ slots ≤ R.slots)
    (hfin : ∀ (H : Heap) (locs : List Loc) (ls : Array Slot) (pc : Nat), va_P D cl (zw_W sh ad cA cB μ') H → va_S (zw_A sh ad) s.heap H locs → ((∃ v : Int32, r = some (.inl v) ∧ decode cc pc = .ok (.ireturn, 1) ∧ (ret = some .int ∨ (ret = some .boolean ∧ (v = 0 ∨ v = 1)))) ∨ (r = none ∧ decode cc pc = .ok (.return_, 1) ∧ ret = none)) → W p l e R s m args below meth c H locs cells slots Q (F0 m pc ls (r.map (zw_v ad)).toList))
    (hck : ∀ q ∈ t, zw_ck cc own nL ret tb np q = true) (ih : ∀ n as μ r μ', n < N → as.length ≤ (M n).2.2.1 → call n as μ = some (r, μ') → zw_Met l sh X ad cA cB D cl big nest M d n as μ r μ') :
    ∀ (f pc : Nat) (lo : zm_L) (st : List zm_v) (μ : zm_u) (H : Heap) (locs : List Loc) (ls : Array Slot), zm_loop sh X call t f pc lo st μ = some (r, μ') → va_P D cl (zw_W sh ad cA cB μ) H → va_S (zw_A sh ad) s.heap H locs → lv_has ls nL (zw_l ad lo) → zm_srt lo = true →
      W p l e R s m args below meth c H locs cells slots Q (F0 m pc ls (st.map (zw_v ad))) := by
  have hR2 : 1 ≤ R.frames ∧ 40 ≤ R.locals ∧ cells ≤ R.cells ∧ slots ≤ R.slots := by omega
  intro f
  induction f with
  | zero => intro pc lo st μ H locs ls h; cases h
  | succ f ihf =>
    intro pc lo st μ H locs ls h hP hS hl hs
    unfold zm_loop at h
    cases hq : zm_at t pc with
    | none => rw [hq] at h; cases h
    | some q =>
      rw [hq] at h
      simp only at h
      obtain ⟨hqm, hqp⟩ := zm_at_mem hq
      have hc := hck q hqm
      unfold zm_st at h
      cases h1 : zm_s1 sh X q lo st μ with
      | some y =>
        obtain ⟨bs, pc', lo', st', μ1⟩ := y
        rw [h1] at h
        simp only at h
        cases hb : bs.all id with
        | false => rw [hb] at h; cases h
        | true =>
          rw [hb] at h
          simp only [cond_true] at h
          have k9 := zw_one (p := p) (l := l) (e := e) (R := R) (m := m) (below := below) (meth := meth) (cells := cells) (slots := slots) (Q := Q) S K hR2 hc h1 hb hP hS hl hs (fun H1 locs1 ls1 q1 q2 q3 q4 => ihf pc' lo' st' μ1 H1 locs1 ls1 h q1 q2 q3 q4)
          rw [hqp] at k9
          exact k9
      | none =>
        rw [h1] at h
        simp only at h
        cases h2 : zm_s2 sh call q lo st μ with
        | none => rw [h2] at h; cases h
        | some y =>
          rw [h2] at h
          obtain ⟨pc0, nx, op, a, b, k, sw⟩ := q
          simp only at hqp
          subst hqp
          unfold zm_s2 at h2
          simp only at h2
          split at h2
          · split at h2
            · cases h2
              exact zw_c30 S hc (ihf _ lo _ μ H locs ls h hP hS hl hs)
            · cases h2
          · split at h2
            · cases h2
              exact zw_c31 S hc (ihf _ lo _ μ H locs ls h hP hS hl hs)
            · cases h2
          · split at h2
            · cases h2
              exact zw_c32 S hc (ihf _ lo _ μ H locs ls h hP hS hl hs)
            · cases h2
          · split at h2
            · cases h2
              cases h
              have hd := zw_c33 hc
              exact hfin H locs ls _ hP hS (Or.inl ⟨_, rfl, hd.1, Or.inl hd.2⟩)
            · cases h2
          · split at h2
            · cases h2
              cases h
              have hd := zw_c34 hc
              exact hfin H locs ls _ hP hS (Or.inr ⟨rfl, hd.1, hd.2⟩)
            · cases h2
          · cases hb : (Nat.ble b st.length && Nat.ble (st.drop b).length 8) with
            | false => rw [hb] at h2; cases h2
            | true =>
              rw [hb] at h2
              simp only [cond_true] at h2
              split at h2
              · rename_i r1 μ1 hcl
                cases h2
                exact zw_c35 S KC hR hc hb (ih _ _ _ _ _ (zw_c35n KC hc).1 (zw_takeL (zw_c35n KC hc).2) hcl) hP hS hl (fun H1 locs1 q1 q2 => ihf _ lo _ μ1 H1 locs1 ls h q1 q2 hl hs)
              · cases h2
          · cases hb : (Nat.ble b st.length && Nat.ble (st.drop b).length 8 && zm_is sh k.toNatClampNeg (st.take b).reverse) with
            | false => rw [hb] at h2; cases h2
            | true =>
              rw [hb] at h2
              simp only [cond_true] at h2
              split at h2
              · rename_i r1 μ1 hcl
                cases h2
                exact zw_c36 S KC hR hc hb (ih _ _ _ _ _ (zw_c36n KC hc).1 (zw_takeL (zw_c36n KC hc).2) hcl) hP hS hl (fun H1 locs1 q1 q2 => ihf _ lo _ μ1 H1 locs1 ls h q1 q2 hl hs)
              · cases h2
          · split at h2
            · rename_i v
              cases hv : decide (v = 0 ∨ v = 1) with
              | false => rw [hv] at h2; cases h2
              | true =>
                rw [hv] at h2
                cases h2
                cases h
                have hd := zw_c37 hc
                have hv := of_decide_eq_true hv
                exact hfin H locs ls _ hP hS (Or.inl ⟨_, rfl, hd.1, Or.inr ⟨hd.2, hv⟩⟩)
            · cases h2
          · cases h2
theorem zw_args {ad : Nat → Nat} : ∀ (as : List zm_v) (i : Nat), lv_args i (as.map (zw_v ad)) = zw_l ad (zm_args i as) := by
  intro as
  induction as with
  | nil => intro i; rfl
  | cons v r ih =>
    intro i
    have hv : (zw_v ad v).category = 1 := by cases v <;> rfl
    show (i, zw_v ad v) :: lv_args (if (zw_v ad v).category = 2 then i + 2 else i + 1) (r.map (zw_v ad)) = (i, zw_v ad v) :: zw_l ad (zm_args (i + 1) r)
    rw [hv, if_neg (by decide), ih]
theorem zw_slen {ad : Nat → Nat} : ∀ (as : List zm_v), (lg_sl (as.map (zw_v ad))).length = as.length := by
  intro as
  induction as with
  | nil => rfl
  | cons v r ih =>
    have hv : (zw_v ad v).category = 1 := by cases v <;> rfl
    have e1 : lg_sl ((v :: r).map (zw_v ad)) = (if (zw_v ad v).category = 2 then [Slot.val (zw_v ad v), .second] else [Slot.val (zw_v ad v)]) ++ lg_sl (r.map (zw_v ad)) := by
      unfold lg_sl
      rw [List.map_cons, List.flatMap_cons]
    rw [e1, hv, if_neg (by decide), List.length_append, ih]
    simp only [List.length_cons, List.length_nil]
    omega
theorem zm_args_srt : ∀ (as : List zm_v) (i : Nat), zm_srt (zm_args i as) = true ∧ ∀ q ∈ zm_args i as, i ≤ q.1 := by
  intro as
  induction as with
  | nil => intro i; exact ⟨rfl, fun q h => by cases h⟩
  | cons v r ih =>
    intro i
    obtain ⟨h1, h2⟩ := ih (i + 1)
    refine ⟨?_, fun q hq => ?_⟩
    · unfold zm_args zm_srt
      rw [Bool.and_eq_true]
      refine ⟨?_, h1⟩
      rw [List.all_eq_true]
      intro q hq
      have := h2 q hq
      simp
      omega
    · rcases List.mem_cons.mp hq with rfl | hq
      · exact Nat.le_refl i
      · have := h2 q hq
        omega

theorem zw_sound {cd : Nat → List zm_q} {F : Nat} (hinj : ∀ i j : Nat, i < sh.length → j < sh.length → ad i = ad j → i = j) (K : zw_K cl big nest cn tb) (KC : zw_KC cl big nest cn tb M np N)
    (hck : ∀ n, n < N → plainName (M n).1.cls = true ∧ cn (M n).2.2.2.2 = (M n).1.cls ∧ ∀ q ∈ cd n, zw_ck (M n).2.1 (M n).2.2.2.2 (M n).2.2.1 (M n).2.2.2.1 tb np q = true) :
    ∀ (d n : Nat) (as : List zm_v) (μ : zm_u) (r : Option zm_v) (μ' : zm_u), n < N → as.length ≤ (M n).2.2.1 → zm_ev sh cd X F d n as μ = some (r, μ') → zw_Met l sh X ad cA cB D cl big nest M d n as μ r μ' := by
  intro d
  induction d with
  | zero => intro n as μ r μ' _ _ h; cases h
  | succ d ih =>
    intro n as μ r μ' hn hlen h
    unfold zm_ev at h
    obtain ⟨hp, hcn, hq⟩ := hck n hn
    refine Met.ofW (cc := (M n).2.1) (maxL := (M n).2.2.1) (ret := (M n).2.2.2.1) hp rfl ?_
    intro p e s m args below meth c s₁ B hml hv
    obtain ⟨rfl, hF, hP⟩ := hv
    have hts := atoms_spec (ws := zw_ws big (M n)) B.pre
    have hown : s.vm.findClass (M n).1.cls = some m.cls := findClass_of_methodNamed B.named
    have hl := lv_entry (as.map (zw_v ad)) (n := (M n).2.2.1) (by rw [zw_slen]; exact hlen)
    rw [lg_entry_eq]
    rw [zw_args] at hl
    generalize (lg_sl (as.map (zw_v ad)) ++ List.replicate ((M n).2.2.1 - (lg_sl (as.map (zw_v ad))).length) Slot.unset).toArray = ls at hl ⊢
    have S : zw_C p m c (M n).2.1 (M n).2.2.1 s (as.map (zw_v ad)).toArray big (cn (M n).2.2.2.2) sh X ad cA cB D cl nest := ⟨B.exec, B.bytes, hml, by rw [hcn]; exact hown, fun w hw => hts w (List.mem_cons_of_mem _ hw), hF, hinj⟩
    have hlocks := B.notSynchronized
    have hret := B.returns
    have hfin : ∀ (H : Heap) (locs : List Loc) (ls : Array Slot) (pc : Nat), va_P D cl (zw_W sh ad cA cB μ') H → va_S (zw_A sh ad) s.heap H locs → ((∃ v : Int32, r = some (.inl v) ∧ decode (M n).2.1 pc = .ok (.ireturn, 1) ∧ ((M n).2.2.2.1 = some .int ∨ ((M n).2.2.2.1 = some .boolean ∧ (v = 0 ∨ v = 1)))) ∨ (r = none ∧ decode (M n).2.1 pc = .ok (.return_, 1) ∧ (M n).2.2.2.1 = none)) →
        W p l e (headSpec (zw_ws big (M n)) (zw_rm (d + 1))).room s m (as.map (zw_v ad)).toArray below meth c H locs 0 0 (MQ below (zw_Q sh ad cA cB D cl r μ') (as.map (zw_v ad)).toArray s 0 0 (zw_A sh ad)) (F0 m pc ls (r.map (zw_v ad)).toList) := by
      intro H locs ls pc hP hS hd
      rcases hd with ⟨v, rfl, hd, hr⟩ | ⟨rfl, hd, hr⟩
      · rcases hr with hr | ⟨hr, hv⟩
        · exact W.iret B.exec B.bytes (hret.trans hr) (fun t ht _ => ⟨⟨rfl, by rw [ht]; exact hP⟩, hS.F ht⟩) hS.2.2 hd
        · exact W.zret (ty := .boolean) B.exec B.bytes (hret.trans hr) (by rcases hv with rfl | rfl <;> rfl) (fun t ht _ => ⟨⟨rfl, by rw [ht]; exact hP⟩, hS.F ht⟩) hS.2.2 hd
      · exact W.vret B.exec B.bytes (hret.trans hr) (fun t ht _ => ⟨⟨rfl, by rw [ht]; exact hP⟩, hS.F ht⟩) hS.2.2 hd
    exact zw_inner (d := d) S K KC ⟨Nat.le_refl _, Nat.le_refl _, Nat.le_refl _, Nat.le_refl _⟩ hfin hq (fun n as μ r μ' h1 h2 h3 => ih n as μ r μ' h1 h2 h3) F 0 _ [] μ s.heap [] ls h hP va_S.rf hl (zm_args_srt as 0).1
end ZY

abbrev zw_Tb : Type := List (Nat × Nat × Nat × Nat)
def zw_lk (big nest : List Cond) (o : String) (i : Nat) (C n d : String) : Prop := Cond.fieldLink o i C n d ∈ big ∨ ∃ h : String, Cond.fieldLinkNest o i C n d h ∈ nest

def zw_fl (cl : List vw_C) (big nest : List Cond) (cn : Nat → String) (x : Nat × Nat × Nat × Nat) : Prop := ∃ (C : String) (T : u_T) (N : Nat), cl[x.2.2.1]? = some (C, T, N) ∧ x.2.2.2 < N ∧ (T x.2.2.2).1 = C ∧ zw_lk big nest (cn x.1) x.2.1 C (T x.2.2.2).2.1 (T x.2.2.2).2.2.1
def zw_pl (ds : String) (cl : List vw_C) (x : Nat × Nat × Nat × Nat) : Prop := ∃ (C : String) (T : u_T) (N : Nat), cl[x.2.2.1]? = some (C, T, N) ∧ (T x.2.2.2).2.2.2 = false ∧ (T x.2.2.2).2.2.1 = ds
def zw_K (cl : List vw_C) (big nest : List Cond) (cn : Nat → String) (tb : Nat → zw_Tb) : Prop :=
  (∀ x ∈ tb 0, zw_fl cl big nest cn x) ∧ (∀ x ∈ tb 1, zw_fl cl big nest cn x ∧ zw_pl "I" cl x) ∧ (∀ x ∈ tb 2, zw_fl cl big nest cn x ∧ zw_pl "Z" cl x) ∧
  (∀ (c : Nat) (q : vw_C), cl[c]? = some q → (∀ w ∈ u_ws q.1 q.2.1 q.2.2, w ∈ big) ∧ (∃ ty : Nat → FieldType, ∀ k, k < q.2.2 → parseFieldDescriptor (q.2.1 k).2.2.1 = some (ty k)) ∧ (∀ a, a < q.2.2 → ∀ b, b < q.2.2 → a ≠ b → (q.2.1 a).2.1 ≠ (q.2.1 b).2.1)) ∧
  (∀ x ∈ tb 5, zw_lk big nest (cn x.1) x.2.1 "RigidCases" "PARTS" "[I") ∧
  (∀ x ∈ tb 6, Cond.methodLink (cn x.1) x.2.1 Lib.Math.max.name ∈ big ∧ Cond.static Lib.Math.max.name ∈ big ∧ Cond.initialized "java/lang/Math" ∈ big ∧ Cond.code Lib.Math.max.name Lib.Math.max.code 2 (some .int) ∈ big) ∧
  (∀ x ∈ tb 7, Cond.methodLink (cn x.1) x.2.1 arraycopyName ∈ big ∧ Cond.native arraycopyName ∈ big ∧ Cond.static arraycopyName ∈ big ∧ Cond.initialized "java/lang/System" ∈ big) ∧
  (∀ x ∈ tb 8, Cond.constant (cn x.1) x.2.1 (Int32.ofNat x.2.2.1) ∈ big)
def zw_F (sh : List zm_h) (X : zm_T) (ad : Nat → Nat) (cA cB : ClassId) (D : va_G) (cl : List vw_C) (nest : List Cond) (U : State) : Prop :=
  va_K D cl [(cA, .int), (cB, .boolean)] U ∧ (∀ w ∈ nest, va_Nw w U) ∧ va_Z "RigidCases" "PARTS" "[I" (.ref (ad 100)) (zw_A sh ad) U U.heap ∧ va_T .int (ad 100) 18 (fun j => .int (zm_pt j)) (zw_A sh ad) U U.heap ∧ va_T .int (ad 101) X.1 (fun j => .int (X.2 j)) (zw_A sh ad) U U.heap

def zw_C (p : Program) (m : MethodId) (c : Code) (cc : ByteArray) (nL : Nat) (s : State) (args : Array Value) (big : List Cond) (on : String) (sh : List zm_h) (X : zm_T) (ad : Nat → Nat) (cA cB : ClassId) (D : va_G) (cl : List vw_C) (nest : List Cond) : Prop :=
  p.tables.exec = Jvm.exec ∧ c.code = cc ∧ c.maxLocals = nL ∧ s.vm.findClass on = some m.cls ∧ (∀ w ∈ big, w.before args s = true) ∧ zw_F sh X ad cA cB D cl nest s ∧ (∀ i j : Nat, i < sh.length → j < sh.length → ad i = ad j → i = j)
def zw_tsw (pc : Nat) (lo : Int) (os : List Int) : List (Int32 × Nat) := match os with
  | [] => []
  | o :: r => (Int32.ofInt lo, ((pc : Int) + o).toNat) :: zw_tsw pc (lo + 1) r
def zw_cnd (b : Nat) : ClassFile.Cond := match b with
  | 0 => .eq
  | 1 => .ne
  | 2 => .lt
  | 3 => .ge
  | 4 => .gt
  | _ => .le

def zw_ck (cc : ByteArray) (own nL : Nat) (ret : Option FieldType) (tb : Nat → zw_Tb) (np : Nat → Nat) (q : zm_q) : Bool :=
  match q with
  | (pc, nx, op, a, b, k, sw) => match decode cc pc with
    | .error _ => false
    | .ok (ins, len) => Nat.beq nx (pc + len) && (match op with
      | 0 => match ins with
        | .iconst i => Nat.beq len 1 && decide (Int32.ofInt i = k)
        | .bipush i => Nat.beq len 2 && decide ((Int8.ofInt i).toInt32 = k)
        | .sipush i => Nat.beq len 3 && decide ((Int16.ofInt i).toInt32 = k)
        | _ => false
      | 1 => match ins with
        | .iload_n j => Nat.beq len 1 && Nat.beq j.val a
        | .iload j => Nat.beq len 2 && Nat.beq j a
        | _ => false
      | 2 => match ins with
        | .istore_n j => Nat.beq len 1 && (Nat.beq j.val a && Nat.blt a nL)
        | .istore j => Nat.beq len 2 && (Nat.beq j a && Nat.blt a nL)
        | _ => false
      | 3 => match ins with
        | .iinc j i => Nat.beq len 3 && (Nat.beq j a && (Nat.blt a nL && decide (Int32.ofInt i = k)))
        | _ => false
      | 4 => match ins with
        | .getfield i => Nat.beq len 3 && (tb 0).contains (own, i, b, a)
        | _ => false
      | 5 => match ins with
        | .putfield i => Nat.beq len 3 && (tb 1).contains (own, i, b, a)
        | _ => false
      | 6 => match ins with
        | .iaload => Nat.beq len 1
        | _ => false
      | 7 => match ins with
        | .iastore => Nat.beq len 1
        | _ => false
      | 8 => match ins with
        | .baload => Nat.beq len 1
        | _ => false
      | 9 => match ins with
        | .bastore => Nat.beq len 1
        | _ => false
      | 10 => match ins with
        | .iadd => Nat.beq len 1
        | _ => false
      | 11 => match ins with
        | .isub => Nat.beq len 1
        | _ => false
      | 12 => match ins with
        | .imul => Nat.beq len 1
        | _ => false
      | 13 => match ins with
        | .iand => Nat.beq len 1
        | _ => false
      | 14 => match ins with
        | .ishl => Nat.beq len 1
        | _ => false
      | 15 => match ins with
        | .ishr => Nat.beq len 1
        | _ => false
      | 16 => match ins with
        | .dup => Nat.beq len 1
        | _ => false
      | 17 => match ins with
        | .dup2 => Nat.beq len 1
        | _ => false
      | 18 => match ins with
        | .pop => Nat.beq len 1
        | _ => false
      | 20 => match ins with
        | .iaload => Nat.beq len 1
        | _ => false
      | 22 => match ins with
        | .arraylength => Nat.beq len 1
        | _ => false
      | 23 => match ins with
        | .iushr => Nat.beq len 1
        | _ => false
      | 19 => match ins with
        | .goto o => Nat.beq len 3 && decide ((pc : Int) + o = (a : Int))
        | _ => false
      | 21 => match ins with
        | .getstatic i => Nat.beq len 3 && (tb 5).contains (own, i, 0, 0)
        | _ => false
      | 24 => match ins with
        | .putfield i => Nat.beq len 3 && (tb 2).contains (own, i, b, a)
        | _ => false
      | 25 => match ins with
        | .invokestatic i => Nat.beq len 3 && (tb 6).contains (own, i, 0, 0)
        | _ => false
      | 26 => match ins with
        | .invokestatic i => Nat.beq len 3 && (tb 7).contains (own, i, 0, 0)
        | _ => false
      | 27 => match ins with
        | .aload_n j => Nat.beq len 1 && Nat.beq j.val a
        | .aload j => Nat.beq len 2 && Nat.beq j a
        | _ => false
      | 28 => match ins with
        | .ldc i => Nat.beq len 2 && ((tb 8).contains (own, i, a, 0) && decide (Int32.ofNat a = k))
        | .ldc_w i => Nat.beq len 3 && ((tb 8).contains (own, i, a, 0) && decide (Int32.ofNat a = k))
        | _ => false
      | 30 => match ins with
        | .ifCond cd o => Nat.beq len 3 && (decide (cd = zw_cnd b) && decide ((pc : Int) + o = (a : Int)))
        | _ => false
      | 31 => match ins with
        | .if_icmp cd o => Nat.beq len 3 && (decide (cd = zw_cnd b) && decide ((pc : Int) + o = (a : Int)))
        | _ => false
      | 32 => match ins with
        | .tableswitch df lo hi os => decide ((pc : Int) + df = (a : Int)) && (decide (sw = zw_tsw pc lo os.toList) && (decide (hi = lo + (os.size : Int) - 1) && (decide (-1000 ≤ lo ∧ lo ≤ 1000 ∧ os.size ≤ 1000) && os.toList.all (fun o => decide (0 ≤ (pc : Int) + o)))))
        | .lookupswitch df ps => decide ((pc : Int) + df = (a : Int)) && (decide (sw = ps.toList.map (fun y => (Int32.ofInt y.1, ((pc : Int) + y.2).toNat))) && ((ps.toList.zip (ps.toList.drop 1)).all (fun (a, next) => a.1 < next.1) && ps.toList.all (fun y => decide (0 ≤ (pc : Int) + y.2 ∧ -1000 ≤ y.1 ∧ y.1 ≤ 1000))))
        | _ => false
      | 33 => match ins with
        | .ireturn => Nat.beq len 1 && decide (ret = some .int)
        | _ => false
      | 34 => match ins with
        | .return_ => Nat.beq len 1 && decide (ret = none)
        | _ => false
      | 35 => match ins with
        | .invokestatic i => Nat.beq len 3 && ((tb 3).contains (own, i, a, b) && Nat.beq b (np a))
        | _ => false
      | 36 => match ins with
        | .invokevirtual i => Nat.beq len 3 && ((tb 4).contains (own, i, a, k.toNatClampNeg) && Nat.beq b (np a + 1))
        | _ => false
      | 37 => match ins with
        | .ireturn => Nat.beq len 1 && decide (ret = some .boolean)
        | _ => false
      | _ => false)
theorem zw_lvset {ls : Array Slot} {nL i : Nat} {v : zm_v} {lo : zm_L} {ad : Nat → Nat} (h : lv_has ls nL ((i, zw_v ad v) :: (zw_l ad lo).filter (fun q => !(q.1 == i) && !(q.1 + 1 == i && q.2.category == 2)))) (hs : zm_srt lo = true) : lv_has ls nL (zw_l ad (zm_set lo i v)) := by
  refine ⟨h.1, h.2.1, fun q hq => h.2.2 q ?_⟩
  obtain ⟨x, hx, rfl⟩ := List.mem_map.mp hq
  rcases (zm_set_srt hs).2 x hx with rfl | ⟨h1, h2⟩
  · exact List.mem_cons_self
  · refine List.mem_cons_of_mem _ (List.mem_filter.mpr ⟨List.mem_map.mpr ⟨x, h1, rfl⟩, ?_⟩)
    have hc : (zw_v ad x.2).category = 1 := by
      cases x.2 <;> rfl
    simp [h2, hc]
theorem zw_lvat {ls : Array Slot} {nL i : Nat} {v : zm_v} {lo : zm_L} {ad : Nat → Nat} (h : lv_has ls nL (zw_l ad lo)) (hg : zm_get lo i = some v) : ls[i]? = some (.val (zw_v ad v)) := h.2.2 _ (zw_lget hg)
theorem zw_all1 {b : Bool} (h : [b].all id = true) : b = true := by simpa using h
theorem zw_vin {i : Int32} {n : Nat} (h : [decide (0 ≤ i.toInt ∧ i.toInt < (n : Int))].all id = true) : vp_in i n := vp_in_iff.mpr (of_decide_eq_true (zw_all1 h))
section ZX
variable {p : Program} {l : Launch} {e : Env} {R : Room} {s : State} {m : MethodId} {args : Array Value} {below : List Frame} {meth : Method} {c : Code} {cells slots : Nat} {Q : State → Prop}
variable {sh : List zm_h} {X : zm_T} {ad : Nat → Nat} {cA cB : ClassId} {D : va_G} {cl : List vw_C} {big nest : List Cond} {tb : Nat → zw_Tb} {cn : Nat → String} {cc : ByteArray} {nL own : Nat} {ret : Option FieldType} {np : Nat → Nat}
variable {pc nx a b : Nat} {k : Int32} {sw : List (Int32 × Nat)} {lo lo' : zm_L} {st st' : List zm_v} {μ μ' : zm_u} {bs : List Bool} {pc' : Nat} {H : Heap} {locs : List Loc} {ls : Array Slot}
theorem zw_o0 (S : zw_C p m c cc nL s args big (cn own) sh X ad cA cB D cl nest) (K : zw_K cl big nest cn tb) (hR : 1 ≤ R.frames ∧ 40 ≤ R.locals ∧ cells ≤ R.cells ∧ slots ≤ R.slots) (hck : zw_ck cc own nL ret tb np (pc, nx, 0, a, b, k, sw) = true) (h : zm_s1 sh X (pc, nx, 0, a, b, k, sw) lo st μ = some (bs, pc', lo', st', μ')) (hb : bs.all id = true)
    (hP : va_P D cl (zw_W sh ad cA cB μ) H) (hS : va_S (zw_A sh ad) s.heap H locs) (hl : lv_has ls nL (zw_l ad lo)) (hs : zm_srt lo = true)
    (kk : ∀ (H1 : Heap) (locs1 : List Loc) (ls1 : Array Slot), va_P D cl (zw_W sh ad cA cB μ') H1 → va_S (zw_A sh ad) s.heap H1 locs1 → lv_has ls1 nL (zw_l ad lo') → zm_srt lo' = true → W p l e R s m args below meth c H1 locs1 cells slots Q (F0 m pc' ls1 (st'.map (zw_v ad)))) :
    W p l e R s m args below meth c H locs cells slots Q (F0 m pc ls (st.map (zw_v ad))) := by
  obtain ⟨hx, hc, hml, hown, hts, hF, hinj⟩ := S
  simp only [zw_ck] at hck
  split at hck
  · cases hck
  rename_i ins len hd
  rw [Bool.and_eq_true] at hck
  obtain ⟨hnx, hck⟩ := hck
  have hnx := Nat.eq_of_beq_eq_true hnx
  simp only [zm_s1] at h
  cases h
  split at hck
  · simp only [Bool.and_eq_true, decide_eq_true_eq] at hck
    obtain ⟨h1, h2⟩ := hck
    have h1 := Nat.eq_of_beq_eq_true h1
    subst h1
    subst hnx
    exact lv_iconst hx hc hd h2 (kk H locs ls hP hS hl hs)
  · simp only [Bool.and_eq_true, decide_eq_true_eq] at hck
    obtain ⟨h1, h2⟩ := hck
    have h1 := Nat.eq_of_beq_eq_true h1
    subst h1
    subst hnx
    exact lv_bipush hx hc hd h2 (kk H locs ls hP hS hl hs)
  · simp only [Bool.and_eq_true, decide_eq_true_eq] at hck
    obtain ⟨h1, h2⟩ := hck
    have h1 := Nat.eq_of_beq_eq_true h1
    subst h1
    subst hnx
    exact lv_sipush hx hc hd h2 (kk H locs ls hP hS hl hs)
  · cases hck
theorem zw_o1 (S : zw_C p m c cc nL s args big (cn own) sh X ad cA cB D cl nest) (K : zw_K cl big nest cn tb) (hR : 1 ≤ R.frames ∧ 40 ≤ R.locals ∧ cells ≤ R.cells ∧ slots ≤ R.slots) (hck : zw_ck cc own nL ret tb np (pc, nx, 1, a, b, k, sw) = true) (h : zm_s1 sh X (pc, nx, 1, a, b, k, sw) lo st μ = some (bs, pc', lo', st', μ')) (hb : bs.all id = true)
    (hP : va_P D cl (zw_W sh ad cA cB μ) H) (hS : va_S (zw_A sh ad) s.heap H locs) (hl : lv_has ls nL (zw_l ad lo)) (hs : zm_srt lo = true)
    (kk : ∀ (H1 : Heap) (locs1 : List Loc) (ls1 : Array Slot), va_P D cl (zw_W sh ad cA cB μ') H1 → va_S (zw_A sh ad) s.heap H1 locs1 → lv_has ls1 nL (zw_l ad lo') → zm_srt lo' = true → W p l e R s m args below meth c H1 locs1 cells slots Q (F0 m pc' ls1 (st'.map (zw_v ad)))) :
    W p l e R s m args below meth c H locs cells slots Q (F0 m pc ls (st.map (zw_v ad))) := by
  obtain ⟨hx, hc, hml, hown, hts, hF, hinj⟩ := S
  simp only [zw_ck] at hck
  split at hck
  · cases hck
  rename_i ins len hd
  rw [Bool.and_eq_true] at hck
  obtain ⟨hnx, hck⟩ := hck
  have hnx := Nat.eq_of_beq_eq_true hnx
  simp only [zm_s1] at h
  split at h
  · rename_i v hv
    cases h
    split at hck
    · rw [Bool.and_eq_true] at hck
      obtain ⟨h1, h2⟩ := hck
      have h1 := Nat.eq_of_beq_eq_true h1
      have h2 := Nat.eq_of_beq_eq_true h2
      subst h1
      subst hnx
      exact lv_iload_n hx hc hd h2 (zw_lvat hl hv) (kk H locs ls hP hS hl hs)
    · rw [Bool.and_eq_true] at hck
      obtain ⟨h1, h2⟩ := hck
      have h1 := Nat.eq_of_beq_eq_true h1
      have h2 := Nat.eq_of_beq_eq_true h2
      subst h1
      subst hnx
      subst h2
      exact lv_iload hx hc hd (zw_lvat hl hv) (kk H locs ls hP hS hl hs)
    · cases hck
  · cases h
theorem zw_o27 (S : zw_C p m c cc nL s args big (cn own) sh X ad cA cB D cl nest) (K : zw_K cl big nest cn tb) (hR : 1 ≤ R.frames ∧ 40 ≤ R.locals ∧ cells ≤ R.cells ∧ slots ≤ R.slots) (hck : zw_ck cc own nL ret tb np (pc, nx, 27, a, b, k, sw) = true) (h : zm_s1 sh X (pc, nx, 27, a, b, k, sw) lo st μ = some (bs, pc', lo', st', μ')) (hb : bs.all id = true)
    (hP : va_P D cl (zw_W sh ad cA cB μ) H) (hS : va_S (zw_A sh ad) s.heap H locs) (hl : lv_has ls nL (zw_l ad lo)) (hs : zm_srt lo = true)
    (kk : ∀ (H1 : Heap) (locs1 : List Loc) (ls1 : Array Slot), va_P D cl (zw_W sh ad cA cB μ') H1 → va_S (zw_A sh ad) s.heap H1 locs1 → lv_has ls1 nL (zw_l ad lo') → zm_srt lo' = true → W p l e R s m args below meth c H1 locs1 cells slots Q (F0 m pc' ls1 (st'.map (zw_v ad)))) :
    W p l e R s m args below meth c H locs cells slots Q (F0 m pc ls (st.map (zw_v ad))) := by
  obtain ⟨hx, hc, hml, hown, hts, hF, hinj⟩ := S
  simp only [zw_ck] at hck
  split at hck
  · cases hck
  rename_i ins len hd
  rw [Bool.and_eq_true] at hck
  obtain ⟨hnx, hck⟩ := hck
  have hnx := Nat.eq_of_beq_eq_true hnx
  simp only [zm_s1] at h
  split at h
  · rename_i v hv
    cases h
    split at hck
    · rw [Bool.and_eq_true] at hck
      obtain ⟨h1, h2⟩ := hck
      have h1 := Nat.eq_of_beq_eq_true h1
      have h2 := Nat.eq_of_beq_eq_true h2
      subst h1
      subst hnx
      exact lv_aload_n hx hc hd h2 (zw_lvat hl hv) (kk H locs ls hP hS hl hs)
    · rw [Bool.and_eq_true] at hck
      obtain ⟨h1, h2⟩ := hck
      have h1 := Nat.eq_of_beq_eq_true h1
      have h2 := Nat.eq_of_beq_eq_true h2
      subst h1
      subst hnx
      subst h2
      exact lv_aload hx hc hd (zw_lvat hl hv) (kk H locs ls hP hS hl hs)
    · cases hck
  · cases h
theorem zw_o2 (S : zw_C p m c cc nL s args big (cn own) sh X ad cA cB D cl nest) (K : zw_K cl big nest cn tb) (hR : 1 ≤ R.frames ∧ 40 ≤ R.locals ∧ cells ≤ R.cells ∧ slots ≤ R.slots) (hck : zw_ck cc own nL ret tb np (pc, nx, 2, a, b, k, sw) = true) (h : zm_s1 sh X (pc, nx, 2, a, b, k, sw) lo st μ = some (bs, pc', lo', st', μ')) (hb : bs.all id = true)
    (hP : va_P D cl (zw_W sh ad cA cB μ) H) (hS : va_S (zw_A sh ad) s.heap H locs) (hl : lv_has ls nL (zw_l ad lo)) (hs : zm_srt lo = true)
    (kk : ∀ (H1 : Heap) (locs1 : List Loc) (ls1 : Array Slot), va_P D cl (zw_W sh ad cA cB μ') H1 → va_S (zw_A sh ad) s.heap H1 locs1 → lv_has ls1 nL (zw_l ad lo') → zm_srt lo' = true → W p l e R s m args below meth c H1 locs1 cells slots Q (F0 m pc' ls1 (st'.map (zw_v ad)))) :
    W p l e R s m args below meth c H locs cells slots Q (F0 m pc ls (st.map (zw_v ad))) := by
  obtain ⟨hx, hc, hml, hown, hts, hF, hinj⟩ := S
  simp only [zw_ck] at hck
  split at hck
  · cases hck
  rename_i ins len hd
  rw [Bool.and_eq_true] at hck
  obtain ⟨hnx, hck⟩ := hck
  have hnx := Nat.eq_of_beq_eq_true hnx
  simp only [zm_s1] at h
  split at h
  · rename_i v r
    cases h
    split at hck
    · simp only [Bool.and_eq_true] at hck
      obtain ⟨h1, h2, h3⟩ := hck
      have h1 := Nat.eq_of_beq_eq_true h1
      have h2 := Nat.eq_of_beq_eq_true h2
      have h3 : a < nL := by simpa using h3
      subst h1
      subst hnx
      exact lv_istore_n hx hc hd h2 hl h3 rfl (fun ls1 hl1 => kk H locs ls1 hP hS (zw_lvset (v := .inl v) hl1 hs) (zm_set_srt hs).1)
    · simp only [Bool.and_eq_true] at hck
      obtain ⟨h1, h2, h3⟩ := hck
      have h1 := Nat.eq_of_beq_eq_true h1
      have h2 := Nat.eq_of_beq_eq_true h2
      have h3 : a < nL := by simpa using h3
      subst h1
      subst hnx
      subst h2
      exact lv_istore hx hc hd hl h3 rfl (fun ls1 hl1 => kk H locs ls1 hP hS (zw_lvset (v := .inl v) hl1 hs) (zm_set_srt hs).1)
    · cases hck
  · cases h
theorem zw_o3 (S : zw_C p m c cc nL s args big (cn own) sh X ad cA cB D cl nest) (K : zw_K cl big nest cn tb) (hR : 1 ≤ R.frames ∧ 40 ≤ R.locals ∧ cells ≤ R.cells ∧ slots ≤ R.slots) (hck : zw_ck cc own nL ret tb np (pc, nx, 3, a, b, k, sw) = true) (h : zm_s1 sh X (pc, nx, 3, a, b, k, sw) lo st μ = some (bs, pc', lo', st', μ')) (hb : bs.all id = true)
    (hP : va_P D cl (zw_W sh ad cA cB μ) H) (hS : va_S (zw_A sh ad) s.heap H locs) (hl : lv_has ls nL (zw_l ad lo)) (hs : zm_srt lo = true)
    (kk : ∀ (H1 : Heap) (locs1 : List Loc) (ls1 : Array Slot), va_P D cl (zw_W sh ad cA cB μ') H1 → va_S (zw_A sh ad) s.heap H1 locs1 → lv_has ls1 nL (zw_l ad lo') → zm_srt lo' = true → W p l e R s m args below meth c H1 locs1 cells slots Q (F0 m pc' ls1 (st'.map (zw_v ad)))) :
    W p l e R s m args below meth c H locs cells slots Q (F0 m pc ls (st.map (zw_v ad))) := by
  obtain ⟨hx, hc, hml, hown, hts, hF, hinj⟩ := S
  simp only [zw_ck] at hck
  split at hck
  · cases hck
  rename_i ins len hd
  rw [Bool.and_eq_true] at hck
  obtain ⟨hnx, hck⟩ := hck
  have hnx := Nat.eq_of_beq_eq_true hnx
  simp only [zm_s1] at h
  split at h
  · rename_i x hv
    cases h
    split at hck
    · simp only [Bool.and_eq_true, decide_eq_true_eq] at hck
      obtain ⟨h1, h2, h3, h4⟩ := hck
      have h1 := Nat.eq_of_beq_eq_true h1
      have h2 := Nat.eq_of_beq_eq_true h2
      have h3 : a < nL := by simpa using h3
      subst h1
      subst hnx
      subst h2
      subst h4
      obtain ⟨z, hz⟩ := List.getElem?_of_mem (zw_lget (ad := ad) hv)
      exact lv_iinc hx hc hd hl hz rfl h3 rfl (fun ls1 hl1 => kk H locs ls1 hP hS (zw_lvset (v := .inl _) hl1 hs) (zm_set_srt hs).1)
    · cases hck
  · cases h
theorem zw_o4 (S : zw_C p m c cc nL s args big (cn own) sh X ad cA cB D cl nest) (K : zw_K cl big nest cn tb) (hR : 1 ≤ R.frames ∧ 40 ≤ R.locals ∧ cells ≤ R.cells ∧ slots ≤ R.slots) (hck : zw_ck cc own nL ret tb np (pc, nx, 4, a, b, k, sw) = true) (h : zm_s1 sh X (pc, nx, 4, a, b, k, sw) lo st μ = some (bs, pc', lo', st', μ')) (hb : bs.all id = true)
    (hP : va_P D cl (zw_W sh ad cA cB μ) H) (hS : va_S (zw_A sh ad) s.heap H locs) (hl : lv_has ls nL (zw_l ad lo)) (hs : zm_srt lo = true)
    (kk : ∀ (H1 : Heap) (locs1 : List Loc) (ls1 : Array Slot), va_P D cl (zw_W sh ad cA cB μ') H1 → va_S (zw_A sh ad) s.heap H1 locs1 → lv_has ls1 nL (zw_l ad lo') → zm_srt lo' = true → W p l e R s m args below meth c H1 locs1 cells slots Q (F0 m pc' ls1 (st'.map (zw_v ad)))) :
    W p l e R s m args below meth c H locs cells slots Q (F0 m pc ls (st.map (zw_v ad))) := by
  obtain ⟨hx, hc, hml, hown, hts, hF, hinj⟩ := S
  simp only [zw_ck] at hck
  split at hck
  · cases hck
  rename_i ins len hd
  rw [Bool.and_eq_true] at hck
  obtain ⟨hnx, hck⟩ := hck
  have hnx := Nat.eq_of_beq_eq_true hnx
  simp only [zm_s1] at h
  split at h
  · rename_i j r
    split at h
    · rename_i ci fs hj
      split at h
      · rename_i hci
        have hci := Nat.eq_of_beq_eq_true hci
        subst hci
        split at hck
        · rw [Bool.and_eq_true] at hck
          obtain ⟨h1, h2⟩ := hck
          have h1 := Nat.eq_of_beq_eq_true h1
          subst h1
          subst hnx
          have h2 := List.contains_iff_mem.mp h2
          obtain ⟨C, T, N, g1, g2, g3, g4⟩ := K.1 _ h2
          have hw := zw_at (ad := ad) (cA := cA) (cB := cB) (μ := μ) hj
          have key : ∀ v : Value, (fs.mapIdx (zw_f ad μ j))[a]? = some v → W p l e R s m args below meth c H locs cells slots Q (F0 m (pc + 3) ls (v :: r.map (zw_v ad))) → W p l e R s m args below meth c H locs cells slots Q (F0 m pc ls (.ref (ad j) :: r.map (zw_v ad))) := by
            intro v hv kv
            rcases g4 with g4 | ⟨ho, g4⟩
            · exact va_get hx hc hts (K.2.2.2.1 _ _ g1).1 hown hF.1 hP j hw g1 a g2 (hts _ g4) (fun x q => by rw [← g3]; exact q) hv hd kv
            · exact va_getN hx hc hts (K.2.2.2.1 _ _ g1).1 hown hF.1 hP j hw g1 a g2 (va_Nw.use rfl (hF.2.1 _ g4)) (fun x q => by rw [← g3]; exact q) hv hd kv
          split at h
          · rename_i hf
            cases h
            exact key _ (by rw [List.getElem?_mapIdx, hf]; rfl) (kk H locs ls hP hS hl hs)
          · rename_i t hf
            cases h
            exact key _ (by rw [List.getElem?_mapIdx, hf]; rfl) (kk H locs ls hP hS hl hs)
          · cases h
        · cases hck
      · cases h
    · cases h
  · cases h
theorem zw_o5 (S : zw_C p m c cc nL s args big (cn own) sh X ad cA cB D cl nest) (K : zw_K cl big nest cn tb) (hR : 1 ≤ R.frames ∧ 40 ≤ R.locals ∧ cells ≤ R.cells ∧ slots ≤ R.slots) (hck : zw_ck cc own nL ret tb np (pc, nx, 5, a, b, k, sw) = true) (h : zm_s1 sh X (pc, nx, 5, a, b, k, sw) lo st μ = some (bs, pc', lo', st', μ')) (hb : bs.all id = true)
    (hP : va_P D cl (zw_W sh ad cA cB μ) H) (hS : va_S (zw_A sh ad) s.heap H locs) (hl : lv_has ls nL (zw_l ad lo)) (hs : zm_srt lo = true)
    (kk : ∀ (H1 : Heap) (locs1 : List Loc) (ls1 : Array Slot), va_P D cl (zw_W sh ad cA cB μ') H1 → va_S (zw_A sh ad) s.heap H1 locs1 → lv_has ls1 nL (zw_l ad lo') → zm_srt lo' = true → W p l e R s m args below meth c H1 locs1 cells slots Q (F0 m pc' ls1 (st'.map (zw_v ad)))) :
    W p l e R s m args below meth c H locs cells slots Q (F0 m pc ls (st.map (zw_v ad))) := by
  obtain ⟨hx, hc, hml, hown, hts, hF, hinj⟩ := S
  simp only [zw_ck] at hck
  split at hck
  · cases hck
  rename_i ins len hd
  rw [Bool.and_eq_true] at hck
  obtain ⟨hnx, hck⟩ := hck
  have hnx := Nat.eq_of_beq_eq_true hnx
  simp only [zm_s1] at h
  split at h
  · rename_i x j r
    split at h
    · rename_i ci fs hj
      split at h
      · rename_i hci
        have hci := Nat.eq_of_beq_eq_true hci
        subst hci
        split at hck
        · rw [Bool.and_eq_true] at hck
          obtain ⟨h1, h2⟩ := hck
          have h1 := Nat.eq_of_beq_eq_true h1
          subst h1
          subst hnx
          have h2 := List.contains_iff_mem.mp h2
          obtain ⟨⟨C, T, N, g1, g2, g3, g4⟩, C', T', N', g1', g5, g6⟩ := K.2.1 _ h2
          have e0 := g1.symm.trans g1'
          cases e0
          have hw := zw_at (ad := ad) (cA := cA) (cB := cB) (μ := μ) hj
          obtain ⟨k1, ⟨ty, k2⟩, k3⟩ := K.2.2.2.1 _ _ g1
          split at h
          · rename_i hf
            cases h
            have hfl : a < (fs.mapIdx (zw_f ad μ j)).length := by
              rw [List.length_mapIdx]
              exact (List.getElem?_eq_some_iff.mp hf).1
            have hty : parseFieldDescriptor (T a).2.2.1 = some .int := by rw [show (T a).2.2.1 = _ from g6]; rfl
            have fin : ∀ (H1 : Heap) (locs1 : List Loc), va_P D cl ((zw_W sh ad cA cB μ).set j (ad j, .inr (ci, (fs.mapIdx (zw_f ad μ j)).set a (.int x)))) H1 → va_D (zw_A sh ad) ((zw_W sh ad cA cB μ).set j (ad j, .inr (ci, (fs.mapIdx (zw_f ad μ j)).set a (.int x)))) → va_S (zw_A sh ad) s.heap H1 locs1 → W p l e R s m args below meth c H1 locs1 cells slots Q (F0 m (pc + 3) ls (st'.map (zw_v ad))) := by
              intro H1 locs1 hP1 _ hS1
              rw [zw_setf hj hf] at hP1
              exact kk H1 locs1 ls hP1 hS1 hl hs
            rcases g4 with g4 | ⟨ho, g4⟩
            · exact va_put hx hc hts k1 ty k2 k3 hown hF.1 hP (zw_D hinj) hS j hw g1 a g2 (hts _ g4) (fun x q => by rw [← g3]; exact q) g5 hty rfl rfl hfl hd fin
            · exact va_putN hx hc hts k1 ty k2 k3 hown hF.1 hP (zw_D hinj) hS j hw g1 a g2 (va_Nw.use rfl (hF.2.1 _ g4)) (fun x q => by rw [← g3]; exact q) g5 hty rfl rfl hfl hd fin
          · cases h
        · cases hck
      · cases h
    · cases h
  · cases h
theorem zw_o24 (S : zw_C p m c cc nL s args big (cn own) sh X ad cA cB D cl nest) (K : zw_K cl big nest cn tb) (hR : 1 ≤ R.frames ∧ 40 ≤ R.locals ∧ cells ≤ R.cells ∧ slots ≤ R.slots) (hck : zw_ck cc own nL ret tb np (pc, nx, 24, a, b, k, sw) = true) (h : zm_s1 sh X (pc, nx, 24, a, b, k, sw) lo st μ = some (bs, pc', lo', st', μ')) (hb : bs.all id = true)
    (hP : va_P D cl (zw_W sh ad cA cB μ) H) (hS : va_S (zw_A sh ad) s.heap H locs) (hl : lv_has ls nL (zw_l ad lo)) (hs : zm_srt lo = true)
    (kk : ∀ (H1 : Heap) (locs1 : List Loc) (ls1 : Array Slot), va_P D cl (zw_W sh ad cA cB μ') H1 → va_S (zw_A sh ad) s.heap H1 locs1 → lv_has ls1 nL (zw_l ad lo') → zm_srt lo' = true → W p l e R s m args below meth c H1 locs1 cells slots Q (F0 m pc' ls1 (st'.map (zw_v ad)))) :
    W p l e R s m args below meth c H locs cells slots Q (F0 m pc ls (st.map (zw_v ad))) := by
  obtain ⟨hx, hc, hml, hown, hts, hF, hinj⟩ := S
  simp only [zw_ck] at hck
  split at hck
  · cases hck
  rename_i ins len hd
  rw [Bool.and_eq_true] at hck
  obtain ⟨hnx, hck⟩ := hck
  have hnx := Nat.eq_of_beq_eq_true hnx
  simp only [zm_s1] at h
  split at h
  · rename_i x j r
    split at h
    · rename_i ci fs hj
      split at h
      · rename_i hci
        have hci := Nat.eq_of_beq_eq_true hci
        subst hci
        split at hck
        · rw [Bool.and_eq_true] at hck
          obtain ⟨h1, h2⟩ := hck
          have h1 := Nat.eq_of_beq_eq_true h1
          subst h1
          subst hnx
          have h2 := List.contains_iff_mem.mp h2
          obtain ⟨⟨C, T, N, g1, g2, g3, g4⟩, C', T', N', g1', g5, g6⟩ := K.2.2.1 _ h2
          have e0 := g1.symm.trans g1'
          cases e0
          have hw := zw_at (ad := ad) (cA := cA) (cB := cB) (μ := μ) hj
          obtain ⟨k1, ⟨ty, k2⟩, k3⟩ := K.2.2.2.1 _ _ g1
          split at h
          · rename_i hf
            cases h
            have hv : x = 0 ∨ x = 1 := of_decide_eq_true (zw_all1 hb)
            have hfl : a < (fs.mapIdx (zw_f ad μ j)).length := by
              rw [List.length_mapIdx]
              exact (List.getElem?_eq_some_iff.mp hf).1
            have hty : parseFieldDescriptor (T a).2.2.1 = some .boolean := by rw [show (T a).2.2.1 = _ from g6]; rfl
            have fin : ∀ (H1 : Heap) (locs1 : List Loc), va_P D cl ((zw_W sh ad cA cB μ).set j (ad j, .inr (ci, (fs.mapIdx (zw_f ad μ j)).set a (.int x)))) H1 → va_D (zw_A sh ad) ((zw_W sh ad cA cB μ).set j (ad j, .inr (ci, (fs.mapIdx (zw_f ad μ j)).set a (.int x)))) → va_S (zw_A sh ad) s.heap H1 locs1 → W p l e R s m args below meth c H1 locs1 cells slots Q (F0 m (pc + 3) ls (st'.map (zw_v ad))) := by
              intro H1 locs1 hP1 _ hS1
              rw [zw_setf hj hf] at hP1
              exact kk H1 locs1 ls hP1 hS1 hl hs
            rcases g4 with g4 | ⟨ho, g4⟩
            · exact va_put hx hc hts k1 ty k2 k3 hown hF.1 hP (zw_D hinj) hS j hw g1 a g2 (hts _ g4) (fun x q => by rw [← g3]; exact q) g5 hty (by rcases hv with rfl | rfl <;> rfl) (by rcases hv with rfl | rfl <;> rfl) hfl hd fin
            · exact va_putN hx hc hts k1 ty k2 k3 hown hF.1 hP (zw_D hinj) hS j hw g1 a g2 (va_Nw.use rfl (hF.2.1 _ g4)) (fun x q => by rw [← g3]; exact q) g5 hty (by rcases hv with rfl | rfl <;> rfl) (by rcases hv with rfl | rfl <;> rfl) hfl hd fin
          · cases h
        · cases hck
      · cases h
    · cases h
  · cases h
theorem zw_o6 (S : zw_C p m c cc nL s args big (cn own) sh X ad cA cB D cl nest) (K : zw_K cl big nest cn tb) (hR : 1 ≤ R.frames ∧ 40 ≤ R.locals ∧ cells ≤ R.cells ∧ slots ≤ R.slots) (hck : zw_ck cc own nL ret tb np (pc, nx, 6, a, b, k, sw) = true) (h : zm_s1 sh X (pc, nx, 6, a, b, k, sw) lo st μ = some (bs, pc', lo', st', μ')) (hb : bs.all id = true)
    (hP : va_P D cl (zw_W sh ad cA cB μ) H) (hS : va_S (zw_A sh ad) s.heap H locs) (hl : lv_has ls nL (zw_l ad lo)) (hs : zm_srt lo = true)
    (kk : ∀ (H1 : Heap) (locs1 : List Loc) (ls1 : Array Slot), va_P D cl (zw_W sh ad cA cB μ') H1 → va_S (zw_A sh ad) s.heap H1 locs1 → lv_has ls1 nL (zw_l ad lo') → zm_srt lo' = true → W p l e R s m args below meth c H1 locs1 cells slots Q (F0 m pc' ls1 (st'.map (zw_v ad)))) :
    W p l e R s m args below meth c H locs cells slots Q (F0 m pc ls (st.map (zw_v ad))) := by
  obtain ⟨hx, hc, hml, hown, hts, hF, hinj⟩ := S
  simp only [zw_ck] at hck
  split at hck
  · cases hck
  rename_i ins len hd
  rw [Bool.and_eq_true] at hck
  obtain ⟨hnx, hck⟩ := hck
  have hnx := Nat.eq_of_beq_eq_true hnx
  simp only [zm_s1] at h
  split at h
  · rename_i i j r
    split at h
    · rename_i n hj
      cases h
      split at hck
      · have h1 := Nat.eq_of_beq_eq_true hck
        subst h1
        subst hnx
        exact va_iald hx hc hF.1 hP j 0 (zw_at hj) rfl (zw_vin hb) hd (kk H locs ls hP hS hl hs)
      · cases hck
    · cases h
  · cases h
theorem zw_o8 (S : zw_C p m c cc nL s args big (cn own) sh X ad cA cB D cl nest) (K : zw_K cl big nest cn tb) (hR : 1 ≤ R.frames ∧ 40 ≤ R.locals ∧ cells ≤ R.cells ∧ slots ≤ R.slots) (hck : zw_ck cc own nL ret tb np (pc, nx, 8, a, b, k, sw) = true) (h : zm_s1 sh X (pc, nx, 8, a, b, k, sw) lo st μ = some (bs, pc', lo', st', μ')) (hb : bs.all id = true)
    (hP : va_P D cl (zw_W sh ad cA cB μ) H) (hS : va_S (zw_A sh ad) s.heap H locs) (hl : lv_has ls nL (zw_l ad lo)) (hs : zm_srt lo = true)
    (kk : ∀ (H1 : Heap) (locs1 : List Loc) (ls1 : Array Slot), va_P D cl (zw_W sh ad cA cB μ') H1 → va_S (zw_A sh ad) s.heap H1 locs1 → lv_has ls1 nL (zw_l ad lo') → zm_srt lo' = true → W p l e R s m args below meth c H1 locs1 cells slots Q (F0 m pc' ls1 (st'.map (zw_v ad)))) :
    W p l e R s m args below meth c H locs cells slots Q (F0 m pc ls (st.map (zw_v ad))) := by
  obtain ⟨hx, hc, hml, hown, hts, hF, hinj⟩ := S
  simp only [zw_ck] at hck
  split at hck
  · cases hck
  rename_i ins len hd
  rw [Bool.and_eq_true] at hck
  obtain ⟨hnx, hck⟩ := hck
  have hnx := Nat.eq_of_beq_eq_true hnx
  simp only [zm_s1] at h
  split at h
  · rename_i i j r
    split at h
    · rename_i n hj
      cases h
      split at hck
      · have h1 := Nat.eq_of_beq_eq_true hck
        subst h1
        subst hnx
        exact va_zald hx hc hF.1 hP j 1 (zw_at hj) rfl (zw_vin hb) hd (kk H locs ls hP hS hl hs)
      · cases hck
    · cases h
  · cases h
theorem zw_o7 (S : zw_C p m c cc nL s args big (cn own) sh X ad cA cB D cl nest) (K : zw_K cl big nest cn tb) (hR : 1 ≤ R.frames ∧ 40 ≤ R.locals ∧ cells ≤ R.cells ∧ slots ≤ R.slots) (hck : zw_ck cc own nL ret tb np (pc, nx, 7, a, b, k, sw) = true) (h : zm_s1 sh X (pc, nx, 7, a, b, k, sw) lo st μ = some (bs, pc', lo', st', μ')) (hb : bs.all id = true)
    (hP : va_P D cl (zw_W sh ad cA cB μ) H) (hS : va_S (zw_A sh ad) s.heap H locs) (hl : lv_has ls nL (zw_l ad lo)) (hs : zm_srt lo = true)
    (kk : ∀ (H1 : Heap) (locs1 : List Loc) (ls1 : Array Slot), va_P D cl (zw_W sh ad cA cB μ') H1 → va_S (zw_A sh ad) s.heap H1 locs1 → lv_has ls1 nL (zw_l ad lo') → zm_srt lo' = true → W p l e R s m args below meth c H1 locs1 cells slots Q (F0 m pc' ls1 (st'.map (zw_v ad)))) :
    W p l e R s m args below meth c H locs cells slots Q (F0 m pc ls (st.map (zw_v ad))) := by
  obtain ⟨hx, hc, hml, hown, hts, hF, hinj⟩ := S
  simp only [zw_ck] at hck
  split at hck
  · cases hck
  rename_i ins len hd
  rw [Bool.and_eq_true] at hck
  obtain ⟨hnx, hck⟩ := hck
  have hnx := Nat.eq_of_beq_eq_true hnx
  simp only [zm_s1] at h
  split at h
  · rename_i x i j r
    split at h
    · rename_i n hj
      cases h
      split at hck
      · have h1 := Nat.eq_of_beq_eq_true hck
        subst h1
        subst hnx
        refine va_iast hx hc hF.1 hP (zw_D hinj) hS j 0 (zw_at hj) rfl (zw_vin hb) hd (fun H1 locs1 hP1 _ hS1 => ?_)
        have e1 := zw_seta (ad := ad) (cA := cA) (cB := cB) (μ := μ) hj i.toNatClampNeg x
        have hP2 : va_P D cl (zw_W sh ad cA cB (zm_up μ j i.toNatClampNeg x)) H1 := by
          rw [← e1]
          exact hP1
        exact kk H1 locs1 ls hP2 hS1 hl hs
      · cases hck
    · cases h
  · cases h
theorem zw_o9 (S : zw_C p m c cc nL s args big (cn own) sh X ad cA cB D cl nest) (K : zw_K cl big nest cn tb) (hR : 1 ≤ R.frames ∧ 40 ≤ R.locals ∧ cells ≤ R.cells ∧ slots ≤ R.slots) (hck : zw_ck cc own nL ret tb np (pc, nx, 9, a, b, k, sw) = true) (h : zm_s1 sh X (pc, nx, 9, a, b, k, sw) lo st μ = some (bs, pc', lo', st', μ')) (hb : bs.all id = true)
    (hP : va_P D cl (zw_W sh ad cA cB μ) H) (hS : va_S (zw_A sh ad) s.heap H locs) (hl : lv_has ls nL (zw_l ad lo)) (hs : zm_srt lo = true)
    (kk : ∀ (H1 : Heap) (locs1 : List Loc) (ls1 : Array Slot), va_P D cl (zw_W sh ad cA cB μ') H1 → va_S (zw_A sh ad) s.heap H1 locs1 → lv_has ls1 nL (zw_l ad lo') → zm_srt lo' = true → W p l e R s m args below meth c H1 locs1 cells slots Q (F0 m pc' ls1 (st'.map (zw_v ad)))) :
    W p l e R s m args below meth c H locs cells slots Q (F0 m pc ls (st.map (zw_v ad))) := by
  obtain ⟨hx, hc, hml, hown, hts, hF, hinj⟩ := S
  simp only [zw_ck] at hck
  split at hck
  · cases hck
  rename_i ins len hd
  rw [Bool.and_eq_true] at hck
  obtain ⟨hnx, hck⟩ := hck
  have hnx := Nat.eq_of_beq_eq_true hnx
  simp only [zm_s1] at h
  split at h
  · rename_i x i j r
    split at h
    · rename_i n hj
      cases h
      split at hck
      · have h1 := Nat.eq_of_beq_eq_true hck
        subst h1
        subst hnx
        simp only [List.all_cons, List.all_nil, Bool.and_true, id, Bool.and_eq_true, decide_eq_true_eq] at hb
        obtain ⟨hi, hv⟩ := hb
        refine va_zast hx hc hF.1 hP (zw_D hinj) hS j 1 (zw_at hj) rfl (vp_in_iff.mpr hi) hd (fun H1 locs1 hP1 _ hS1 => ?_)
        have hz : vp_nar .boolean x = x := by rcases hv with rfl | rfl <;> rfl
        rw [hz] at hP1
        have e1 := zw_seta (ad := ad) (cA := cA) (cB := cB) (μ := μ) hj i.toNatClampNeg x
        have hP2 : va_P D cl (zw_W sh ad cA cB (zm_up μ j i.toNatClampNeg x)) H1 := by
          rw [← e1]
          exact hP1
        exact kk H1 locs1 ls hP2 hS1 hl hs
      · cases hck
    · cases h
  · cases h
theorem zw_o10 (S : zw_C p m c cc nL s args big (cn own) sh X ad cA cB D cl nest) (K : zw_K cl big nest cn tb) (hR : 1 ≤ R.frames ∧ 40 ≤ R.locals ∧ cells ≤ R.cells ∧ slots ≤ R.slots) (hck : zw_ck cc own nL ret tb np (pc, nx, 10, a, b, k, sw) = true) (h : zm_s1 sh X (pc, nx, 10, a, b, k, sw) lo st μ = some (bs, pc', lo', st', μ')) (hb : bs.all id = true)
    (hP : va_P D cl (zw_W sh ad cA cB μ) H) (hS : va_S (zw_A sh ad) s.heap H locs) (hl : lv_has ls nL (zw_l ad lo)) (hs : zm_srt lo = true)
    (kk : ∀ (H1 : Heap) (locs1 : List Loc) (ls1 : Array Slot), va_P D cl (zw_W sh ad cA cB μ') H1 → va_S (zw_A sh ad) s.heap H1 locs1 → lv_has ls1 nL (zw_l ad lo') → zm_srt lo' = true → W p l e R s m args below meth c H1 locs1 cells slots Q (F0 m pc' ls1 (st'.map (zw_v ad)))) :
    W p l e R s m args below meth c H locs cells slots Q (F0 m pc ls (st.map (zw_v ad))) := by
  obtain ⟨hx, hc, hml, hown, hts, hF, hinj⟩ := S
  simp only [zw_ck] at hck
  split at hck
  · cases hck
  rename_i ins len hd
  rw [Bool.and_eq_true] at hck
  obtain ⟨hnx, hck⟩ := hck
  have hnx := Nat.eq_of_beq_eq_true hnx
  simp only [zm_s1] at h
  split at h
  · rename_i y x r
    cases h
    split at hck
    · have h1 := Nat.eq_of_beq_eq_true hck
      subst h1
      subst hnx
      exact lv_iadd hx hc hd (kk H locs ls hP hS hl hs)
    · cases hck
  · cases h
theorem zw_o11 (S : zw_C p m c cc nL s args big (cn own) sh X ad cA cB D cl nest) (K : zw_K cl big nest cn tb) (hR : 1 ≤ R.frames ∧ 40 ≤ R.locals ∧ cells ≤ R.cells ∧ slots ≤ R.slots) (hck : zw_ck cc own nL ret tb np (pc, nx, 11, a, b, k, sw) = true) (h : zm_s1 sh X (pc, nx, 11, a, b, k, sw) lo st μ = some (bs, pc', lo', st', μ')) (hb : bs.all id = true)
    (hP : va_P D cl (zw_W sh ad cA cB μ) H) (hS : va_S (zw_A sh ad) s.heap H locs) (hl : lv_has ls nL (zw_l ad lo)) (hs : zm_srt lo = true)
    (kk : ∀ (H1 : Heap) (locs1 : List Loc) (ls1 : Array Slot), va_P D cl (zw_W sh ad cA cB μ') H1 → va_S (zw_A sh ad) s.heap H1 locs1 → lv_has ls1 nL (zw_l ad lo') → zm_srt lo' = true → W p l e R s m args below meth c H1 locs1 cells slots Q (F0 m pc' ls1 (st'.map (zw_v ad)))) :
    W p l e R s m args below meth c H locs cells slots Q (F0 m pc ls (st.map (zw_v ad))) := by
  obtain ⟨hx, hc, hml, hown, hts, hF, hinj⟩ := S
  simp only [zw_ck] at hck
  split at hck
  · cases hck
  rename_i ins len hd
  rw [Bool.and_eq_true] at hck
  obtain ⟨hnx, hck⟩ := hck
  have hnx := Nat.eq_of_beq_eq_true hnx
  simp only [zm_s1] at h
  split at h
  · rename_i y x r
    cases h
    split at hck
    · have h1 := Nat.eq_of_beq_eq_true hck
      subst h1
      subst hnx
      exact lv_isub hx hc hd (kk H locs ls hP hS hl hs)
    · cases hck
  · cases h
theorem zw_o12 (S : zw_C p m c cc nL s args big (cn own) sh X ad cA cB D cl nest) (K : zw_K cl big nest cn tb) (hR : 1 ≤ R.frames ∧ 40 ≤ R.locals ∧ cells ≤ R.cells ∧ slots ≤ R.slots) (hck : zw_ck cc own nL ret tb np (pc, nx, 12, a, b, k, sw) = true) (h : zm_s1 sh X (pc, nx, 12, a, b, k, sw) lo st μ = some (bs, pc', lo', st', μ')) (hb : bs.all id = true)
    (hP : va_P D cl (zw_W sh ad cA cB μ) H) (hS : va_S (zw_A sh ad) s.heap H locs) (hl : lv_has ls nL (zw_l ad lo)) (hs : zm_srt lo = true)
    (kk : ∀ (H1 : Heap) (locs1 : List Loc) (ls1 : Array Slot), va_P D cl (zw_W sh ad cA cB μ') H1 → va_S (zw_A sh ad) s.heap H1 locs1 → lv_has ls1 nL (zw_l ad lo') → zm_srt lo' = true → W p l e R s m args below meth c H1 locs1 cells slots Q (F0 m pc' ls1 (st'.map (zw_v ad)))) :
    W p l e R s m args below meth c H locs cells slots Q (F0 m pc ls (st.map (zw_v ad))) := by
  obtain ⟨hx, hc, hml, hown, hts, hF, hinj⟩ := S
  simp only [zw_ck] at hck
  split at hck
  · cases hck
  rename_i ins len hd
  rw [Bool.and_eq_true] at hck
  obtain ⟨hnx, hck⟩ := hck
  have hnx := Nat.eq_of_beq_eq_true hnx
  simp only [zm_s1] at h
  split at h
  · rename_i y x r
    cases h
    split at hck
    · have h1 := Nat.eq_of_beq_eq_true hck
      subst h1
      subst hnx
      exact lv_imul hx hc hd (kk H locs ls hP hS hl hs)
    · cases hck
  · cases h
theorem zw_o13 (S : zw_C p m c cc nL s args big (cn own) sh X ad cA cB D cl nest) (K : zw_K cl big nest cn tb) (hR : 1 ≤ R.frames ∧ 40 ≤ R.locals ∧ cells ≤ R.cells ∧ slots ≤ R.slots) (hck : zw_ck cc own nL ret tb np (pc, nx, 13, a, b, k, sw) = true) (h : zm_s1 sh X (pc, nx, 13, a, b, k, sw) lo st μ = some (bs, pc', lo', st', μ')) (hb : bs.all id = true)
    (hP : va_P D cl (zw_W sh ad cA cB μ) H) (hS : va_S (zw_A sh ad) s.heap H locs) (hl : lv_has ls nL (zw_l ad lo)) (hs : zm_srt lo = true)
    (kk : ∀ (H1 : Heap) (locs1 : List Loc) (ls1 : Array Slot), va_P D cl (zw_W sh ad cA cB μ') H1 → va_S (zw_A sh ad) s.heap H1 locs1 → lv_has ls1 nL (zw_l ad lo') → zm_srt lo' = true → W p l e R s m args below meth c H1 locs1 cells slots Q (F0 m pc' ls1 (st'.map (zw_v ad)))) :
    W p l e R s m args below meth c H locs cells slots Q (F0 m pc ls (st.map (zw_v ad))) := by
  obtain ⟨hx, hc, hml, hown, hts, hF, hinj⟩ := S
  simp only [zw_ck] at hck
  split at hck
  · cases hck
  rename_i ins len hd
  rw [Bool.and_eq_true] at hck
  obtain ⟨hnx, hck⟩ := hck
  have hnx := Nat.eq_of_beq_eq_true hnx
  simp only [zm_s1] at h
  split at h
  · rename_i y x r
    cases h
    split at hck
    · have h1 := Nat.eq_of_beq_eq_true hck
      subst h1
      subst hnx
      exact lv_iand hx hc hd (kk H locs ls hP hS hl hs)
    · cases hck
  · cases h
theorem zw_o14 (S : zw_C p m c cc nL s args big (cn own) sh X ad cA cB D cl nest) (K : zw_K cl big nest cn tb) (hR : 1 ≤ R.frames ∧ 40 ≤ R.locals ∧ cells ≤ R.cells ∧ slots ≤ R.slots) (hck : zw_ck cc own nL ret tb np (pc, nx, 14, a, b, k, sw) = true) (h : zm_s1 sh X (pc, nx, 14, a, b, k, sw) lo st μ = some (bs, pc', lo', st', μ')) (hb : bs.all id = true)
    (hP : va_P D cl (zw_W sh ad cA cB μ) H) (hS : va_S (zw_A sh ad) s.heap H locs) (hl : lv_has ls nL (zw_l ad lo)) (hs : zm_srt lo = true)
    (kk : ∀ (H1 : Heap) (locs1 : List Loc) (ls1 : Array Slot), va_P D cl (zw_W sh ad cA cB μ') H1 → va_S (zw_A sh ad) s.heap H1 locs1 → lv_has ls1 nL (zw_l ad lo') → zm_srt lo' = true → W p l e R s m args below meth c H1 locs1 cells slots Q (F0 m pc' ls1 (st'.map (zw_v ad)))) :
    W p l e R s m args below meth c H locs cells slots Q (F0 m pc ls (st.map (zw_v ad))) := by
  obtain ⟨hx, hc, hml, hown, hts, hF, hinj⟩ := S
  simp only [zw_ck] at hck
  split at hck
  · cases hck
  rename_i ins len hd
  rw [Bool.and_eq_true] at hck
  obtain ⟨hnx, hck⟩ := hck
  have hnx := Nat.eq_of_beq_eq_true hnx
  simp only [zm_s1] at h
  split at h
  · rename_i y x r
    cases h
    split at hck
    · have h1 := Nat.eq_of_beq_eq_true hck
      subst h1
      subst hnx
      exact lv_ishl hx hc hd (kk H locs ls hP hS hl hs)
    · cases hck
  · cases h
theorem zw_o15 (S : zw_C p m c cc nL s args big (cn own) sh X ad cA cB D cl nest) (K : zw_K cl big nest cn tb) (hR : 1 ≤ R.frames ∧ 40 ≤ R.locals ∧ cells ≤ R.cells ∧ slots ≤ R.slots) (hck : zw_ck cc own nL ret tb np (pc, nx, 15, a, b, k, sw) = true) (h : zm_s1 sh X (pc, nx, 15, a, b, k, sw) lo st μ = some (bs, pc', lo', st', μ')) (hb : bs.all id = true)
    (hP : va_P D cl (zw_W sh ad cA cB μ) H) (hS : va_S (zw_A sh ad) s.heap H locs) (hl : lv_has ls nL (zw_l ad lo)) (hs : zm_srt lo = true)
    (kk : ∀ (H1 : Heap) (locs1 : List Loc) (ls1 : Array Slot), va_P D cl (zw_W sh ad cA cB μ') H1 → va_S (zw_A sh ad) s.heap H1 locs1 → lv_has ls1 nL (zw_l ad lo') → zm_srt lo' = true → W p l e R s m args below meth c H1 locs1 cells slots Q (F0 m pc' ls1 (st'.map (zw_v ad)))) :
    W p l e R s m args below meth c H locs cells slots Q (F0 m pc ls (st.map (zw_v ad))) := by
  obtain ⟨hx, hc, hml, hown, hts, hF, hinj⟩ := S
  simp only [zw_ck] at hck
  split at hck
  · cases hck
  rename_i ins len hd
  rw [Bool.and_eq_true] at hck
  obtain ⟨hnx, hck⟩ := hck
  have hnx := Nat.eq_of_beq_eq_true hnx
  simp only [zm_s1] at h
  split at h
  · rename_i y x r
    cases h
    split at hck
    · have h1 := Nat.eq_of_beq_eq_true hck
      subst h1
      subst hnx
      exact lv_ishr hx hc hd (kk H locs ls hP hS hl hs)
    · cases hck
  · cases h
theorem zw_o23 (S : zw_C p m c cc nL s args big (cn own) sh X ad cA cB D cl nest) (K : zw_K cl big nest cn tb) (hR : 1 ≤ R.frames ∧ 40 ≤ R.locals ∧ cells ≤ R.cells ∧ slots ≤ R.slots) (hck : zw_ck cc own nL ret tb np (pc, nx, 23, a, b, k, sw) = true) (h : zm_s1 sh X (pc, nx, 23, a, b, k, sw) lo st μ = some (bs, pc', lo', st', μ')) (hb : bs.all id = true)
    (hP : va_P D cl (zw_W sh ad cA cB μ) H) (hS : va_S (zw_A sh ad) s.heap H locs) (hl : lv_has ls nL (zw_l ad lo)) (hs : zm_srt lo = true)
    (kk : ∀ (H1 : Heap) (locs1 : List Loc) (ls1 : Array Slot), va_P D cl (zw_W sh ad cA cB μ') H1 → va_S (zw_A sh ad) s.heap H1 locs1 → lv_has ls1 nL (zw_l ad lo') → zm_srt lo' = true → W p l e R s m args below meth c H1 locs1 cells slots Q (F0 m pc' ls1 (st'.map (zw_v ad)))) :
    W p l e R s m args below meth c H locs cells slots Q (F0 m pc ls (st.map (zw_v ad))) := by
  obtain ⟨hx, hc, hml, hown, hts, hF, hinj⟩ := S
  simp only [zw_ck] at hck
  split at hck
  · cases hck
  rename_i ins len hd
  rw [Bool.and_eq_true] at hck
  obtain ⟨hnx, hck⟩ := hck
  have hnx := Nat.eq_of_beq_eq_true hnx
  simp only [zm_s1] at h
  split at h
  · rename_i y x r
    cases h
    split at hck
    · have h1 := Nat.eq_of_beq_eq_true hck
      subst h1
      subst hnx
      exact lv_iushr hx hc hd rfl (kk H locs ls hP hS hl hs)
    · cases hck
  · cases h
theorem zw_o16 (S : zw_C p m c cc nL s args big (cn own) sh X ad cA cB D cl nest) (K : zw_K cl big nest cn tb) (hR : 1 ≤ R.frames ∧ 40 ≤ R.locals ∧ cells ≤ R.cells ∧ slots ≤ R.slots) (hck : zw_ck cc own nL ret tb np (pc, nx, 16, a, b, k, sw) = true) (h : zm_s1 sh X (pc, nx, 16, a, b, k, sw) lo st μ = some (bs, pc', lo', st', μ')) (hb : bs.all id = true)
    (hP : va_P D cl (zw_W sh ad cA cB μ) H) (hS : va_S (zw_A sh ad) s.heap H locs) (hl : lv_has ls nL (zw_l ad lo)) (hs : zm_srt lo = true)
    (kk : ∀ (H1 : Heap) (locs1 : List Loc) (ls1 : Array Slot), va_P D cl (zw_W sh ad cA cB μ') H1 → va_S (zw_A sh ad) s.heap H1 locs1 → lv_has ls1 nL (zw_l ad lo') → zm_srt lo' = true → W p l e R s m args below meth c H1 locs1 cells slots Q (F0 m pc' ls1 (st'.map (zw_v ad)))) :
    W p l e R s m args below meth c H locs cells slots Q (F0 m pc ls (st.map (zw_v ad))) := by
  obtain ⟨hx, hc, hml, hown, hts, hF, hinj⟩ := S
  simp only [zw_ck] at hck
  split at hck
  · cases hck
  rename_i ins len hd
  rw [Bool.and_eq_true] at hck
  obtain ⟨hnx, hck⟩ := hck
  have hnx := Nat.eq_of_beq_eq_true hnx
  simp only [zm_s1] at h
  split at h
  · rename_i v r
    cases h
    split at hck
    · have h1 := Nat.eq_of_beq_eq_true hck
      subst h1
      subst hnx
      exact lv_dup hx hc hd (by cases v <;> rfl) (kk H locs ls hP hS hl hs)
    · cases hck
  · cases h
theorem zw_o17 (S : zw_C p m c cc nL s args big (cn own) sh X ad cA cB D cl nest) (K : zw_K cl big nest cn tb) (hR : 1 ≤ R.frames ∧ 40 ≤ R.locals ∧ cells ≤ R.cells ∧ slots ≤ R.slots) (hck : zw_ck cc own nL ret tb np (pc, nx, 17, a, b, k, sw) = true) (h : zm_s1 sh X (pc, nx, 17, a, b, k, sw) lo st μ = some (bs, pc', lo', st', μ')) (hb : bs.all id = true)
    (hP : va_P D cl (zw_W sh ad cA cB μ) H) (hS : va_S (zw_A sh ad) s.heap H locs) (hl : lv_has ls nL (zw_l ad lo)) (hs : zm_srt lo = true)
    (kk : ∀ (H1 : Heap) (locs1 : List Loc) (ls1 : Array Slot), va_P D cl (zw_W sh ad cA cB μ') H1 → va_S (zw_A sh ad) s.heap H1 locs1 → lv_has ls1 nL (zw_l ad lo') → zm_srt lo' = true → W p l e R s m args below meth c H1 locs1 cells slots Q (F0 m pc' ls1 (st'.map (zw_v ad)))) :
    W p l e R s m args below meth c H locs cells slots Q (F0 m pc ls (st.map (zw_v ad))) := by
  obtain ⟨hx, hc, hml, hown, hts, hF, hinj⟩ := S
  simp only [zw_ck] at hck
  split at hck
  · cases hck
  rename_i ins len hd
  rw [Bool.and_eq_true] at hck
  obtain ⟨hnx, hck⟩ := hck
  have hnx := Nat.eq_of_beq_eq_true hnx
  simp only [zm_s1] at h
  split at h
  · rename_i v w r
    cases h
    split at hck
    · have h1 := Nat.eq_of_beq_eq_true hck
      subst h1
      subst hnx
      exact lv_dup2_11 hx hc hd (by cases v <;> rfl) (by cases w <;> rfl) (kk H locs ls hP hS hl hs)
    · cases hck
  · cases h
theorem zw_o18 (S : zw_C p m c cc nL s args big (cn own) sh X ad cA cB D cl nest) (K : zw_K cl big nest cn tb) (hR : 1 ≤ R.frames ∧ 40 ≤ R.locals ∧ cells ≤ R.cells ∧ slots ≤ R.slots) (hck : zw_ck cc own nL ret tb np (pc, nx, 18, a, b, k, sw) = true) (h : zm_s1 sh X (pc, nx, 18, a, b, k, sw) lo st μ = some (bs, pc', lo', st', μ')) (hb : bs.all id = true)
    (hP : va_P D cl (zw_W sh ad cA cB μ) H) (hS : va_S (zw_A sh ad) s.heap H locs) (hl : lv_has ls nL (zw_l ad lo)) (hs : zm_srt lo = true)
    (kk : ∀ (H1 : Heap) (locs1 : List Loc) (ls1 : Array Slot), va_P D cl (zw_W sh ad cA cB μ') H1 → va_S (zw_A sh ad) s.heap H1 locs1 → lv_has ls1 nL (zw_l ad lo') → zm_srt lo' = true → W p l e R s m args below meth c H1 locs1 cells slots Q (F0 m pc' ls1 (st'.map (zw_v ad)))) :
    W p l e R s m args below meth c H locs cells slots Q (F0 m pc ls (st.map (zw_v ad))) := by
  obtain ⟨hx, hc, hml, hown, hts, hF, hinj⟩ := S
  simp only [zw_ck] at hck
  split at hck
  · cases hck
  rename_i ins len hd
  rw [Bool.and_eq_true] at hck
  obtain ⟨hnx, hck⟩ := hck
  have hnx := Nat.eq_of_beq_eq_true hnx
  simp only [zm_s1] at h
  split at h
  · rename_i v r
    cases h
    split at hck
    · have h1 := Nat.eq_of_beq_eq_true hck
      subst h1
      subst hnx
      exact lv_pop hx hc hd (by cases v <;> rfl) (kk H locs ls hP hS hl hs)
    · cases hck
  · cases h
theorem zw_o19 (S : zw_C p m c cc nL s args big (cn own) sh X ad cA cB D cl nest) (K : zw_K cl big nest cn tb) (hR : 1 ≤ R.frames ∧ 40 ≤ R.locals ∧ cells ≤ R.cells ∧ slots ≤ R.slots) (hck : zw_ck cc own nL ret tb np (pc, nx, 19, a, b, k, sw) = true) (h : zm_s1 sh X (pc, nx, 19, a, b, k, sw) lo st μ = some (bs, pc', lo', st', μ')) (hb : bs.all id = true)
    (hP : va_P D cl (zw_W sh ad cA cB μ) H) (hS : va_S (zw_A sh ad) s.heap H locs) (hl : lv_has ls nL (zw_l ad lo)) (hs : zm_srt lo = true)
    (kk : ∀ (H1 : Heap) (locs1 : List Loc) (ls1 : Array Slot), va_P D cl (zw_W sh ad cA cB μ') H1 → va_S (zw_A sh ad) s.heap H1 locs1 → lv_has ls1 nL (zw_l ad lo') → zm_srt lo' = true → W p l e R s m args below meth c H1 locs1 cells slots Q (F0 m pc' ls1 (st'.map (zw_v ad)))) :
    W p l e R s m args below meth c H locs cells slots Q (F0 m pc ls (st.map (zw_v ad))) := by
  obtain ⟨hx, hc, hml, hown, hts, hF, hinj⟩ := S
  simp only [zw_ck] at hck
  split at hck
  · cases hck
  rename_i ins len hd
  rw [Bool.and_eq_true] at hck
  obtain ⟨hnx, hck⟩ := hck
  have hnx := Nat.eq_of_beq_eq_true hnx
  simp only [zm_s1] at h
  cases h
  split at hck
  · simp only [Bool.and_eq_true, decide_eq_true_eq] at hck
    obtain ⟨h1, h2⟩ := hck
    have h1 := Nat.eq_of_beq_eq_true h1
    subst h1
    exact lv_goto hx hc hd h2 (kk H locs ls hP hS hl hs)
  · cases hck
theorem zw_o20 (S : zw_C p m c cc nL s args big (cn own) sh X ad cA cB D cl nest) (K : zw_K cl big nest cn tb) (hR : 1 ≤ R.frames ∧ 40 ≤ R.locals ∧ cells ≤ R.cells ∧ slots ≤ R.slots) (hck : zw_ck cc own nL ret tb np (pc, nx, 20, a, b, k, sw) = true) (h : zm_s1 sh X (pc, nx, 20, a, b, k, sw) lo st μ = some (bs, pc', lo', st', μ')) (hb : bs.all id = true)
    (hP : va_P D cl (zw_W sh ad cA cB μ) H) (hS : va_S (zw_A sh ad) s.heap H locs) (hl : lv_has ls nL (zw_l ad lo)) (hs : zm_srt lo = true)
    (kk : ∀ (H1 : Heap) (locs1 : List Loc) (ls1 : Array Slot), va_P D cl (zw_W sh ad cA cB μ') H1 → va_S (zw_A sh ad) s.heap H1 locs1 → lv_has ls1 nL (zw_l ad lo') → zm_srt lo' = true → W p l e R s m args below meth c H1 locs1 cells slots Q (F0 m pc' ls1 (st'.map (zw_v ad)))) :
    W p l e R s m args below meth c H locs cells slots Q (F0 m pc ls (st.map (zw_v ad))) := by
  obtain ⟨hx, hc, hml, hown, hts, hF, hinj⟩ := S
  simp only [zw_ck] at hck
  split at hck
  · cases hck
  rename_i ins len hd
  rw [Bool.and_eq_true] at hck
  obtain ⟨hnx, hck⟩ := hck
  have hnx := Nat.eq_of_beq_eq_true hnx
  simp only [zm_s1] at h
  split at h
  · rename_i i r
    cases h
    split at hck
    · have h1 := Nat.eq_of_beq_eq_true hck
      subst h1
      subst hnx
      exact va_ti hx hc hF.2.2.2.1 hS (zw_vin (n := 18) hb) rfl hd (kk H locs ls hP hS hl hs)
    · cases hck
  · rename_i i r
    cases h
    split at hck
    · have h1 := Nat.eq_of_beq_eq_true hck
      subst h1
      subst hnx
      exact va_ti hx hc hF.2.2.2.2 hS (zw_vin hb) rfl hd (kk H locs ls hP hS hl hs)
    · cases hck
  · cases h
theorem zw_o21 (S : zw_C p m c cc nL s args big (cn own) sh X ad cA cB D cl nest) (K : zw_K cl big nest cn tb) (hR : 1 ≤ R.frames ∧ 40 ≤ R.locals ∧ cells ≤ R.cells ∧ slots ≤ R.slots) (hck : zw_ck cc own nL ret tb np (pc, nx, 21, a, b, k, sw) = true) (h : zm_s1 sh X (pc, nx, 21, a, b, k, sw) lo st μ = some (bs, pc', lo', st', μ')) (hb : bs.all id = true)
    (hP : va_P D cl (zw_W sh ad cA cB μ) H) (hS : va_S (zw_A sh ad) s.heap H locs) (hl : lv_has ls nL (zw_l ad lo)) (hs : zm_srt lo = true)
    (kk : ∀ (H1 : Heap) (locs1 : List Loc) (ls1 : Array Slot), va_P D cl (zw_W sh ad cA cB μ') H1 → va_S (zw_A sh ad) s.heap H1 locs1 → lv_has ls1 nL (zw_l ad lo') → zm_srt lo' = true → W p l e R s m args below meth c H1 locs1 cells slots Q (F0 m pc' ls1 (st'.map (zw_v ad)))) :
    W p l e R s m args below meth c H locs cells slots Q (F0 m pc ls (st.map (zw_v ad))) := by
  obtain ⟨hx, hc, hml, hown, hts, hF, hinj⟩ := S
  simp only [zw_ck] at hck
  split at hck
  · cases hck
  rename_i ins len hd
  rw [Bool.and_eq_true] at hck
  obtain ⟨hnx, hck⟩ := hck
  have hnx := Nat.eq_of_beq_eq_true hnx
  simp only [zm_s1] at h
  cases h
  split at hck
  · rw [Bool.and_eq_true] at hck
    obtain ⟨h1, h2⟩ := hck
    have h1 := Nat.eq_of_beq_eq_true h1
    subst h1
    subst hnx
    have h2 := List.contains_iff_mem.mp h2
    rcases K.2.2.2.2.1 _ h2 with g | ⟨ho, g⟩
    · exact va_gets hx hc hF.2.2.1 hS hown (hts _ g) (fun _ q => q) hd (kk H locs ls hP hS hl hs)
    · exact va_getsN hx hc hF.2.2.1 hS hown (va_Nw.use rfl (hF.2.1 _ g)) (fun _ q => q) hd (kk H locs ls hP hS hl hs)
  · cases hck
theorem zw_o22 (S : zw_C p m c cc nL s args big (cn own) sh X ad cA cB D cl nest) (K : zw_K cl big nest cn tb) (hR : 1 ≤ R.frames ∧ 40 ≤ R.locals ∧ cells ≤ R.cells ∧ slots ≤ R.slots) (hck : zw_ck cc own nL ret tb np (pc, nx, 22, a, b, k, sw) = true) (h : zm_s1 sh X (pc, nx, 22, a, b, k, sw) lo st μ = some (bs, pc', lo', st', μ')) (hb : bs.all id = true)
    (hP : va_P D cl (zw_W sh ad cA cB μ) H) (hS : va_S (zw_A sh ad) s.heap H locs) (hl : lv_has ls nL (zw_l ad lo)) (hs : zm_srt lo = true)
    (kk : ∀ (H1 : Heap) (locs1 : List Loc) (ls1 : Array Slot), va_P D cl (zw_W sh ad cA cB μ') H1 → va_S (zw_A sh ad) s.heap H1 locs1 → lv_has ls1 nL (zw_l ad lo') → zm_srt lo' = true → W p l e R s m args below meth c H1 locs1 cells slots Q (F0 m pc' ls1 (st'.map (zw_v ad)))) :
    W p l e R s m args below meth c H locs cells slots Q (F0 m pc ls (st.map (zw_v ad))) := by
  obtain ⟨hx, hc, hml, hown, hts, hF, hinj⟩ := S
  simp only [zw_ck] at hck
  split at hck
  · cases hck
  rename_i ins len hd
  rw [Bool.and_eq_true] at hck
  obtain ⟨hnx, hck⟩ := hck
  have hnx := Nat.eq_of_beq_eq_true hnx
  simp only [zm_s1] at h
  split at h
  · rename_i r
    cases h
    split at hck
    · have h1 := Nat.eq_of_beq_eq_true hck
      subst h1
      subst hnx
      exact va_tlen hx hc hF.2.2.2.2 hS rfl hd (kk H locs ls hP hS hl hs)
    · cases hck
  · cases h
theorem zw_cat {ad : Nat → Nat} : ∀ r : List zm_v, ((r.map (zw_v ad)).map fun v => v.category).sum = r.length := by
  intro r
  induction r with
  | nil => rfl
  | cons v t ih =>
    have hv : (zw_v ad v).category = 1 := by cases v <;> rfl
    simp only [List.map_cons, List.sum_cons, List.length_cons, hv, ih]
    omega
theorem zw_o25 (S : zw_C p m c cc nL s args big (cn own) sh X ad cA cB D cl nest) (K : zw_K cl big nest cn tb) (hR : 1 ≤ R.frames ∧ 40 ≤ R.locals ∧ cells ≤ R.cells ∧ slots ≤ R.slots) (hck : zw_ck cc own nL ret tb np (pc, nx, 25, a, b, k, sw) = true) (h : zm_s1 sh X (pc, nx, 25, a, b, k, sw) lo st μ = some (bs, pc', lo', st', μ')) (hb : bs.all id = true)
    (hP : va_P D cl (zw_W sh ad cA cB μ) H) (hS : va_S (zw_A sh ad) s.heap H locs) (hl : lv_has ls nL (zw_l ad lo)) (hs : zm_srt lo = true)
    (kk : ∀ (H1 : Heap) (locs1 : List Loc) (ls1 : Array Slot), va_P D cl (zw_W sh ad cA cB μ') H1 → va_S (zw_A sh ad) s.heap H1 locs1 → lv_has ls1 nL (zw_l ad lo') → zm_srt lo' = true → W p l e R s m args below meth c H1 locs1 cells slots Q (F0 m pc' ls1 (st'.map (zw_v ad)))) :
    W p l e R s m args below meth c H locs cells slots Q (F0 m pc ls (st.map (zw_v ad))) := by
  obtain ⟨hx, hc, hml, hown, hts, hF, hinj⟩ := S
  simp only [zw_ck] at hck
  split at hck
  · cases hck
  rename_i ins len hd
  rw [Bool.and_eq_true] at hck
  obtain ⟨hnx, hck⟩ := hck
  have hnx := Nat.eq_of_beq_eq_true hnx
  simp only [zm_s1] at h
  split at h
  · rename_i y x r
    cases h
    split at hck
    · rw [Bool.and_eq_true] at hck
      obtain ⟨h1, h2⟩ := hck
      have h1 := Nat.eq_of_beq_eq_true h1
      subst h1
      subst hnx
      have h2 := List.contains_iff_mem.mp h2
      obtain ⟨g1, g2, g3, g4⟩ := K.2.2.2.2.2.1 _ h2
      have hr : r.length ≤ 8 := Nat.le_of_ble_eq_true (zw_all1 hb)
      have e1 : (cond (decide (x < y)) y x) = (if x < y then y else x) := by
        by_cases hq : x < y
        · rw [if_pos hq, decide_eq_true hq]; rfl
        · rw [if_neg hq, decide_eq_false hq]; rfl
      have kk := kk H locs ls hP hS hl hs
      rw [e1] at kk
      exact va_mmax hx hc (by rw [hml]; exact hl.1.symm) hown (hts _ g1) (hts _ g2) (hts _ g3) (hts _ g4) hR.1 (by rw [zw_cat]; omega) hR.2.2.1 hR.2.2.2 hd kk
    · cases hck
  · cases h
theorem zw_o26 (S : zw_C p m c cc nL s args big (cn own) sh X ad cA cB D cl nest) (K : zw_K cl big nest cn tb) (hR : 1 ≤ R.frames ∧ 40 ≤ R.locals ∧ cells ≤ R.cells ∧ slots ≤ R.slots) (hck : zw_ck cc own nL ret tb np (pc, nx, 26, a, b, k, sw) = true) (h : zm_s1 sh X (pc, nx, 26, a, b, k, sw) lo st μ = some (bs, pc', lo', st', μ')) (hb : bs.all id = true)
    (hP : va_P D cl (zw_W sh ad cA cB μ) H) (hS : va_S (zw_A sh ad) s.heap H locs) (hl : lv_has ls nL (zw_l ad lo)) (hs : zm_srt lo = true)
    (kk : ∀ (H1 : Heap) (locs1 : List Loc) (ls1 : Array Slot), va_P D cl (zw_W sh ad cA cB μ') H1 → va_S (zw_A sh ad) s.heap H1 locs1 → lv_has ls1 nL (zw_l ad lo') → zm_srt lo' = true → W p l e R s m args below meth c H1 locs1 cells slots Q (F0 m pc' ls1 (st'.map (zw_v ad)))) :
    W p l e R s m args below meth c H locs cells slots Q (F0 m pc ls (st.map (zw_v ad))) := by
  obtain ⟨hx, hc, hml, hown, hts, hF, hinj⟩ := S
  simp only [zw_ck] at hck
  split at hck
  · cases hck
  rename_i ins len hd
  rw [Bool.and_eq_true] at hck
  obtain ⟨hnx, hck⟩ := hck
  have hnx := Nat.eq_of_beq_eq_true hnx
  simp only [zm_s1] at h
  split at h
  · rename_i n dp t sp f r
    split at h
    · rename_i n0 n1 hf ht
      cases h
      split at hck
      · rw [Bool.and_eq_true] at hck
        obtain ⟨h1, h2⟩ := hck
        have h1 := Nat.eq_of_beq_eq_true h1
        subst h1
        subst hnx
        have h2 := List.contains_iff_mem.mp h2
        obtain ⟨g1, g2, g3, g4⟩ := K.2.2.2.2.2.2.1 _ h2
        simp only [List.all_cons, List.all_nil, Bool.and_true, id, Bool.and_eq_true, decide_eq_true_eq] at hb
        obtain ⟨hr, hb⟩ := hb
        have hr : st'.length ≤ 8 := Nat.le_of_ble_eq_true hr
        obtain ⟨b1, b2, b3, b4, b5⟩ := hb
        have h0 : (0 : Int32).toInt = 0 := by decide
        have nn : ∀ z : Int32, 0 ≤ z.toInt → ¬ z < 0 := by
          intro z hz
          rw [Int32.lt_iff_toInt_lt, h0]
          omega
        have cn : ∀ z : Int32, z.toNatClampNeg = z.toInt.toNat := fun z => rfl
        refine va_copyi hx hc (by rw [hml]; exact hl.1.symm) hown (hts _ g1) (hts _ g2) (hts _ g3) (hts _ g4) hF.1 hP (zw_D hinj) hS f t 0 0 (zw_at hf) (zw_at ht) rfl rfl rfl (nn _ b3) (nn _ b2) (nn _ b1) (by rw [cn, cn]; omega) (by rw [cn, cn]; omega) (fun _ _ => rfl) hR.1 (by rw [zw_cat]; show st'.length + (7 + 11) ≤ _; omega) hd (fun H1 locs1 hP1 _ hS1 => ?_)
        refine kk H1 locs1 ls ?_ hS1 hl hs
        have e1 := zw_set (ad := ad) (cA := cA) (cB := cB) (μ := μ) (μ' := zm_cp μ f t sp dp n) ht (fun k hk => by funext i; unfold zm_cp; rw [zb_ne hk]; rfl)
        rw [← e1]
        have e2 : va_cpy (μ f) (μ t) sp.toNatClampNeg dp.toNatClampNeg n.toNatClampNeg = zm_cp μ f t sp dp n t := by
          funext i
          unfold zm_cp
          rw [Nat.beq_refl]
          rfl
        unfold zw_e
        rw [e2] at hP1
        exact hP1
      · cases hck
    · cases h
  · cases h
theorem zw_o28 (S : zw_C p m c cc nL s args big (cn own) sh X ad cA cB D cl nest) (K : zw_K cl big nest cn tb) (hR : 1 ≤ R.frames ∧ 40 ≤ R.locals ∧ cells ≤ R.cells ∧ slots ≤ R.slots) (hck : zw_ck cc own nL ret tb np (pc, nx, 28, a, b, k, sw) = true) (h : zm_s1 sh X (pc, nx, 28, a, b, k, sw) lo st μ = some (bs, pc', lo', st', μ')) (hb : bs.all id = true)
    (hP : va_P D cl (zw_W sh ad cA cB μ) H) (hS : va_S (zw_A sh ad) s.heap H locs) (hl : lv_has ls nL (zw_l ad lo)) (hs : zm_srt lo = true)
    (kk : ∀ (H1 : Heap) (locs1 : List Loc) (ls1 : Array Slot), va_P D cl (zw_W sh ad cA cB μ') H1 → va_S (zw_A sh ad) s.heap H1 locs1 → lv_has ls1 nL (zw_l ad lo') → zm_srt lo' = true → W p l e R s m args below meth c H1 locs1 cells slots Q (F0 m pc' ls1 (st'.map (zw_v ad)))) :
    W p l e R s m args below meth c H locs cells slots Q (F0 m pc ls (st.map (zw_v ad))) := by
  obtain ⟨hx, hc, hml, hown, hts, hF, hinj⟩ := S
  simp only [zw_ck] at hck
  split at hck
  · cases hck
  rename_i ins len hd
  rw [Bool.and_eq_true] at hck
  obtain ⟨hnx, hck⟩ := hck
  have hnx := Nat.eq_of_beq_eq_true hnx
  simp only [zm_s1] at h
  cases h
  split at hck
  · simp only [Bool.and_eq_true, decide_eq_true_eq] at hck
    obtain ⟨h1, h2, h3⟩ := hck
    have h1 := Nat.eq_of_beq_eq_true h1
    subst h1
    subst hnx
    have h2 := List.contains_iff_mem.mp h2
    have g := K.2.2.2.2.2.2.2 _ h2
    subst h3
    exact lv_ldc hx hc hown (hts _ g) hd (kk H locs ls hP hS hl hs)
  · simp only [Bool.and_eq_true, decide_eq_true_eq] at hck
    obtain ⟨h1, h2, h3⟩ := hck
    have h1 := Nat.eq_of_beq_eq_true h1
    subst h1
    subst hnx
    have h2 := List.contains_iff_mem.mp h2
    have g := K.2.2.2.2.2.2.2 _ h2
    subst h3
    exact lv_ldcw hx hc hown (hts _ g) hd (kk H locs ls hP hS hl hs)
  · cases hck
theorem zw_o99 {op : Nat} (h : zm_s1 sh X (pc, nx, op + 29, a, b, k, sw) lo st μ = some (bs, pc', lo', st', μ')) : False := by
  simp only [zm_s1] at h
  cases h
theorem zw_one {q : zm_q} (S : zw_C p m c cc nL s args big (cn own) sh X ad cA cB D cl nest) (K : zw_K cl big nest cn tb) (hR : 1 ≤ R.frames ∧ 40 ≤ R.locals ∧ cells ≤ R.cells ∧ slots ≤ R.slots) (hck : zw_ck cc own nL ret tb np q = true) (h : zm_s1 sh X q lo st μ = some (bs, pc', lo', st', μ')) (hb : bs.all id = true)
    (hP : va_P D cl (zw_W sh ad cA cB μ) H) (hS : va_S (zw_A sh ad) s.heap H locs) (hl : lv_has ls nL (zw_l ad lo)) (hs : zm_srt lo = true)
    (kk : ∀ (H1 : Heap) (locs1 : List Loc) (ls1 : Array Slot), va_P D cl (zw_W sh ad cA cB μ') H1 → va_S (zw_A sh ad) s.heap H1 locs1 → lv_has ls1 nL (zw_l ad lo') → zm_srt lo' = true → W p l e R s m args below meth c H1 locs1 cells slots Q (F0 m pc' ls1 (st'.map (zw_v ad)))) :
    W p l e R s m args below meth c H locs cells slots Q (F0 m q.1 ls (st.map (zw_v ad))) := by
  obtain ⟨pc, nx, op, a, b, k, sw⟩ := q
  match op, hck, h with
  | 0, hck, h => exact zw_o0 S K hR hck h hb hP hS hl hs kk
  | 1, hck, h => exact zw_o1 S K hR hck h hb hP hS hl hs kk
  | 2, hck, h => exact zw_o2 S K hR hck h hb hP hS hl hs kk
  | 3, hck, h => exact zw_o3 S K hR hck h hb hP hS hl hs kk
  | 4, hck, h => exact zw_o4 S K hR hck h hb hP hS hl hs kk
  | 5, hck, h => exact zw_o5 S K hR hck h hb hP hS hl hs kk
  | 6, hck, h => exact zw_o6 S K hR hck h hb hP hS hl hs kk
  | 7, hck, h => exact zw_o7 S K hR hck h hb hP hS hl hs kk
  | 8, hck, h => exact zw_o8 S K hR hck h hb hP hS hl hs kk
  | 9, hck, h => exact zw_o9 S K hR hck h hb hP hS hl hs kk
  | 10, hck, h => exact zw_o10 S K hR hck h hb hP hS hl hs kk
  | 11, hck, h => exact zw_o11 S K hR hck h hb hP hS hl hs kk
  | 12, hck, h => exact zw_o12 S K hR hck h hb hP hS hl hs kk
  | 13, hck, h => exact zw_o13 S K hR hck h hb hP hS hl hs kk
  | 14, hck, h => exact zw_o14 S K hR hck h hb hP hS hl hs kk
  | 15, hck, h => exact zw_o15 S K hR hck h hb hP hS hl hs kk
  | 16, hck, h => exact zw_o16 S K hR hck h hb hP hS hl hs kk
  | 17, hck, h => exact zw_o17 S K hR hck h hb hP hS hl hs kk
  | 18, hck, h => exact zw_o18 S K hR hck h hb hP hS hl hs kk
  | 19, hck, h => exact zw_o19 S K hR hck h hb hP hS hl hs kk
  | 20, hck, h => exact zw_o20 S K hR hck h hb hP hS hl hs kk
  | 21, hck, h => exact zw_o21 S K hR hck h hb hP hS hl hs kk
  | 22, hck, h => exact zw_o22 S K hR hck h hb hP hS hl hs kk
  | 23, hck, h => exact zw_o23 S K hR hck h hb hP hS hl hs kk
  | 24, hck, h => exact zw_o24 S K hR hck h hb hP hS hl hs kk
  | 25, hck, h => exact zw_o25 S K hR hck h hb hP hS hl hs kk
  | 26, hck, h => exact zw_o26 S K hR hck h hb hP hS hl hs kk
  | 27, hck, h => exact zw_o27 S K hR hck h hb hP hS hl hs kk
  | 28, hck, h => exact zw_o28 S K hR hck h hb hP hS hl hs kk
  | op + 29, hck, h => exact (zw_o99 h).elim
end ZX

def zi_0 : zm_u := fun c => cond (Nat.beq c 1) (fun f => cond (Nat.beq f 3) 2 0) (cond (Nat.beq c 2) (fun f => cond (Nat.beq f 6) 480 (cond (Nat.beq f 7) 520 0)) (cond (Nat.beq c 6) (upd (upd (fun _ => 0) 0 3) 1 4) (cond (Nat.beq c 9) (upd (upd (fun _ => 0) 480 0) 520 0) (cond (Nat.beq c 11) (upd (upd (fun _ => 0) 480 1) 520 1) (cond (Nat.beq c 13) (zn_fl 466) (cond (Nat.beq c 22) (fun f => cond (Nat.beq f 41) (-1) 0) (fun _ => 0)))))))
def zi_fs : List Value := [.int 0, .int 0, .null, .null, .null, .null, .null, .null, .null, .null, .int 0, .int 0, .int 0, .null, .null, .null, .null, .int 0, .null, .int 0, .null, .null, .null, .null, .null, .null, .null, .int 0, .int 0, .int 0, .null, .null, .null, .null, .int 0, .null, .null, .int 0, .null, .null, .null, .int 0, .int 0, .int 0, .null, .null, .null, .null, .null, .null, .int 0, .int 0, .int 0, .int 0, .int 0, .int 0, .null]
def zi_ad (a0 : Nat → Nat) (t0 b h : Nat) (qs : List Nat) : Nat → Nat := fun i => cond (Nat.beq i 100) t0 (cond (Nat.beq i 101) b (([a0 0, a0 1, a0 2, a0 3, a0 4, a0 5, a0 6, a0 7, a0 8, a0 9, a0 10, a0 11, a0 12, a0 13, a0 14, a0 15, a0 16, a0 17, a0 18, a0 19, a0 20, a0 21] ++ h :: qs).getD i 0))
def zi_2 : zm_u := zk_m (mt_put (mt_put zi_0 0 0 0 1) 1 0 0 1)
def zi_r1 : List zn_r := [(4, 13, 7, 2, 600, false), (13, 22, 13, 3, 600, false), (22, 31, 16, 4, 600, false), (31, 40, 19, 5, 600, false), (40, 49, 22, 6, 560, false), (49, 58, 25, 7, 560, false), (58, 66, 28, 8, 14, false), (66, 74, 31, 9, 14, false), (74, 82, 34, 13, 40, false), (82, 90, 37, 14, 40, false), (90, 98, 40, 15, 64, false), (98, 106, 43, 16, 64, false), (106, 114, 46, 18, 64, false), (114, 122, 49, 20, 40, false), (122, 130, 52, 21, 40, false), (130, 138, 55, 22, 40, false), (138, 146, 58, 23, 40, false), (146, 154, 61, 24, 40, false), (154, 162, 64, 25, 40, false), (162, 170, 67, 26, 40, false), (170, 179, 70, 30, 600, false), (179, 188, 73, 31, 600, false), (188, 197, 76, 32, 800, false), (197, 206, 79, 33, 800, false), (206, 215, 82, 35, 600, true), (215, 224, 86, 36, 600, false), (224, 233, 89, 38, 1300, false), (233, 242, 92, 39, 1300, false), (242, 251, 95, 40, 3900, false)]
def zi_r2 : List zn_r := [(256, 264, 102, 44, 64, false), (264, 272, 105, 45, 64, false), (272, 280, 108, 46, 64, false), (280, 288, 111, 47, 64, false), (288, 297, 114, 48, 192, false), (297, 306, 117, 49, 160, false), (306, 315, 120, 56, 1300, false)]
def zn_yMo : zw_Mt := (⟨"RigidCasesModel", "<init>", "()V"⟩, prog_8_method_1_code, 2, none, 6)
theorem zi_k1 : zn_chain prog_8_method_1_code 6 6 zt_T6 57 251 zi_r1 4 = true := by decide +kernel
theorem zi_k2 : zn_chain prog_8_method_1_code 6 6 zt_T6 57 315 zi_r2 256 = true := by decide +kernel

def zi_c (a0 : Nat → Nat) (cA cB : ClassId) : va_W := [zw_e a0 cA cB zi_0 0 (.inr (0, [some 1, some 2, some 3, some 4, none, none])), zw_e a0 cA cB zi_0 1 (.inr (1, [some 6, some 7, some 8, none])), zw_e a0 cA cB zi_0 2 (.inr (2, [some 9, some 10, some 11, some 12, none, none, none, none])), zw_e a0 cA cB zi_0 3 (.inr (3, [some 1, some 2, some 13, some 14, none, none])), zw_e a0 cA cB zi_0 4 (.inr (4, [some 2, some 5, some 15, none, none, none, none])), zw_e a0 cA cB zi_0 5 (.inr (5, [some 16, some 17, some 18, some 19, some 20, some 21, none, none, none])), zw_e a0 cA cB zi_0 6 (.inl (466, false)), zw_e a0 cA cB zi_0 7 (.inl (466, false)), zw_e a0 cA cB zi_0 8 (.inl (466, false)), zw_e a0 cA cB zi_0 9 (.inl (560, false)), zw_e a0 cA cB zi_0 10 (.inl (560, false)), zw_e a0 cA cB zi_0 11 (.inl (560, false)), zw_e a0 cA cB zi_0 12 (.inl (12, false)), zw_e a0 cA cB zi_0 13 (.inl (466, false)), zw_e a0 cA cB zi_0 14 (.inl (16, false)), zw_e a0 cA cB zi_0 15 (.inl (79, false)), zw_e a0 cA cB zi_0 16 (.inl (600, false)), zw_e a0 cA cB zi_0 17 (.inl (600, false)), zw_e a0 cA cB zi_0 18 (.inl (600, false)), zw_e a0 cA cB zi_0 19 (.inl (600, false)), zw_e a0 cA cB zi_0 20 (.inl (200, false)), zw_e a0 cA cB zi_0 21 (.inl (401, false))]
def zi_mi {α β : Type} (f : Nat → α → β) (n : Nat) (l : List α) : List β := match l with
  | [] => []
  | x :: r => f n x :: zi_mi f (n + 1) r
theorem zi_mi_at {α β : Type} (f : Nat → α → β) : ∀ (l : List α) (n k : Nat), (zi_mi f n l)[k]? = l[k]?.map (f (n + k)) := by
  intro l
  induction l with
  | nil => intro n k; simp [zi_mi]
  | cons x r ih =>
    intro n k
    cases k with
    | zero => simp [zi_mi]
    | succ k =>
      simp only [zi_mi, List.getElem?_cons_succ]
      rw [ih, show n + 1 + k = n + (k + 1) by omega]
theorem zi_mi_eq {α β : Type} (f : Nat → α → β) (l : List α) : l.mapIdx f = zi_mi f 0 l := by
  apply List.ext_getElem?
  intro k
  rw [List.getElem?_mapIdx, zi_mi_at, Nat.zero_add]
set_option maxHeartbeats 4000000 in
set_option maxRecDepth 100000 in
theorem zi_22 {a0 : Nat → Nat} {t0 b h q23 q24 q25 q26 q27 q28 q29 q30 q31 q32 q33 q34 q35 q36 q37 q38 q39 q40 q41 q42 q43 q44 q45 q46 q47 q48 q49 q50 q51 q52 q53 q54 q55 q56 q57 q58 : Nat} : List.mapIdx (zw_f (zi_ad a0 t0 b h [q23, q24, q25, q26, q27, q28, q29, q30, q31, q32, q33, q34, q35, q36, q37, q38, q39, q40, q41, q42, q43, q44, q45, q46, q47, q48, q49, q50, q51, q52, q53, q54, q55, q56, q57, q58]) zi_0 22) [none, none, some 23, some 24, some 25, some 26, some 27, some 28, some 29, some 30, none, none, none, some 31, some 32, some 33, some 34, none, some 35, none, some 36, some 37, some 38, some 39, some 40, some 41, some 42, none, none, none, some 43, some 44, some 45, some 46, none, some 47, some 48, none, some 49, some 50, some 51, none, none, none, some 52, some 53, some 54, some 55, some 56, some 57, none, none, none, none, none, none, some 58] = [.int 0, .int 0, .ref q23, .ref q24, .ref q25, .ref q26, .ref q27, .ref q28, .ref q29, .ref q30, .int 0, .int 0, .int 0, .ref q31, .ref q32, .ref q33, .ref q34, .int 0, .ref q35, .int 0, .ref q36, .ref q37, .ref q38, .ref q39, .ref q40, .ref q41, .ref q42, .int 0, .int 0, .int 0, .ref q43, .ref q44, .ref q45, .ref q46, .int 0, .ref q47, .ref q48, .int 0, .ref q49, .ref q50, .ref q51, .int (-1), .int 0, .int 0, .ref q52, .ref q53, .ref q54, .ref q55, .ref q56, .ref q57, .int 0, .int 0, .int 0, .int 0, .int 0, .int 0, .ref q58] := by
  rw [zi_mi_eq]
  rfl
def zi_w (a0 : Nat → Nat) (cA cB : ClassId) (h q23 q24 q25 q26 q27 q28 q29 q30 q31 q32 q33 q34 q35 q36 q37 q38 q39 q40 q41 q42 q43 q44 q45 q46 q47 q48 q49 q50 q51 q52 q53 q54 q55 q56 q57 q58 : Nat) : va_W := (h, .inr (6, [.int 0, .int 0, .ref q23, .ref q24, .ref q25, .ref q26, .ref q27, .ref q28, .ref q29, .ref q30, .int 0, .int 0, .int 0, .ref q31, .ref q32, .ref q33, .ref q34, .int 0, .ref q35, .int 0, .ref q36, .ref q37, .ref q38, .ref q39, .ref q40, .ref q41, .ref q42, .int 0, .int 0, .int 0, .ref q43, .ref q44, .ref q45, .ref q46, .int 0, .ref q47, .ref q48, .int 0, .ref q49, .ref q50, .ref q51, .int (-1), .int 0, .int 0, .ref q52, .ref q53, .ref q54, .ref q55, .ref q56, .ref q57, .int 0, .int 0, .int 0, .int 0, .int 0, .int 0, .ref q58])) :: (zi_c a0 cA cB ++ [(q23, .inl (cA, 600, .inl (fun _ => 0))), (q24, .inl (cA, 600, .inl (fun _ => 0))), (q25, .inl (cA, 600, .inl (fun _ => 0))), (q26, .inl (cA, 600, .inl (fun _ => 0))), (q27, .inl (cA, 560, .inl (fun _ => 0))), (q28, .inl (cA, 560, .inl (fun _ => 0))), (q29, .inl (cA, 14, .inl (fun _ => 0))), (q30, .inl (cA, 14, .inl (fun _ => 0))), (q31, .inl (cA, 40, .inl (fun _ => 0))), (q32, .inl (cA, 40, .inl (fun _ => 0))), (q33, .inl (cA, 64, .inl (fun _ => 0))), (q34, .inl (cA, 64, .inl (fun _ => 0))), (q35, .inl (cA, 64, .inl (fun _ => 0))), (q36, .inl (cA, 40, .inl (fun _ => 0))), (q37, .inl (cA, 40, .inl (fun _ => 0))), (q38, .inl (cA, 40, .inl (fun _ => 0))), (q39, .inl (cA, 40, .inl (fun _ => 0))), (q40, .inl (cA, 40, .inl (fun _ => 0))), (q41, .inl (cA, 40, .inl (fun _ => 0))), (q42, .inl (cA, 40, .inl (fun _ => 0))), (q43, .inl (cA, 600, .inl (fun _ => 0))), (q44, .inl (cA, 600, .inl (fun _ => 0))), (q45, .inl (cA, 800, .inl (fun _ => 0))), (q46, .inl (cA, 800, .inl (fun _ => 0))), (q47, .inl (cB, 600, .inl (fun _ => 0))), (q48, .inl (cA, 600, .inl (fun _ => 0))), (q49, .inl (cA, 1300, .inl (fun _ => 0))), (q50, .inl (cA, 1300, .inl (fun _ => 0))), (q51, .inl (cA, 3900, .inl (fun _ => 0))), (q52, .inl (cA, 64, .inl (fun _ => 0))), (q53, .inl (cA, 64, .inl (fun _ => 0))), (q54, .inl (cA, 64, .inl (fun _ => 0))), (q55, .inl (cA, 64, .inl (fun _ => 0))), (q56, .inl (cA, 192, .inl (fun _ => 0))), (q57, .inl (cA, 160, .inl (fun _ => 0))), (q58, .inl (cA, 1300, .inl (fun _ => 0)))])
def zi_g (k : Nat) : Nat := if k < 22 then k + 1 else if k = 22 then 0 else k
theorem zi_gi {i j : Nat} (h : zi_g i = zi_g j) : i = j := by
  unfold zi_g at h
  (repeat' split at h) <;> omega
set_option maxHeartbeats 4000000 in
set_option maxRecDepth 100000 in
theorem zi_p1 (a0 : Nat → Nat) (cA cB : ClassId) (t0 b h q23 q24 q25 q26 q27 q28 q29 q30 q31 q32 q33 q34 q35 q36 q37 q38 q39 q40 q41 q42 q43 q44 q45 q46 q47 q48 q49 q50 q51 q52 q53 q54 q55 q56 q57 q58 : Nat) : ∀ (k : Nat) (x : zm_h), zs[k]? = some x → (zi_w a0 cA cB h q23 q24 q25 q26 q27 q28 q29 q30 q31 q32 q33 q34 q35 q36 q37 q38 q39 q40 q41 q42 q43 q44 q45 q46 q47 q48 q49 q50 q51 q52 q53 q54 q55 q56 q57 q58)[zi_g k]? = some (zw_e (zi_ad a0 t0 b h [q23, q24, q25, q26, q27, q28, q29, q30, q31, q32, q33, q34, q35, q36, q37, q38, q39, q40, q41, q42, q43, q44, q45, q46, q47, q48, q49, q50, q51, q52, q53, q54, q55, q56, q57, q58]) cA cB zi_0 k x) := by
  intro k x hx
  match k, hx with
  | 0, hx => obtain rfl : (.inr (0, [some 1, some 2, some 3, some 4, none, none]) : zm_h) = x := Option.some.inj hx; rfl
  | 1, hx => obtain rfl : (.inr (1, [some 6, some 7, some 8, none]) : zm_h) = x := Option.some.inj hx; rfl
  | 2, hx => obtain rfl : (.inr (2, [some 9, some 10, some 11, some 12, none, none, none, none]) : zm_h) = x := Option.some.inj hx; rfl
  | 3, hx => obtain rfl : (.inr (3, [some 1, some 2, some 13, some 14, none, none]) : zm_h) = x := Option.some.inj hx; rfl
  | 4, hx => obtain rfl : (.inr (4, [some 2, some 5, some 15, none, none, none, none]) : zm_h) = x := Option.some.inj hx; rfl
  | 5, hx => obtain rfl : (.inr (5, [some 16, some 17, some 18, some 19, some 20, some 21, none, none, none]) : zm_h) = x := Option.some.inj hx; rfl
  | 6, hx => obtain rfl : (.inl (466, false) : zm_h) = x := Option.some.inj hx; rfl
  | 7, hx => obtain rfl : (.inl (466, false) : zm_h) = x := Option.some.inj hx; rfl
  | 8, hx => obtain rfl : (.inl (466, false) : zm_h) = x := Option.some.inj hx; rfl
  | 9, hx => obtain rfl : (.inl (560, false) : zm_h) = x := Option.some.inj hx; rfl
  | 10, hx => obtain rfl : (.inl (560, false) : zm_h) = x := Option.some.inj hx; rfl
  | 11, hx => obtain rfl : (.inl (560, false) : zm_h) = x := Option.some.inj hx; rfl
  | 12, hx => obtain rfl : (.inl (12, false) : zm_h) = x := Option.some.inj hx; rfl
  | 13, hx => obtain rfl : (.inl (466, false) : zm_h) = x := Option.some.inj hx; rfl
  | 14, hx => obtain rfl : (.inl (16, false) : zm_h) = x := Option.some.inj hx; rfl
  | 15, hx => obtain rfl : (.inl (79, false) : zm_h) = x := Option.some.inj hx; rfl
  | 16, hx => obtain rfl : (.inl (600, false) : zm_h) = x := Option.some.inj hx; rfl
  | 17, hx => obtain rfl : (.inl (600, false) : zm_h) = x := Option.some.inj hx; rfl
  | 18, hx => obtain rfl : (.inl (600, false) : zm_h) = x := Option.some.inj hx; rfl
  | 19, hx => obtain rfl : (.inl (600, false) : zm_h) = x := Option.some.inj hx; rfl
  | 20, hx => obtain rfl : (.inl (200, false) : zm_h) = x := Option.some.inj hx; rfl
  | 21, hx => obtain rfl : (.inl (401, false) : zm_h) = x := Option.some.inj hx; rfl
  | 22, hx =>
    obtain rfl : (.inr (6, [none, none, some 23, some 24, some 25, some 26, some 27, some 28, some 29, some 30, none, none, none, some 31, some 32, some 33, some 34, none, some 35, none, some 36, some 37, some 38, some 39, some 40, some 41, some 42, none, none, none, some 43, some 44, some 45, some 46, none, some 47, some 48, none, some 49, some 50, some 51, none, none, none, some 52, some 53, some 54, some 55, some 56, some 57, none, none, none, none, none, none, some 58]) : zm_h) = x := Option.some.inj hx
    exact congrArg (fun z => some (h, Sum.inr (6, z))) (zi_22 (a0 := a0) (t0 := t0) (b := b)).symm
  | 23, hx => obtain rfl : (.inl (600, false) : zm_h) = x := Option.some.inj hx; rfl
  | 24, hx => obtain rfl : (.inl (600, false) : zm_h) = x := Option.some.inj hx; rfl
  | 25, hx => obtain rfl : (.inl (600, false) : zm_h) = x := Option.some.inj hx; rfl
  | 26, hx => obtain rfl : (.inl (600, false) : zm_h) = x := Option.some.inj hx; rfl
  | 27, hx => obtain rfl : (.inl (560, false) : zm_h) = x := Option.some.inj hx; rfl
  | 28, hx => obtain rfl : (.inl (560, false) : zm_h) = x := Option.some.inj hx; rfl
  | 29, hx => obtain rfl : (.inl (14, false) : zm_h) = x := Option.some.inj hx; rfl
  | 30, hx => obtain rfl : (.inl (14, false) : zm_h) = x := Option.some.inj hx; rfl
  | 31, hx => obtain rfl : (.inl (40, false) : zm_h) = x := Option.some.inj hx; rfl
  | 32, hx => obtain rfl : (.inl (40, false) : zm_h) = x := Option.some.inj hx; rfl
  | 33, hx => obtain rfl : (.inl (64, false) : zm_h) = x := Option.some.inj hx; rfl
  | 34, hx => obtain rfl : (.inl (64, false) : zm_h) = x := Option.some.inj hx; rfl
  | 35, hx => obtain rfl : (.inl (64, false) : zm_h) = x := Option.some.inj hx; rfl
  | 36, hx => obtain rfl : (.inl (40, false) : zm_h) = x := Option.some.inj hx; rfl
  | 37, hx => obtain rfl : (.inl (40, false) : zm_h) = x := Option.some.inj hx; rfl
  | 38, hx => obtain rfl : (.inl (40, false) : zm_h) = x := Option.some.inj hx; rfl
  | 39, hx => obtain rfl : (.inl (40, false) : zm_h) = x := Option.some.inj hx; rfl
  | 40, hx => obtain rfl : (.inl (40, false) : zm_h) = x := Option.some.inj hx; rfl
  | 41, hx => obtain rfl : (.inl (40, false) : zm_h) = x := Option.some.inj hx; rfl
  | 42, hx => obtain rfl : (.inl (40, false) : zm_h) = x := Option.some.inj hx; rfl
  | 43, hx => obtain rfl : (.inl (600, false) : zm_h) = x := Option.some.inj hx; rfl
  | 44, hx => obtain rfl : (.inl (600, false) : zm_h) = x := Option.some.inj hx; rfl
  | 45, hx => obtain rfl : (.inl (800, false) : zm_h) = x := Option.some.inj hx; rfl
  | 46, hx => obtain rfl : (.inl (800, false) : zm_h) = x := Option.some.inj hx; rfl
  | 47, hx => obtain rfl : (.inl (600, true) : zm_h) = x := Option.some.inj hx; rfl
  | 48, hx => obtain rfl : (.inl (600, false) : zm_h) = x := Option.some.inj hx; rfl
  | 49, hx => obtain rfl : (.inl (1300, false) : zm_h) = x := Option.some.inj hx; rfl
  | 50, hx => obtain rfl : (.inl (1300, false) : zm_h) = x := Option.some.inj hx; rfl
  | 51, hx => obtain rfl : (.inl (3900, false) : zm_h) = x := Option.some.inj hx; rfl
  | 52, hx => obtain rfl : (.inl (64, false) : zm_h) = x := Option.some.inj hx; rfl
  | 53, hx => obtain rfl : (.inl (64, false) : zm_h) = x := Option.some.inj hx; rfl
  | 54, hx => obtain rfl : (.inl (64, false) : zm_h) = x := Option.some.inj hx; rfl
  | 55, hx => obtain rfl : (.inl (64, false) : zm_h) = x := Option.some.inj hx; rfl
  | 56, hx => obtain rfl : (.inl (192, false) : zm_h) = x := Option.some.inj hx; rfl
  | 57, hx => obtain rfl : (.inl (160, false) : zm_h) = x := Option.some.inj hx; rfl
  | 58, hx => obtain rfl : (.inl (1300, false) : zm_h) = x := Option.some.inj hx; rfl
  | n + 59, hx => cases hx

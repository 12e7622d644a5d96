def zk : List zm_q := [(315, 316, 27, 0, 0, 0, []), (316, 317, 0, 0, 0, 0, []), (317, 318, 0, 0, 0, 0, []), (318, 319, 0, 0, 0, 0, []), (319, 320, 0, 0, 0, 1, []), (320, 323, 36, 99, 5, 6, []), (323, 324, 18, 0, 0, 0, []), (324, 325, 27, 0, 0, 0, []), (325, 326, 0, 0, 0, 1, []), (326, 327, 0, 0, 0, 0, []), (327, 328, 0, 0, 0, 0, []), (328, 329, 0, 0, 0, 1, []), (329, 332, 36, 99, 5, 6, []), (332, 333, 18, 0, 0, 0, []), (333, 334, 27, 0, 0, 0, []), (334, 335, 0, 0, 0, 2, []), (335, 338, 5, 0, 6, 0, []), (338, 340, 0, 0, 0, 12, []), (340, 341, 2, 1, 0, 0, []), (341, 342, 1, 1, 0, 0, []), (342, 344, 0, 0, 0, 14, []), (344, 347, 31, 367, 3, 0, []), (347, 348, 27, 0, 0, 0, []), (348, 351, 4, 8, 6, 0, []), (351, 352, 1, 1, 0, 0, []), (352, 353, 0, 0, 0, 1, []), (353, 354, 7, 0, 0, 0, []), (354, 355, 27, 0, 0, 0, []), (355, 358, 4, 9, 6, 0, []), (358, 359, 1, 1, 0, 0, []), (359, 360, 0, 0, 0, 1, []), (360, 361, 7, 0, 0, 0, []), (361, 364, 3, 1, 0, 1, []), (364, 367, 19, 341, 0, 0, []), (367, 368, 34, 0, 0, 0, [])]
theorem zk_ck : zk.all (zw_ck prog_8_method_1_code 6 2 none zt_tb zt_np) = true := by decide +kernel
section ZK
variable {X : zm_T} {call : Nat → List zm_v → zm_u → Option (Option zm_v × zm_u)} {μ μ1 μ2 : zm_u} {f : Nat} {x y : Int32}
theorem zk_a : zm_loop zs X call zk (f + 5) 315 [(0, .inr 22)] [] μ = zm_loop zs X call zk f 320 [(0, .inr 22)] [.inl 1, .inl 0, .inl 0, .inl 0, .inr 22] μ := rfl
theorem zk_b (h : call 99 [.inr 22, .inl 0, .inl 0, .inl 0, .inl 1] μ = some (some (.inl x), μ1)) : zm_loop zs X call zk (f + 1) 320 [(0, .inr 22)] [.inl 1, .inl 0, .inl 0, .inl 0, .inr 22] μ = zm_loop zs X call zk f 323 [(0, .inr 22)] [.inl x] μ1 := by
  have h1 : zm_st zs X call (320, 323, 36, 99, 5, 6, []) [(0, .inr 22)] [.inl 1, .inl 0, .inl 0, .inl 0, .inr 22] μ = some (.inl (323, [(0, .inr 22)], [.inl x], μ1)) := by
    show (match call 99 [.inr 22, .inl 0, .inl 0, .inl 0, .inl 1] μ with
      | some (r, μ') => some (.inl (323, [(0, .inr 22)], r.toList ++ [], μ'))
      | none => none) = (some (.inl (323, [(0, .inr 22)], [.inl x], μ1)) : Option (zm_S ⊕ (Option zm_v × zm_u)))
    rw [h]
    rfl
  show (match zm_st zs X call (320, 323, 36, 99, 5, 6, []) [(0, .inr 22)] [.inl 1, .inl 0, .inl 0, .inl 0, .inr 22] μ with
      | some (.inl (pc', l', st', μ')) => zm_loop zs X call zk f pc' l' st' μ'
      | some (.inr x) => some x
      | none => none) = _
  rw [h1]
theorem zk_c : zm_loop zs X call zk (f + 6) 323 [(0, .inr 22)] [.inl x] μ = zm_loop zs X call zk f 329 [(0, .inr 22)] [.inl 1, .inl 0, .inl 0, .inl 1, .inr 22] μ := rfl
theorem zk_d (h : call 99 [.inr 22, .inl 1, .inl 0, .inl 0, .inl 1] μ = some (some (.inl x), μ1)) : zm_loop zs X call zk (f + 1) 329 [(0, .inr 22)] [.inl 1, .inl 0, .inl 0, .inl 1, .inr 22] μ = zm_loop zs X call zk f 332 [(0, .inr 22)] [.inl x] μ1 := by
  have h1 : zm_st zs X call (329, 332, 36, 99, 5, 6, []) [(0, .inr 22)] [.inl 1, .inl 0, .inl 0, .inl 1, .inr 22] μ = some (.inl (332, [(0, .inr 22)], [.inl x], μ1)) := by
    show (match call 99 [.inr 22, .inl 1, .inl 0, .inl 0, .inl 1] μ with
      | some (r, μ') => some (.inl (332, [(0, .inr 22)], r.toList ++ [], μ'))
      | none => none) = (some (.inl (332, [(0, .inr 22)], [.inl x], μ1)) : Option (zm_S ⊕ (Option zm_v × zm_u)))
    rw [h]
    rfl
  show (match zm_st zs X call (329, 332, 36, 99, 5, 6, []) [(0, .inr 22)] [.inl 1, .inl 0, .inl 0, .inl 1, .inr 22] μ with
      | some (.inl (pc', l', st', μ')) => zm_loop zs X call zk f pc' l' st' μ'
      | some (.inr x) => some x
      | none => none) = _
  rw [h1]
theorem zk_e : zm_loop zs X call zk (f + 6) 332 [(0, .inr 22)] [.inl x] μ = zm_loop zs X call zk f 341 [(0, .inr 22), (1, .inl 12)] [] (zm_up μ 22 0 2) := rfl
theorem zk_f : zm_loop zs X call zk (f + 15) 341 [(0, .inr 22), (1, .inl 12)] [] μ = zm_loop zs X call zk f 341 [(0, .inr 22), (1, .inl 13)] [] (zm_up (zm_up μ 29 12 1) 30 12 1) := rfl
theorem zk_g : zm_loop zs X call zk (f + 15) 341 [(0, .inr 22), (1, .inl 13)] [] μ = zm_loop zs X call zk f 341 [(0, .inr 22), (1, .inl 14)] [] (zm_up (zm_up μ 29 13 1) 30 13 1) := rfl
theorem zk_h : zm_loop zs X call zk (f + 4) 341 [(0, .inr 22), (1, .inl 14)] [] μ = some (none, μ) := rfl
def zk_m (μ : zm_u) : zm_u := zm_up (zm_up (zm_up (zm_up (zm_up μ 22 0 2) 29 12 1) 30 12 1) 29 13 1) 30 13 1
theorem zk_run (h1 : call 99 [.inr 22, .inl 0, .inl 0, .inl 0, .inl 1] μ = some (some (.inl x), μ1)) (h2 : call 99 [.inr 22, .inl 1, .inl 0, .inl 0, .inl 1] μ1 = some (some (.inl y), μ2)) : zm_loop zs X call zk 53 315 [(0, .inr 22)] [] μ = some (none, zk_m μ2) := by
  rw [zk_a (f := 48), zk_b (f := 47) h1, zk_c (f := 41), zk_d (f := 40) h2, zk_e (f := 34), zk_f (f := 19), zk_g (f := 4), zk_h (f := 0)]
  rfl
end ZK

section
/-! the small machine: memory is a function of cell and slot; values are ints and cell numbers -/
abbrev zm_v : Type := Int32 ⊕ Nat
abbrev zm_u : Type := Nat → Nat → Int32
abbrev zm_L : Type := List (Nat × zm_v)
abbrev zm_S : Type := Nat × zm_L × List zm_v × zm_u
abbrev zm_q : Type := Nat × Nat × Nat × Nat × Nat × Int32 × List (Int32 × Nat)
abbrev zm_h : Type := (Nat × Bool) ⊕ (Nat × List (Option Nat))
abbrev zm_T : Type := Nat × (Nat → Int32)
def zm_up (μ : zm_u) (c i : Nat) (v : Int32) : zm_u := fun c' i' => cond (Nat.beq c' c) (cond (Nat.beq i' i) v (μ c' i')) (μ c' i')
def zm_set (l : zm_L) (i : Nat) (v : zm_v) : zm_L := match l with
  | [] => [(i, v)]
  | (j, w) :: r => cond (Nat.beq i j) ((i, v) :: r) (cond (Nat.ble i j) ((i, v) :: (j, w) :: r) ((j, w) :: zm_set r i v))
def zm_get (l : zm_L) (i : Nat) : Option zm_v := match l with
  | [] => none
  | (j, w) :: r => cond (Nat.beq j i) (some w) (zm_get r i)
def zm_at (tb : List zm_q) (pc : Nat) : Option zm_q := match tb with
  | [] => none
  | q :: r => cond (Nat.beq q.1 pc) (some q) (zm_at r pc)
def zm_pt : Nat → Int32 := fun i => ([0, 0, 0, 2, 2, 3, 2, 1, 1, 1, 1, 1, 1, 2, 3, 2, 1, 1] : List Int32).getD i 0
def zm_cp (μ : zm_u) (f t : Nat) (sp dp n : Int32) : zm_u := fun c i => cond (Nat.beq c t) (if dp.toNatClampNeg ≤ i ∧ i < dp.toNatClampNeg + n.toNatClampNeg then μ f (sp.toNatClampNeg + (i - dp.toNatClampNeg)) else μ c i) (μ c i)
/-- one simple instruction: what must hold for it, and the state behind it -/
def zm_s1 (sh : List zm_h) (X : zm_T) (q : zm_q) (l : zm_L) (st : List zm_v) (μ : zm_u) : Option (List Bool × zm_S) :=
  match q with
  | (_, nx, op, a, b, k, _) =>
  match op with
  | 0 => some ([], nx, l, .inl k :: st, μ)
  | 1 => match zm_get l a with
    | some (.inl v) => some ([], nx, l, .inl v :: st, μ)
    | _ => none
  | 2 => match st with
    | .inl v :: r => some ([], nx, zm_set l a (.inl v), r, μ)
    | _ => none
  | 3 => match zm_get l a with
    | some (.inl x) => some ([], nx, zm_set l a (.inl (x + k)), st, μ)
    | _ => none
  | 4 => match st with
    | .inr j :: r => match sh[j]? with
      | some (.inr (ci, fs)) => match Nat.beq ci b with
        | true => match fs[a]? with
          | some none => some ([], nx, l, .inl (μ j a) :: r, μ)
          | some (some t) => some ([], nx, l, .inr t :: r, μ)
          | none => none
        | false => none
      | _ => none
    | _ => none
  | 5 => match st with
    | .inl x :: .inr j :: r => match sh[j]? with
      | some (.inr (ci, fs)) => match Nat.beq ci b with
        | true => match fs[a]? with
          | some none => some ([], nx, l, r, zm_up μ j a x)
          | _ => none
        | false => none
      | _ => none
    | _ => none
  | 6 => match st with
    | .inl i :: .inr j :: r => match sh[j]? with
      | some (.inl (n, false)) => some ([decide (0 ≤ i.toInt ∧ i.toInt < (n : Int))], nx, l, .inl (μ j i.toNatClampNeg) :: r, μ)
      | _ => none
    | _ => none
  | 7 => match st with
    | .inl x :: .inl i :: .inr j :: r => match sh[j]? with
      | some (.inl (n, false)) => some ([decide (0 ≤ i.toInt ∧ i.toInt < (n : Int))], nx, l, r, zm_up μ j i.toNatClampNeg x)
      | _ => none
    | _ => none
  | 8 => match st with
    | .inl i :: .inr j :: r => match sh[j]? with
      | some (.inl (n, true)) => some ([decide (0 ≤ i.toInt ∧ i.toInt < (n : Int))], nx, l, .inl (μ j i.toNatClampNeg) :: r, μ)
      | _ => none
    | _ => none
  | 9 => match st with
    | .inl x :: .inl i :: .inr j :: r => match sh[j]? with
      | some (.inl (n, true)) => some ([decide (0 ≤ i.toInt ∧ i.toInt < (n : Int)), decide (x = 0 ∨ x = 1)], nx, l, r, zm_up μ j i.toNatClampNeg x)
      | _ => none
    | _ => none
  | 10 => match st with
    | .inl y :: .inl x :: r => some ([], nx, l, .inl (x + y) :: r, μ)
    | _ => none
  | 11 => match st with
    | .inl y :: .inl x :: r => some ([], nx, l, .inl (x - y) :: r, μ)
    | _ => none
  | 12 => match st with
    | .inl y :: .inl x :: r => some ([], nx, l, .inl (x * y) :: r, μ)
    | _ => none
  | 13 => match st with
    | .inl y :: .inl x :: r => some ([], nx, l, .inl (x &&& y) :: r, μ)
    | _ => none
  | 14 => match st with
    | .inl y :: .inl x :: r => some ([], nx, l, .inl (x <<< (y &&& 31)) :: r, μ)
    | _ => none
  | 15 => match st with
    | .inl y :: .inl x :: r => some ([], nx, l, .inl (x >>> (y &&& 31)) :: r, μ)
    | _ => none
  | 16 => match st with
    | v :: r => some ([], nx, l, v :: v :: r, μ)
    | _ => none
  | 17 => match st with
    | v :: w :: r => some ([], nx, l, v :: w :: v :: w :: r, μ)
    | _ => none
  | 18 => match st with
    | _ :: r => some ([], nx, l, r, μ)
    | _ => none
  | 19 => some ([], a, l, st, μ)
  | 20 => match st with
    | .inl i :: .inr 100 :: r => some ([decide (0 ≤ i.toInt ∧ i.toInt < 18)], nx, l, .inl (zm_pt i.toNatClampNeg) :: r, μ)
    | .inl i :: .inr 101 :: r => some ([decide (0 ≤ i.toInt ∧ i.toInt < (X.1 : Int))], nx, l, .inl (X.2 i.toNatClampNeg) :: r, μ)
    | _ => none
  | 21 => some ([], nx, l, .inr 100 :: st, μ)
  | 22 => match st with
    | .inr 101 :: r => some ([], nx, l, .inl (Int32.ofNat X.1) :: r, μ)
    | _ => none
  | 23 => match st with
    | .inl y :: .inl x :: r => some ([], nx, l, .inl (x.toUInt32 >>> (y.toUInt32 &&& Int32.toUInt32 31)).toInt32 :: r, μ)
    | _ => none
  | 24 => match st with
    | .inl x :: .inr j :: r => match sh[j]? with
      | some (.inr (ci, fs)) => match Nat.beq ci b with
        | true => match fs[a]? with
          | some none => some ([decide (x = 0 ∨ x = 1)], nx, l, r, zm_up μ j a x)
          | _ => none
        | false => none
      | _ => none
    | _ => none
  | 25 => match st with
    | .inl y :: .inl x :: r => some ([Nat.ble r.length 8], nx, l, .inl (cond (decide (x < y)) y x) :: r, μ)
    | _ => none
  | 26 => match st with
    | .inl n :: .inl dp :: .inr t :: .inl sp :: .inr f :: r => match sh[f]?, sh[t]? with
      | some (.inl (n0, false)), some (.inl (n1, false)) => some ([Nat.ble r.length 8, decide (0 ≤ n.toInt ∧ 0 ≤ dp.toInt ∧ 0 ≤ sp.toInt ∧ sp.toInt + n.toInt ≤ (n0 : Int) ∧ dp.toInt + n.toInt ≤ (n1 : Int))], nx, l, r, zm_cp μ f t sp dp n)
      | _, _ => none
    | _ => none
  | 27 => match zm_get l a with
    | some (.inr v) => some ([], nx, l, .inr v :: st, μ)
    | _ => none
  | 28 => some ([], nx, l, .inl k :: st, μ)
  | _ => none
def zm_c (b : Nat) (x y : Int32) : Bool := match b with
  | 0 => decide (x = y)
  | 1 => decide (¬ x = y)
  | 2 => decide (x < y)
  | 3 => decide (y ≤ x)
  | 4 => decide (y < x)
  | _ => decide (x ≤ y)
def zm_sw (sw : List (Int32 × Nat)) (d : Nat) (x : Int32) : Nat := match sw with
  | [] => d
  | (k, t) :: r => cond (decide (x = k)) t (zm_sw r d x)
/-- is it an object of that kind -/
def zm_is (sh : List zm_h) (ci : Nat) (as : List zm_v) : Bool := match as with
  | .inr j :: _ => match sh[j]? with
    | some (.inr (c, _)) => Nat.beq c ci
    | _ => false
  | _ => false
def zm_s2 (sh : List zm_h) (call : Nat → List zm_v → zm_u → Option (Option zm_v × zm_u)) (q : zm_q) (l : zm_L) (st : List zm_v) (μ : zm_u) : Option (zm_S ⊕ (Option zm_v × zm_u)) :=
  match q with
  | (_, nx, op, a, b, k, sw) => match op with
    | 30 => match st with
      | .inl x :: r => some (.inl (cond (zm_c b x 0) a nx, l, r, μ))
      | _ => none
    | 31 => match st with
      | .inl y :: .inl x :: r => some (.inl (cond (zm_c b x y) a nx, l, r, μ))
      | _ => none
    | 32 => match st with
      | .inl x :: r => some (.inl (zm_sw sw a x, l, r, μ))
      | _ => none
    | 33 => match st with
      | [.inl v] => some (.inr (some (.inl v), μ))
      | _ => none
    | 34 => match st with
      | [] => some (.inr (none, μ))
      | _ => none
    | 35 => cond (Nat.ble b st.length && Nat.ble (st.drop b).length 8) (match call a (st.take b).reverse μ with
      | some (r, μ') => some (.inl (nx, l, r.toList ++ st.drop b, μ'))
      | none => none) none
    | 36 => cond (Nat.ble b st.length && Nat.ble (st.drop b).length 8 && zm_is sh k.toNatClampNeg (st.take b).reverse) (match call a (st.take b).reverse μ with
      | some (r, μ') => some (.inl (nx, l, r.toList ++ st.drop b, μ'))
      | none => none) none
    | 37 => match st with
      | [.inl v] => cond (decide (v = 0 ∨ v = 1)) (some (.inr (some (.inl v), μ))) none
      | _ => none
    | _ => none
def zm_st (sh : List zm_h) (X : zm_T) (call : Nat → List zm_v → zm_u → Option (Option zm_v × zm_u)) (q : zm_q) (l : zm_L) (st : List zm_v) (μ : zm_u) : Option (zm_S ⊕ (Option zm_v × zm_u)) :=
  match zm_s1 sh X q l st μ with
  | some (bs, s) => cond (bs.all id) (some (.inl s)) none
  | none => zm_s2 sh call q l st μ
def zm_loop (sh : List zm_h) (X : zm_T) (call : Nat → List zm_v → zm_u → Option (Option zm_v × zm_u)) (tb : List zm_q) : Nat → Nat → zm_L → List zm_v → zm_u → Option (Option zm_v × zm_u)
  | 0, _, _, _, _ => none
  | f + 1, pc, l, st, μ => match zm_at tb pc with
    | none => none
    | some q => match zm_st sh X call q l st μ with
      | some (.inl (pc', l', st', μ')) => zm_loop sh X call tb f pc' l' st' μ'
      | some (.inr x) => some x
      | none => none
def zm_args (i : Nat) (as : List zm_v) : zm_L := match as with
  | [] => []
  | v :: r => (i, v) :: zm_args (i + 1) r
def zm_ev (sh : List zm_h) (cd : Nat → List zm_q) (X : zm_T) (F : Nat) : Nat → Nat → List zm_v → zm_u → Option (Option zm_v × zm_u)
  | 0, _, _, _ => none
  | d + 1, n, as, μ => zm_loop sh X (zm_ev sh cd X F d) (cd n) F 0 (zm_args 0 as) [] μ
section ZM
variable {sh : List zm_h} {X : zm_T} {cd : Nat → List zm_q}
theorem zm_st_mono {call call' : Nat → List zm_v → zm_u → Option (Option zm_v × zm_u)} (hc : ∀ n as μ x, call n as μ = some x → call' n as μ = some x) {q : zm_q} {l : zm_L} {st : List zm_v} {μ : zm_u} {x : zm_S ⊕ (Option zm_v × zm_u)} (h : zm_st sh X call q l st μ = some x) : zm_st sh X call' q l st μ = some x := by
  unfold zm_st at h ⊢
  split at h
  · exact h
  · obtain ⟨pc, nx, op, a, b, k, sw⟩ := q
    unfold zm_s2 at h ⊢
    simp only at h ⊢
    split at h
    · exact h
    · exact h
    · exact h
    · exact h
    · exact h
    · cases hb : (Nat.ble b st.length && Nat.ble (st.drop b).length 8) with
      | false => rw [hb] at h; cases h
      | true =>
        rw [hb] at h
        simp only [cond_true] at h ⊢
        cases hq : call a (st.take b).reverse μ with
        | none => rw [hq] at h; cases h
        | some y => rw [hq] at h; rw [hc _ _ _ _ hq]; exact h
    · cases hb : (Nat.ble b st.length && Nat.ble (st.drop b).length 8 && zm_is sh k.toNatClampNeg (st.take b).reverse) with
      | false => rw [hb] at h; cases h
      | true =>
        rw [hb] at h
        simp only [cond_true] at h ⊢
        cases hq : call a (st.take b).reverse μ with
        | none => rw [hq] at h; cases h
        | some y => rw [hq] at h; rw [hc _ _ _ _ hq]; exact h
    · exact h
    · cases h
theorem zm_loop_mono {call call' : Nat → List zm_v → zm_u → Option (Option zm_v × zm_u)} (hc : ∀ n as μ x, call n as μ = some x → call' n as μ = some x) {tb : List zm_q} : ∀ (f f' : Nat) (pc : Nat) (l : zm_L) (st : List zm_v) (μ : zm_u) (x : Option zm_v × zm_u), f ≤ f' → zm_loop sh X call tb f pc l st μ = some x → zm_loop sh X call' tb f' pc l st μ = some x := by
  intro f
  induction f with
  | zero => intro f' pc l st μ x _ h; cases h
  | succ f ih =>
    intro f' pc l st μ x hf h
    obtain ⟨g, rfl⟩ : ∃ g, f' = g + 1 := ⟨f' - 1, by omega⟩
    unfold zm_loop at h ⊢
    cases hq : zm_at tb pc with
    | none => rw [hq] at h; cases h
    | some q =>
      rw [hq] at h
      simp only at h ⊢
      cases hs : zm_st sh X call q l st μ with
      | none => rw [hs] at h; cases h
      | some y =>
        rw [hs] at h
        rw [zm_st_mono hc hs]
        cases y with
        | inl s =>
          obtain ⟨pc', l', st', μ'⟩ := s
          exact ih g pc' l' st' μ' x (by omega) h
        | inr y => exact h
theorem zm_ev_mono {F F' : Nat} (hF : F ≤ F') : ∀ (d d' : Nat), d ≤ d' → ∀ n as μ x, zm_ev sh cd X F d n as μ = some x → zm_ev sh cd X F' d' n as μ = some x := by
  intro d
  induction d with
  | zero => intro d' _ n as μ x h; cases h
  | succ d ih =>
    intro d' hd n as μ x h
    obtain ⟨g, rfl⟩ : ∃ g, d' = g + 1 := ⟨d' - 1, by omega⟩
    unfold zm_ev at h ⊢
    exact zm_loop_mono (fun n as μ x h => ih g (by omega) n as μ x h) F F' _ _ _ _ _ hF h
/-- from this place on the method comes to an end that is as said -/
def zm_V (sh : List zm_h) (cd : Nat → List zm_q) (X : zm_T) (d n pc : Nat) (l : zm_L) (st : List zm_v) (μ : zm_u) (post : Option zm_v → zm_u → Prop) : Prop :=
  ∃ (F : Nat) (r : Option zm_v) (μ' : zm_u), zm_loop sh X (zm_ev sh cd X F d) (cd n) F pc l st μ = some (r, μ') ∧ post r μ'
/-- a call of the method n comes to an end that is as said -/
def zm_E (sh : List zm_h) (cd : Nat → List zm_q) (X : zm_T) (d n : Nat) (as : List zm_v) (μ : zm_u) (post : Option zm_v → zm_u → Prop) : Prop :=
  ∃ (F : Nat) (r : Option zm_v) (μ' : zm_u), zm_ev sh cd X F d n as μ = some (r, μ') ∧ post r μ'
variable {d n pc : Nat} {l : zm_L} {st : List zm_v} {μ : zm_u} {post : Option zm_v → zm_u → Prop}
theorem zm_E_of {as : List zm_v} (h : zm_V sh cd X d n 0 (zm_args 0 as) [] μ post) : zm_E sh cd X (d + 1) n as μ post := h
theorem zm_E_mono {d' : Nat} {as : List zm_v} {post' : Option zm_v → zm_u → Prop} (h : zm_E sh cd X d n as μ post) (hd : d ≤ d') (hp : ∀ r μ', post r μ' → post' r μ') : zm_E sh cd X d' n as μ post' := by
  obtain ⟨F, r, μ', h1, h2⟩ := h
  exact ⟨F, r, μ', zm_ev_mono (Nat.le_refl F) d d' hd _ _ _ _ h1, hp _ _ h2⟩
theorem zm_V_post {post' : Option zm_v → zm_u → Prop} (h : zm_V sh cd X d n pc l st μ post) (hp : ∀ r μ', post r μ' → post' r μ') : zm_V sh cd X d n pc l st μ post' := by
  obtain ⟨F, r, μ', h1, h2⟩ := h
  exact ⟨F, r, μ', h1, hp _ _ h2⟩
theorem zm_V_step {q : zm_q} {pc' : Nat} {l' : zm_L} {st' : List zm_v} {μ' : zm_u} (hq : zm_at (cd n) pc = some q) (hs : ∀ call, zm_st sh X call q l st μ = some (.inl (pc', l', st', μ'))) (k : zm_V sh cd X d n pc' l' st' μ' post) : zm_V sh cd X d n pc l st μ post := by
  obtain ⟨F, r, μ1, h1, h2⟩ := k
  refine ⟨F + 1, r, μ1, ?_, h2⟩
  unfold zm_loop
  rw [hq]
  simp only
  rw [hs]
  exact zm_loop_mono (fun n as μ x h => zm_ev_mono (Nat.le_succ F) d d (Nat.le_refl d) n as μ x h) F F _ _ _ _ _ (Nat.le_refl F) h1
def zm_x (sh : List zm_h) (X : zm_T) : List zm_q → zm_S → Option (List Bool × zm_S)
  | [], s => some ([], s)
  | q :: r, (pc, l, st, μ) => cond (Nat.beq q.1 pc) (match zm_s1 sh X q l st μ with
    | some (bs, s) => match zm_x sh X r s with
      | some (bs', s') => some (bs ++ bs', s')
      | none => none
    | none => none) none
theorem zm_s1_st {call : Nat → List zm_v → zm_u → Option (Option zm_v × zm_u)} {q : zm_q} {bs : List Bool} {s : zm_S} (h : zm_s1 sh X q l st μ = some (bs, s)) (hb : bs.all id = true) : zm_st sh X call q l st μ = some (.inl s) := by
  unfold zm_st
  rw [h]
  simp only
  rw [hb]
  rfl
theorem zm_run : ∀ (qs : List zm_q) (pc : Nat) (l : zm_L) (st : List zm_v) (μ : zm_u) (bs : List Bool) (pc' : Nat) (l' : zm_L) (st' : List zm_v) (μ' : zm_u), qs.all (fun q => zm_at (cd n) q.1 == some q) = true → zm_x sh X qs (pc, l, st, μ) = some (bs, (pc', l', st', μ')) → bs.all id = true →
    zm_V sh cd X d n pc' l' st' μ' post → zm_V sh cd X d n pc l st μ post := by
  intro qs
  induction qs with
  | nil =>
    intro pc l st μ bs pc' l' st' μ' _ hx _ k
    cases hx
    exact k
  | cons q r ih =>
    intro pc l st μ bs pc' l' st' μ' hq hx hb k
    simp only [List.all_cons, Bool.and_eq_true, beq_iff_eq] at hq
    unfold zm_x at hx
    cases hp : Nat.beq q.1 pc with
    | false => rw [hp] at hx; cases hx
    | true =>
      rw [hp] at hx
      simp only [cond_true] at hx
      cases h1 : zm_s1 sh X q l st μ with
      | none => rw [h1] at hx; cases hx
      | some y =>
        obtain ⟨b1, s1⟩ := y
        obtain ⟨pc1, l1, st1, μ1⟩ := s1
        rw [h1] at hx
        simp only at hx
        cases h2 : zm_x sh X r (pc1, l1, st1, μ1) with
        | none => rw [h2] at hx; cases hx
        | some y =>
          obtain ⟨b2, s2⟩ := y
          rw [h2] at hx
          simp only [Option.some.injEq, Prod.mk.injEq] at hx
          obtain ⟨e1, e2⟩ := hx
          subst e1
          rw [List.all_append, Bool.and_eq_true] at hb
          have hpc : q.1 = pc := Nat.eq_of_beq_eq_true hp
          refine zm_V_step (q := q) (by rw [← hpc]; exact hq.1) (fun call => zm_s1_st h1 hb.1) ?_
          exact ih pc1 l1 st1 μ1 b2 pc' l' st' μ' hq.2 (by rw [h2, e2]) hb.2 k
theorem zm_if {nx a b : Nat} {k : Int32} {sw : List (Int32 × Nat)} {x : Int32} {r : List zm_v} (hq : zm_at (cd n) pc = some (pc, nx, 30, a, b, k, sw)) (kt : zm_c b x 0 = true → zm_V sh cd X d n a l r μ post) (kf : zm_c b x 0 = false → zm_V sh cd X d n nx l r μ post) : zm_V sh cd X d n pc l (.inl x :: r) μ post := by
  cases hc : zm_c b x 0 with
  | true => exact zm_V_step hq (fun call => by show some (Sum.inl (cond (zm_c b x 0) a nx, l, r, μ)) = _; rw [hc]; rfl) (kt hc)
  | false => exact zm_V_step hq (fun call => by show some (Sum.inl (cond (zm_c b x 0) a nx, l, r, μ)) = _; rw [hc]; rfl) (kf hc)
theorem zm_icmp {nx a b : Nat} {k : Int32} {sw : List (Int32 × Nat)} {x y : Int32} {r : List zm_v} (hq : zm_at (cd n) pc = some (pc, nx, 31, a, b, k, sw)) (kt : zm_c b x y = true → zm_V sh cd X d n a l r μ post) (kf : zm_c b x y = false → zm_V sh cd X d n nx l r μ post) : zm_V sh cd X d n pc l (.inl y :: .inl x :: r) μ post := by
  cases hc : zm_c b x y with
  | true => exact zm_V_step hq (fun call => by show some (Sum.inl (cond (zm_c b x y) a nx, l, r, μ)) = _; rw [hc]; rfl) (kt hc)
  | false => exact zm_V_step hq (fun call => by show some (Sum.inl (cond (zm_c b x y) a nx, l, r, μ)) = _; rw [hc]; rfl) (kf hc)
theorem zm_switch {nx a b : Nat} {k : Int32} {sw : List (Int32 × Nat)} {x : Int32} {r : List zm_v} (hq : zm_at (cd n) pc = some (pc, nx, 32, a, b, k, sw)) (kk : zm_V sh cd X d n (zm_sw sw a x) l r μ post) : zm_V sh cd X d n pc l (.inl x :: r) μ post :=
  zm_V_step hq (fun call => rfl) kk
theorem zm_iret {nx a b : Nat} {k : Int32} {sw : List (Int32 × Nat)} {v : Int32} (hq : zm_at (cd n) pc = some (pc, nx, 33, a, b, k, sw)) (h : post (some (.inl v)) μ) : zm_V sh cd X d n pc l [.inl v] μ post :=
  ⟨1, _, _, by unfold zm_loop; rw [hq]; rfl, h⟩
theorem zm_zret {nx a b : Nat} {k : Int32} {sw : List (Int32 × Nat)} {v : Int32} (hq : zm_at (cd n) pc = some (pc, nx, 37, a, b, k, sw)) (hv : v = 0 ∨ v = 1) (h : post (some (.inl v)) μ) : zm_V sh cd X d n pc l [.inl v] μ post := by
  refine ⟨1, _, _, ?_, h⟩
  unfold zm_loop
  rw [hq]
  show (match (cond (decide (v = 0 ∨ v = 1)) (some (Sum.inr (some (Sum.inl v), μ))) none : Option (zm_S ⊕ (Option zm_v × zm_u))) with
      | some (.inl (pc', l', st', μ')) => _
      | some (.inr x) => some x
      | none => none) = _
  rw [decide_eq_true hv]
  rfl
theorem zm_vret {nx a b : Nat} {k : Int32} {sw : List (Int32 × Nat)} (hq : zm_at (cd n) pc = some (pc, nx, 34, a, b, k, sw)) (h : post none μ) : zm_V sh cd X d n pc l [] μ post :=
  ⟨1, _, _, by unfold zm_loop; rw [hq]; rfl, h⟩
theorem zm_V_call {q : zm_q} {nx a : Nat} {as rest : List zm_v} {P : Option zm_v → zm_u → Prop} (hq : zm_at (cd n) pc = some q) (hs : ∀ call, zm_st sh X call q l st μ = match call a as μ with
        | some (r, μ') => some (.inl (nx, l, r.toList ++ rest, μ'))
        | none => none) (he : zm_E sh cd X d a as μ P) (k : ∀ r μ', P r μ' → zm_V sh cd X d n nx l (r.toList ++ rest) μ' post) : zm_V sh cd X d n pc l st μ post := by
  obtain ⟨F1, r, μ1, h1, h2⟩ := he
  obtain ⟨F2, r2, μ2, h3, h4⟩ := k r μ1 h2
  refine ⟨F1 + F2 + 1, r2, μ2, ?_, h4⟩
  unfold zm_loop
  rw [hq]
  simp only
  rw [hs, zm_ev_mono (show F1 ≤ F1 + F2 + 1 by omega) d d (Nat.le_refl d) _ _ _ _ h1]
  exact zm_loop_mono (fun n as μ x h => zm_ev_mono (show F2 ≤ F1 + F2 + 1 by omega) d d (Nat.le_refl d) n as μ x h) F2 (F1 + F2) _ _ _ _ _ (by omega) h3
theorem zm_callS {nx a b : Nat} {k : Int32} {sw : List (Int32 × Nat)} {as rest : List zm_v} {P : Option zm_v → zm_u → Prop} (hq : zm_at (cd n) pc = some (pc, nx, 35, a, b, k, sw)) (has : (st.take b).reverse = as) (hr : st.drop b = rest) (hb : (Nat.ble b st.length && Nat.ble (st.drop b).length 8) = true)
    (he : zm_E sh cd X d a as μ P) (kk : ∀ r μ', P r μ' → zm_V sh cd X d n nx l (r.toList ++ rest) μ' post) : zm_V sh cd X d n pc l st μ post := by
  subst has
  subst hr
  refine zm_V_call hq (fun call => ?_) he kk
  show cond (Nat.ble b st.length && Nat.ble (st.drop b).length 8) _ none = _
  rw [hb]
  rfl
theorem zm_callV {nx a b : Nat} {k : Int32} {sw : List (Int32 × Nat)} {as rest : List zm_v} {P : Option zm_v → zm_u → Prop} (hq : zm_at (cd n) pc = some (pc, nx, 36, a, b, k, sw)) (has : (st.take b).reverse = as) (hr : st.drop b = rest) (hb : (Nat.ble b st.length && Nat.ble (st.drop b).length 8 && zm_is sh k.toNatClampNeg as) = true)
    (he : zm_E sh cd X d a as μ P) (kk : ∀ r μ', P r μ' → zm_V sh cd X d n nx l (r.toList ++ rest) μ' post) : zm_V sh cd X d n pc l st μ post := by
  subst has
  subst hr
  refine zm_V_call hq (fun call => ?_) he kk
  show cond (Nat.ble b st.length && Nat.ble (st.drop b).length 8 && zm_is sh k.toNatClampNeg (st.take b).reverse) _ none = _
  rw [hb]
  rfl
end ZM
end
section
/-! fewer locals serve as well; calls with ints -/
section ZN
variable {sh : List zm_h} {X : zm_T} {cd : Nat → List zm_q} {d n pc : Nat} {st : List zm_v} {μ : zm_u} {post : Option zm_v → zm_u → Prop}
def zm_le (l l2 : zm_L) : Prop := ∀ (i : Nat) (v : zm_v), zm_get l i = some v → zm_get l2 i = some v
theorem zm_get_set {i j : Nat} {v : zm_v} : ∀ l : zm_L, zm_get (zm_set l i v) j = cond (Nat.beq i j) (some v) (zm_get l j) := by
  intro l
  induction l with
  | nil =>
    show cond (Nat.beq i j) (some v) none = _
    rfl
  | cons x r ih =>
    obtain ⟨k, w⟩ := x
    unfold zm_set
    cases hb : Nat.beq i k with
    | true =>
      have e := Nat.eq_of_beq_eq_true hb
      subst e
      simp only [cond_true]
      show cond (Nat.beq i j) (some v) (zm_get r j) = cond (Nat.beq i j) (some v) (cond (Nat.beq i j) (some w) (zm_get r j))
      cases Nat.beq i j <;> rfl
    | false =>
      simp only [cond_false]
      cases hl : Nat.ble i k with
      | true =>
        simp only [cond_true]
        rfl
      | false =>
        simp only [cond_false]
        show cond (Nat.beq k j) (some w) (zm_get (zm_set r i v) j) = cond (Nat.beq i j) (some v) (cond (Nat.beq k j) (some w) (zm_get r j))
        rw [ih]
        cases h1 : Nat.beq k j with
        | false => rfl
        | true =>
          have e := Nat.eq_of_beq_eq_true h1
          subst e
          rw [hb]
          rfl
theorem zm_set_le {l l2 : zm_L} (h : zm_le l l2) (i : Nat) (v : zm_v) : zm_le (zm_set l i v) (zm_set l2 i v) := by
  intro j w hj
  rw [zm_get_set] at hj ⊢
  cases hb : Nat.beq i j with
  | true => rw [hb] at hj; exact hj
  | false => rw [hb] at hj; exact h j w hj
theorem zm_s1_le {q : zm_q} {l l2 l' : zm_L} {bs : List Bool} {pc' : Nat} {st' : List zm_v} {μ' : zm_u} (hle : zm_le l l2) (h : zm_s1 sh X q l st μ = some (bs, pc', l', st', μ')) : ∃ l2' : zm_L, zm_s1 sh X q l2 st μ = some (bs, pc', l2', st', μ') ∧ zm_le l' l2' := by
  obtain ⟨pc, nx, op, a, b, k, sw⟩ := q
  unfold zm_s1 at h ⊢
  simp only at h ⊢
  split at h
  · cases h
    exact ⟨l2, rfl, hle⟩
  · split at h
    · rename_i v hv
      cases h
      exact ⟨l2, by rw [hle _ _ hv], hle⟩
    · cases h
  · split at h
    · cases h
      exact ⟨_, rfl, zm_set_le hle _ _⟩
    · cases h
  · split at h
    · rename_i v hv
      cases h
      exact ⟨zm_set l2 a (.inl (v + k)), by rw [hle _ _ hv], zm_set_le hle _ _⟩
    · cases h
  all_goals first
    | (split at h
       · rename_i v hv
         cases h
         exact ⟨l2, by rw [hle _ _ hv], hle⟩
       · cases h)
    | ((repeat' split at h) <;> first
        | (cases h; exact ⟨l2, rfl, hle⟩)
        | (cases h; exact ⟨l2, by simp only [*], hle⟩)
        | (cases h; exact ⟨l2, by simp [*], hle⟩)
        | (cases h; done))
theorem zm_s1_hi {q : zm_q} {l : zm_L} (h : 30 ≤ q.2.2.1) : zm_s1 sh X q l st μ = none := by
  obtain ⟨pc, nx, op, a, b, k, sw⟩ := q
  simp only at h
  obtain ⟨j, rfl⟩ : ∃ j, op = j + 30 := ⟨op - 30, by omega⟩
  simp only [zm_s1]
theorem zm_s2_le {q : zm_q} {l l2 : zm_L} {call : Nat → List zm_v → zm_u → Option (Option zm_v × zm_u)} {y : zm_S ⊕ (Option zm_v × zm_u)} (h : zm_s2 sh call q l st μ = some y) :
    (∃ x, y = .inr x ∧ zm_s2 sh call q l2 st μ = some (.inr x)) ∨ ∃ pc' st' μ', y = .inl (pc', l, st', μ') ∧ zm_s2 sh call q l2 st μ = some (.inl (pc', l2, st', μ')) := by
  obtain ⟨pc, nx, op, a, b, k, sw⟩ := q
  unfold zm_s2 at h ⊢
  simp only at h ⊢
  split at h
  · split at h
    · cases h; exact Or.inr ⟨_, _, _, rfl, rfl⟩
    · cases h
  · split at h
    · cases h; exact Or.inr ⟨_, _, _, rfl, rfl⟩
    · cases h
  · split at h
    · cases h; exact Or.inr ⟨_, _, _, rfl, rfl⟩
    · cases h
  · split at h
    · cases h; exact Or.inl ⟨_, rfl, rfl⟩
    · cases h
  · split at h
    · cases h; exact Or.inl ⟨_, rfl, rfl⟩
    · cases h
  · cases hb : (Nat.ble b st.length && Nat.ble (st.drop b).length 8) with
    | false => rw [hb] at h; cases h
    | true =>
      rw [hb] at h
      simp only [cond_true] at h ⊢
      split at h
      · rename_i r μ1 hc
        cases h
        exact Or.inr ⟨_, _, _, rfl, by first | rfl | rw [hc]⟩
      · cases h
  · cases hb : (Nat.ble b st.length && Nat.ble (st.drop b).length 8 && zm_is sh k.toNatClampNeg (st.take b).reverse) with
    | false => rw [hb] at h; cases h
    | true =>
      rw [hb] at h
      simp only [cond_true] at h ⊢
      split at h
      · rename_i r μ1 hc
        cases h
        exact Or.inr ⟨_, _, _, rfl, by first | rfl | rw [hc]⟩
      · cases h
  · split at h
    · rename_i v
      cases hv : decide (v = 0 ∨ v = 1) with
      | false => rw [hv] at h; cases h
      | true => rw [hv] at h; cases h; exact Or.inl ⟨_, rfl, rfl⟩
    · cases h
  · cases h
theorem zm_s2_op {q : zm_q} {l : zm_L} {call : Nat → List zm_v → zm_u → Option (Option zm_v × zm_u)} {y : zm_S ⊕ (Option zm_v × zm_u)} (h : zm_s2 sh call q l st μ = some y) : 30 ≤ q.2.2.1 := by
  obtain ⟨pc, nx, op, a, b, k, sw⟩ := q
  unfold zm_s2 at h
  simp only at h ⊢
  split at h
  all_goals first
    | decide
    | (cases h; done)
theorem zm_loop_le {call : Nat → List zm_v → zm_u → Option (Option zm_v × zm_u)} {t : List zm_q} {x : Option zm_v × zm_u} : ∀ (f pc : Nat) (l l2 : zm_L) (st : List zm_v) (μ : zm_u), zm_le l l2 → zm_loop sh X call t f pc l st μ = some x → zm_loop sh X call t f pc l2 st μ = some x := by
  intro f
  induction f with
  | zero => intro pc l l2 st μ _ h; cases h
  | succ f ih =>
    intro pc l l2 st μ hle h
    unfold zm_loop at h ⊢
    cases hq : zm_at t pc with
    | none => rw [hq] at h; cases h
    | some q =>
      rw [hq] at h
      simp only at h ⊢
      unfold zm_st at h ⊢
      cases h1 : zm_s1 sh X q l st μ with
      | some y =>
        obtain ⟨bs, pc', l', st', μ'⟩ := y
        obtain ⟨l2', h2, hle'⟩ := zm_s1_le hle h1
        rw [h1] at h
        rw [h2]
        simp only at h ⊢
        cases hb : bs.all id with
        | false => rw [hb] at h; cases h
        | true =>
          rw [hb] at h
          exact ih pc' l' l2' st' μ' hle' h
      | none =>
        rw [h1] at h
        simp only at h
        cases h2 : zm_s2 sh call q l st μ with
        | none => rw [h2] at h; cases h
        | some y =>
          have hop := zm_s2_op h2
          have h3 : zm_s1 sh X q l2 st μ = none := zm_s1_hi hop
          rw [h3]
          simp only
          rw [h2] at h
          rcases zm_s2_le (l2 := l2) h2 with ⟨x', rfl, g2⟩ | ⟨pc', st', μ', rfl, g2⟩
          · rw [g2]; exact h
          · rw [g2]; exact ih pc' l l2 st' μ' hle h
def zm_pick (l : zm_L) (is : List Nat) : zm_L := match is with
  | [] => []
  | i :: r => match zm_get l i with
    | some v => (i, v) :: zm_pick l r
    | none => zm_pick l r
theorem zm_pick_le (l : zm_L) : ∀ is : List Nat, zm_le (zm_pick l is) l := by
  intro is
  induction is with
  | nil => intro i v h; cases h
  | cons i r ih =>
    intro j v h
    unfold zm_pick at h
    cases hg : zm_get l i with
    | none => rw [hg] at h; exact ih j v h
    | some w =>
      rw [hg] at h
      have h' : cond (Nat.beq i j) (some w) (zm_get (zm_pick l r) j) = some v := h
      cases hb : Nat.beq i j with
      | true =>
        rw [hb] at h'
        rw [← Nat.eq_of_beq_eq_true hb, hg]
        exact h'
      | false => rw [hb] at h'; exact ih j v h'
theorem zm_V_pick {l l' : zm_L} (is : List Nat) (hp : zm_pick l is = l') (h : zm_V sh cd X d n pc l' st μ post) : zm_V sh cd X d n pc l st μ post := by
  subst hp
  obtain ⟨F, r, μ', h1, h2⟩ := h
  exact ⟨F, r, μ', zm_loop_le F pc _ _ st μ (zm_pick_le l is) h1, h2⟩
end ZN
theorem zm_bc {A : Prop} {i : Decidable A} {bs : List Bool} (h : A) (t : bs.all id = true) : ((@decide A i) :: bs).all id = true := by
  rw [List.all_cons, t, Bool.and_true]
  exact decide_eq_true h
theorem zm_bt {b : Bool} {bs : List Bool} (h : b = true) (t : bs.all id = true) : (b :: bs).all id = true := by
  rw [List.all_cons, t, Bool.and_true]
  exact h
def zpi (P : Int32 → zm_u → Prop) : Option zm_v → zm_u → Prop := fun r μ => ∃ v : Int32, r = some (.inl v) ∧ P v μ
def zpo (P : zm_u → Prop) : Option zm_v → zm_u → Prop := fun r μ => r = none ∧ P μ
end
section
/-! the small machine's runs are runs of the machine -/
theorem zb_ne {a b : Nat} (h : a ≠ b) : Nat.beq a b = false := by
  cases hb : Nat.beq a b with
  | false => rfl
  | true => exact absurd (Nat.eq_of_beq_eq_true hb) h
theorem zb_of {a b : Nat} (h : Nat.beq a b = false) : a ≠ b := by
  intro e
  subst e
  rw [Nat.beq_refl] at h
  cases h
def zw_v (ad : Nat → Nat) (x : zm_v) : Value := match x with
  | .inl i => .int i
  | .inr j => .ref (ad j)
def zw_f (ad : Nat → Nat) (μ : zm_u) (i f : Nat) (o : Option Nat) : Value := match o with
  | none => .int (μ i f)
  | some j => .ref (ad j)
def zw_e (ad : Nat → Nat) (cA cB : ClassId) (μ : zm_u) (i : Nat) (x : zm_h) : Nat × va_E := (ad i, match x with
  | .inl a => .inl (cond a.2 cB cA, a.1, .inl (μ i))
  | .inr o => .inr (o.1, o.2.mapIdx (zw_f ad μ i)))
def zw_W (sh : List zm_h) (ad : Nat → Nat) (cA cB : ClassId) (μ : zm_u) : va_W := sh.mapIdx (zw_e ad cA cB μ)
def zw_l (ad : Nat → Nat) (l : zm_L) : List (Nat × Value) := l.map (fun q => (q.1, zw_v ad q.2))
def zw_A (sh : List zm_h) (ad : Nat → Nat) : Nat → Prop := fun q => ∃ i : Nat, i < sh.length ∧ q = ad i
theorem zw_at {sh : List zm_h} {ad : Nat → Nat} {cA cB : ClassId} {μ : zm_u} {k : Nat} {x : zm_h} (h : sh[k]? = some x) : (zw_W sh ad cA cB μ)[k]? = some (zw_e ad cA cB μ k x) := by
  unfold zw_W
  rw [List.getElem?_mapIdx, h]
  rfl
theorem zw_of {sh : List zm_h} {ad : Nat → Nat} {cA cB : ClassId} {μ : zm_u} {k : Nat} {q : Nat × va_E} (h : (zw_W sh ad cA cB μ)[k]? = some q) : ∃ x, sh[k]? = some x ∧ q = zw_e ad cA cB μ k x := by
  unfold zw_W at h
  rw [List.getElem?_mapIdx] at h
  cases hx : sh[k]? with
  | none => rw [hx] at h; cases h
  | some x => rw [hx] at h; exact ⟨x, rfl, (Option.some.inj h).symm⟩
theorem zw_e_of {ad : Nat → Nat} {cA cB : ClassId} {μ μ' : zm_u} {k : Nat} {x : zm_h} (h : μ' k = μ k) : zw_e ad cA cB μ' k x = zw_e ad cA cB μ k x := by
  have hf : zw_f ad μ' k = zw_f ad μ k := by
    funext f o
    cases o <;> simp [zw_f, h]
  unfold zw_e
  rw [h, hf]
theorem zw_set {sh : List zm_h} {ad : Nat → Nat} {cA cB : ClassId} {μ μ' : zm_u} {j : Nat} {x : zm_h} (hx : sh[j]? = some x) (h : ∀ k, k ≠ j → μ' k = μ k) : (zw_W sh ad cA cB μ).set j (zw_e ad cA cB μ' j x) = zw_W sh ad cA cB μ' := by
  apply List.ext_getElem?
  intro k
  rw [List.getElem?_set]
  by_cases hk : j = k
  · subst hk
    have hl : j < (zw_W sh ad cA cB μ).length := by
      unfold zw_W
      rw [List.length_mapIdx]
      exact (List.getElem?_eq_some_iff.mp hx).1
    rw [if_pos rfl, if_pos hl, zw_at hx]
  · rw [if_neg hk]
    unfold zw_W
    rw [List.getElem?_mapIdx, List.getElem?_mapIdx]
    cases sh[k]? with
    | none => rfl
    | some y => exact congrArg some (zw_e_of (h k (fun e => hk e.symm))).symm
theorem zm_up_row {μ : zm_u} {j i k : Nat} {v : Int32} (h : k ≠ j) : zm_up μ j i v k = μ k := by
  funext z
  unfold zm_up
  rw [zb_ne h]
  rfl
theorem zm_up_self {μ : zm_u} {j i : Nat} {v : Int32} : zm_up μ j i v j = upd (μ j) i v := by
  funext z
  unfold zm_up upd
  rw [Nat.beq_refl]
  by_cases h : z = i
  · subst h
    simp
  · rw [zb_ne h, if_neg h]
    rfl
theorem zw_seta {sh : List zm_h} {ad : Nat → Nat} {cA cB : ClassId} {μ : zm_u} {j n : Nat} {z : Bool} (hx : sh[j]? = some (.inl (n, z))) (i : Nat) (v : Int32) :
    (zw_W sh ad cA cB μ).set j (ad j, .inl (cond z cB cA, n, .inl (upd (μ j) i v))) = zw_W sh ad cA cB (zm_up μ j i v) := by
  rw [← zw_set (μ := μ) (μ' := zm_up μ j i v) hx (fun k hk => zm_up_row hk)]
  unfold zw_e
  rw [zm_up_self]
theorem zw_setf {sh : List zm_h} {ad : Nat → Nat} {cA cB : ClassId} {μ : zm_u} {j ci a : Nat} {fs : List (Option Nat)} (hx : sh[j]? = some (.inr (ci, fs))) (ha : fs[a]? = some none) (v : Int32) :
    (zw_W sh ad cA cB μ).set j (ad j, .inr (ci, (fs.mapIdx (zw_f ad μ j)).set a (.int v))) = zw_W sh ad cA cB (zm_up μ j a v) := by
  rw [← zw_set (μ := μ) (μ' := zm_up μ j a v) hx (fun k hk => zm_up_row hk)]
  unfold zw_e
  congr 4
  apply List.ext_getElem?
  intro k
  rw [List.getElem?_set]
  by_cases hk : a = k
  · subst hk
    have hl : a < (fs.mapIdx (zw_f ad μ j)).length := by
      rw [List.length_mapIdx]
      exact (List.getElem?_eq_some_iff.mp ha).1
    rw [if_pos rfl, if_pos hl, List.getElem?_mapIdx, ha]
    show _ = some (Value.int (zm_up μ j a v j a))
    rw [zm_up_self]
    simp [upd]
  · rw [if_neg hk, List.getElem?_mapIdx, List.getElem?_mapIdx]
    cases fs[k]? with
    | none => rfl
    | some y =>
      refine congrArg some ?_
      cases y with
      | none =>
        show Value.int (μ j k) = Value.int (zm_up μ j a v j k)
        rw [zm_up_self]
        simp [upd, Ne.symm hk]
      | some t => rfl
theorem zw_D {sh : List zm_h} {ad : Nat → Nat} {cA cB : ClassId} {μ : zm_u} (hi : ∀ i j : Nat, i < sh.length → j < sh.length → ad i = ad j → i = j) : va_D (zw_A sh ad) (zw_W sh ad cA cB μ) := by
  refine ⟨fun i j p q hp hq e => ?_, fun k q hq => ?_⟩
  · obtain ⟨x, hx, rfl⟩ := zw_of hp
    obtain ⟨y, hy, rfl⟩ := zw_of hq
    exact hi i j (List.getElem?_eq_some_iff.mp hx).1 (List.getElem?_eq_some_iff.mp hy).1 e
  · obtain ⟨x, hx, rfl⟩ := zw_of hq
    exact ⟨k, (List.getElem?_eq_some_iff.mp hx).1, rfl⟩
theorem zw_lget {ad : Nat → Nat} : ∀ {l : zm_L} {i : Nat} {v : zm_v}, zm_get l i = some v → (i, zw_v ad v) ∈ zw_l ad l := by
  intro l
  induction l with
  | nil => intro i v h; cases h
  | cons q r ih =>
    obtain ⟨j, w⟩ := q
    intro i v h
    unfold zm_get at h
    cases hb : Nat.beq j i with
    | true =>
      rw [hb] at h
      have e := Nat.eq_of_beq_eq_true hb
      cases h
      subst e
      exact List.mem_cons_self
    | false =>
      rw [hb] at h
      exact List.mem_cons_of_mem _ (ih h)
theorem zw_lset_mem {i : Nat} {v : zm_v} : ∀ {l : zm_L} {q : Nat × zm_v}, q ∈ zm_set l i v → q = (i, v) ∨ q ∈ l := by
  intro l
  induction l with
  | nil => intro q h; exact Or.inl (List.mem_singleton.mp h)
  | cons x r ih =>
    obtain ⟨j, w⟩ := x
    intro q h
    unfold zm_set at h
    cases hb : Nat.beq i j with
    | true =>
      rw [hb] at h
      rcases List.mem_cons.mp h with h | h
      · exact Or.inl h
      · exact Or.inr (List.mem_cons_of_mem _ h)
    | false =>
      rw [hb] at h
      simp only [cond_false] at h
      cases hl : Nat.ble i j with
      | true =>
        rw [hl] at h
        rcases List.mem_cons.mp h with h | h
        · exact Or.inl h
        · exact Or.inr h
      | false =>
        rw [hl] at h
        rcases List.mem_cons.mp h with h | h
        · exact Or.inr (by rw [h]; exact List.mem_cons_self)
        · rcases ih h with h | h
          · exact Or.inl h
          · exact Or.inr (List.mem_cons_of_mem _ h)
/-- locals in rising order -/
def zm_srt (l : zm_L) : Bool := match l with
  | [] => true
  | (i, _) :: r => r.all (fun q => Nat.blt i q.1) && zm_srt r
theorem zm_set_lt {i k : Nat} {v : zm_v} {l : zm_L} (h : l.all (fun q => Nat.blt k q.1) = true) (hk : k < i) : (zm_set l i v).all (fun q => Nat.blt k q.1) = true := by
  rw [List.all_eq_true] at h ⊢
  intro q hq
  rcases zw_lset_mem hq with rfl | hq
  · simpa using hk
  · exact h q hq
theorem zm_set_srt {i : Nat} {v : zm_v} : ∀ {l : zm_L}, zm_srt l = true → zm_srt (zm_set l i v) = true ∧ ∀ q ∈ zm_set l i v, q = (i, v) ∨ (q ∈ l ∧ q.1 ≠ i) := by
  intro l
  induction l with
  | nil => intro _; exact ⟨rfl, fun q h => Or.inl (List.mem_singleton.mp h)⟩
  | cons x r ih =>
    obtain ⟨j, w⟩ := x
    intro h
    unfold zm_srt at h
    rw [Bool.and_eq_true] at h
    obtain ⟨h1, h2⟩ := h
    have h1' : ∀ q ∈ r, j < q.1 := by
      rw [List.all_eq_true] at h1
      intro q hq
      simpa using h1 q hq
    unfold zm_set
    cases hb : Nat.beq i j with
    | true =>
      have e := Nat.eq_of_beq_eq_true hb
      subst e
      simp only [cond_true]
      refine ⟨by unfold zm_srt; rw [Bool.and_eq_true]; exact ⟨h1, h2⟩, fun q hq => ?_⟩
      rcases List.mem_cons.mp hq with hq | hq
      · exact Or.inl hq
      · exact Or.inr ⟨List.mem_cons_of_mem _ hq, by have := h1' q hq; omega⟩
    | false =>
      have hne : i ≠ j := zb_of hb
      simp only [cond_false]
      cases hl : Nat.ble i j with
      | true =>
        have hle : i ≤ j := Nat.le_of_ble_eq_true hl
        simp only [cond_true]
        refine ⟨?_, fun q hq => ?_⟩
        · unfold zm_srt
          rw [Bool.and_eq_true]
          refine ⟨?_, by unfold zm_srt; rw [Bool.and_eq_true]; exact ⟨h1, h2⟩⟩
          rw [List.all_eq_true]
          intro q hq
          rcases List.mem_cons.mp hq with rfl | hq
          · show Nat.blt i j = true
            simp; omega
          · have := h1' q hq
            simp; omega
        · rcases List.mem_cons.mp hq with hq | hq
          · exact Or.inl hq
          · refine Or.inr ⟨hq, ?_⟩
            rcases List.mem_cons.mp hq with rfl | hq
            · exact fun e => hne e.symm
            · have := h1' q hq
              omega
      | false =>
        have hlt : j < i := by
          have h0 : ¬ i ≤ j := fun z => by rw [Nat.ble_eq_true_of_le z] at hl; cases hl
          omega
        simp only [cond_false]
        obtain ⟨g1, g2⟩ := ih h2
        refine ⟨?_, fun q hq => ?_⟩
        · unfold zm_srt
          rw [Bool.and_eq_true]
          exact ⟨zm_set_lt h1 hlt, g1⟩
        · rcases List.mem_cons.mp hq with rfl | hq
          · exact Or.inr ⟨List.mem_cons_self, fun e => hne e.symm⟩
          · rcases g2 q hq with h | ⟨h, h'⟩
            · exact Or.inl h
            · exact Or.inr ⟨List.mem_cons_of_mem _ h, h'⟩
end
section
abbrev zw_Tb : Type := List (Nat × Nat × Nat × Nat)
def zw_lk (big nest : List Cond) (o : String) (i : Nat) (C n d : String) : Prop := Cond.fieldLink o i C n d ∈ big ∨ ∃ h : String, Cond.fieldLinkNest o i C n d h ∈ nest
/-- what the tables of links say -/
def zw_fl (cl : List vw_C) (big nest : List Cond) (cn : Nat → String) (x : Nat × Nat × Nat × Nat) : Prop := ∃ (C : String) (T : u_T) (N : Nat), cl[x.2.2.1]? = some (C, T, N) ∧ x.2.2.2 < N ∧ (T x.2.2.2).1 = C ∧ zw_lk big nest (cn x.1) x.2.1 C (T x.2.2.2).2.1 (T x.2.2.2).2.2.1
def zw_pl (ds : String) (cl : List vw_C) (x : Nat × Nat × Nat × Nat) : Prop := ∃ (C : String) (T : u_T) (N : Nat), cl[x.2.2.1]? = some (C, T, N) ∧ (T x.2.2.2).2.2.2 = false ∧ (T x.2.2.2).2.2.1 = ds
def zw_K (cl : List vw_C) (big nest : List Cond) (cn : Nat → String) (tb : Nat → zw_Tb) : Prop :=
  (∀ x ∈ tb 0, zw_fl cl big nest cn x) ∧ (∀ x ∈ tb 1, zw_fl cl big nest cn x ∧ zw_pl "I" cl x) ∧ (∀ x ∈ tb 2, zw_fl cl big nest cn x ∧ zw_pl "Z" cl x) ∧
  (∀ (c : Nat) (q : vw_C), cl[c]? = some q → (∀ w ∈ u_ws q.1 q.2.1 q.2.2, w ∈ big) ∧ (∃ ty : Nat → FieldType, ∀ k, k < q.2.2 → parseFieldDescriptor (q.2.1 k).2.2.1 = some (ty k)) ∧ (∀ a, a < q.2.2 → ∀ b, b < q.2.2 → a ≠ b → (q.2.1 a).2.1 ≠ (q.2.1 b).2.1)) ∧
  (∀ x ∈ tb 5, zw_lk big nest (cn x.1) x.2.1 "RigidCases" "PARTS" "[I") ∧
  (∀ x ∈ tb 6, Cond.methodLink (cn x.1) x.2.1 Lib.Math.max.name ∈ big ∧ Cond.static Lib.Math.max.name ∈ big ∧ Cond.initialized "java/lang/Math" ∈ big ∧ Cond.code Lib.Math.max.name Lib.Math.max.code 2 (some .int) ∈ big) ∧
  (∀ x ∈ tb 7, Cond.methodLink (cn x.1) x.2.1 arraycopyName ∈ big ∧ Cond.native arraycopyName ∈ big ∧ Cond.static arraycopyName ∈ big ∧ Cond.initialized "java/lang/System" ∈ big) ∧
  (∀ x ∈ tb 8, Cond.constant (cn x.1) x.2.1 (Int32.ofNat x.2.2.1) ∈ big)
def zw_F (sh : List zm_h) (X : zm_T) (ad : Nat → Nat) (cA cB : ClassId) (D : va_G) (cl : List vw_C) (nest : List Cond) (U : State) : Prop :=
  va_K D cl [(cA, .int), (cB, .boolean)] U ∧ (∀ w ∈ nest, va_Nw w U) ∧ va_Z "RigidCases" "PARTS" "[I" (.ref (ad 100)) (zw_A sh ad) U U.heap ∧ va_T .int (ad 100) 18 (fun j => .int (zm_pt j)) (zw_A sh ad) U U.heap ∧ va_T .int (ad 101) X.1 (fun j => .int (X.2 j)) (zw_A sh ad) U U.heap
/-- a frame's standing facts -/
def zw_C (p : Program) (m : MethodId) (c : Code) (cc : ByteArray) (nL : Nat) (s : State) (args : Array Value) (big : List Cond) (on : String) (sh : List zm_h) (X : zm_T) (ad : Nat → Nat) (cA cB : ClassId) (D : va_G) (cl : List vw_C) (nest : List Cond) : Prop :=
  p.tables.exec = Jvm.exec ∧ c.code = cc ∧ c.maxLocals = nL ∧ s.vm.findClass on = some m.cls ∧ (∀ w ∈ big, w.before args s = true) ∧ zw_F sh X ad cA cB D cl nest s ∧ (∀ i j : Nat, i < sh.length → j < sh.length → ad i = ad j → i = j)
def zw_tsw (pc : Nat) (lo : Int) (os : List Int) : List (Int32 × Nat) := match os with
  | [] => []
  | o :: r => (Int32.ofInt lo, ((pc : Int) + o).toNat) :: zw_tsw pc (lo + 1) r
def zw_cnd (b : Nat) : ClassFile.Cond := match b with
  | 0 => .eq
  | 1 => .ne
  | 2 => .lt
  | 3 => .ge
  | 4 => .gt
  | _ => .le
/-- the bytes say what the small machine's table says -/
def zw_ck (cc : ByteArray) (own nL : Nat) (ret : Option FieldType) (tb : Nat → zw_Tb) (np : Nat → Nat) (q : zm_q) : Bool :=
  match q with
  | (pc, nx, op, a, b, k, sw) => match decode cc pc with
    | .error _ => false
    | .ok (ins, len) => Nat.beq nx (pc + len) && (match op with
      | 0 => match ins with
        | .iconst i => Nat.beq len 1 && decide (Int32.ofInt i = k)
        | .bipush i => Nat.beq len 2 && decide ((Int8.ofInt i).toInt32 = k)
        | .sipush i => Nat.beq len 3 && decide ((Int16.ofInt i).toInt32 = k)
        | _ => false
      | 1 => match ins with
        | .iload_n j => Nat.beq len 1 && Nat.beq j.val a
        | .iload j => Nat.beq len 2 && Nat.beq j a
        | _ => false
      | 2 => match ins with
        | .istore_n j => Nat.beq len 1 && (Nat.beq j.val a && Nat.blt a nL)
        | .istore j => Nat.beq len 2 && (Nat.beq j a && Nat.blt a nL)
        | _ => false
      | 3 => match ins with
        | .iinc j i => Nat.beq len 3 && (Nat.beq j a && (Nat.blt a nL && decide (Int32.ofInt i = k)))
        | _ => false
      | 4 => match ins with
        | .getfield i => Nat.beq len 3 && (tb 0).contains (own, i, b, a)
        | _ => false
      | 5 => match ins with
        | .putfield i => Nat.beq len 3 && (tb 1).contains (own, i, b, a)
        | _ => false
      | 6 => match ins with
        | .iaload => Nat.beq len 1
        | _ => false
      | 7 => match ins with
        | .iastore => Nat.beq len 1
        | _ => false
      | 8 => match ins with
        | .baload => Nat.beq len 1
        | _ => false
      | 9 => match ins with
        | .bastore => Nat.beq len 1
        | _ => false
      | 10 => match ins with
        | .iadd => Nat.beq len 1
        | _ => false
      | 11 => match ins with
        | .isub => Nat.beq len 1
        | _ => false
      | 12 => match ins with
        | .imul => Nat.beq len 1
        | _ => false
      | 13 => match ins with
        | .iand => Nat.beq len 1
        | _ => false
      | 14 => match ins with
        | .ishl => Nat.beq len 1
        | _ => false
      | 15 => match ins with
        | .ishr => Nat.beq len 1
        | _ => false
      | 16 => match ins with
        | .dup => Nat.beq len 1
        | _ => false
      | 17 => match ins with
        | .dup2 => Nat.beq len 1
        | _ => false
      | 18 => match ins with
        | .pop => Nat.beq len 1
        | _ => false
      | 20 => match ins with
        | .iaload => Nat.beq len 1
        | _ => false
      | 22 => match ins with
        | .arraylength => Nat.beq len 1
        | _ => false
      | 23 => match ins with
        | .iushr => Nat.beq len 1
        | _ => false
      | 19 => match ins with
        | .goto o => Nat.beq len 3 && decide ((pc : Int) + o = (a : Int))
        | _ => false
      | 21 => match ins with
        | .getstatic i => Nat.beq len 3 && (tb 5).contains (own, i, 0, 0)
        | _ => false
      | 24 => match ins with
        | .putfield i => Nat.beq len 3 && (tb 2).contains (own, i, b, a)
        | _ => false
      | 25 => match ins with
        | .invokestatic i => Nat.beq len 3 && (tb 6).contains (own, i, 0, 0)
        | _ => false
      | 26 => match ins with
        | .invokestatic i => Nat.beq len 3 && (tb 7).contains (own, i, 0, 0)
        | _ => false
      | 27 => match ins with
        | .aload_n j => Nat.beq len 1 && Nat.beq j.val a
        | .aload j => Nat.beq len 2 && Nat.beq j a
        | _ => false
      | 28 => match ins with
        | .ldc i => Nat.beq len 2 && ((tb 8).contains (own, i, a, 0) && decide (Int32.ofNat a = k))
        | .ldc_w i => Nat.beq len 3 && ((tb 8).contains (own, i, a, 0) && decide (Int32.ofNat a = k))
        | _ => false
      | 30 => match ins with
        | .ifCond cd o => Nat.beq len 3 && (decide (cd = zw_cnd b) && decide ((pc : Int) + o = (a : Int)))
        | _ => false
      | 31 => match ins with
        | .if_icmp cd o => Nat.beq len 3 && (decide (cd = zw_cnd b) && decide ((pc : Int) + o = (a : Int)))
        | _ => false
      | 32 => match ins with
        | .tableswitch df lo hi os => decide ((pc : Int) + df = (a : Int)) && (decide (sw = zw_tsw pc lo os.toList) && (decide (hi = lo + (os.size : Int) - 1) && (decide (-1000 ≤ lo ∧ lo ≤ 1000 ∧ os.size ≤ 1000) && os.toList.all (fun o => decide (0 ≤ (pc : Int) + o)))))
        | .lookupswitch df ps => decide ((pc : Int) + df = (a : Int)) && (decide (sw = ps.toList.map (fun y => (Int32.ofInt y.1, ((pc : Int) + y.2).toNat))) && ((ps.toList.zip (ps.toList.drop 1)).all (fun (a, next) => a.1 < next.1) && ps.toList.all (fun y => decide (0 ≤ (pc : Int) + y.2 ∧ -1000 ≤ y.1 ∧ y.1 ≤ 1000))))
        | _ => false
      | 33 => match ins with
        | .ireturn => Nat.beq len 1 && decide (ret = some .int)
        | _ => false
      | 34 => match ins with
        | .return_ => Nat.beq len 1 && decide (ret = none)
        | _ => false
      | 35 => match ins with
        | .invokestatic i => Nat.beq len 3 && ((tb 3).contains (own, i, a, b) && Nat.beq b (np a))
        | _ => false
      | 36 => match ins with
        | .invokevirtual i => Nat.beq len 3 && ((tb 4).contains (own, i, a, k.toNatClampNeg) && Nat.beq b (np a + 1))
        | _ => false
      | 37 => match ins with
        | .ireturn => Nat.beq len 1 && decide (ret = some .boolean)
        | _ => false
      | _ => false)
theorem zw_lvset {ls : Array Slot} {nL i : Nat} {v : zm_v} {lo : zm_L} {ad : Nat → Nat} (h : lv_has ls nL ((i, zw_v ad v) :: (zw_l ad lo).filter (fun q => !(q.1 == i) && !(q.1 + 1 == i && q.2.category == 2)))) (hs : zm_srt lo = true) : lv_has ls nL (zw_l ad (zm_set lo i v)) := by
  refine ⟨h.1, h.2.1, fun q hq => h.2.2 q ?_⟩
  obtain ⟨x, hx, rfl⟩ := List.mem_map.mp hq
  rcases (zm_set_srt hs).2 x hx with rfl | ⟨h1, h2⟩
  · exact List.mem_cons_self
  · refine List.mem_cons_of_mem _ (List.mem_filter.mpr ⟨List.mem_map.mpr ⟨x, h1, rfl⟩, ?_⟩)
    have hc : (zw_v ad x.2).category = 1 := by
      cases x.2 <;> rfl
    simp [h2, hc]
theorem zw_lvat {ls : Array Slot} {nL i : Nat} {v : zm_v} {lo : zm_L} {ad : Nat → Nat} (h : lv_has ls nL (zw_l ad lo)) (hg : zm_get lo i = some v) : ls[i]? = some (.val (zw_v ad v)) := h.2.2 _ (zw_lget hg)
theorem zw_all1 {b : Bool} (h : [b].all id = true) : b = true := by simpa using h
theorem zw_vin {i : Int32} {n : Nat} (h : [decide (0 ≤ i.toInt ∧ i.toInt < (n : Int))].all id = true) : vp_in i n := vp_in_iff.mpr (of_decide_eq_true (zw_all1 h))
section ZX
variable {p : Program} {l : Launch} {e : Env} {R : Room} {s : State} {m : MethodId} {args : Array Value} {below : List Frame} {meth : Method} {c : Code} {cells slots : Nat} {Q : State → Prop}
variable {sh : List zm_h} {X : zm_T} {ad : Nat → Nat} {cA cB : ClassId} {D : va_G} {cl : List vw_C} {big nest : List Cond} {tb : Nat → zw_Tb} {cn : Nat → String} {cc : ByteArray} {nL own : Nat} {ret : Option FieldType} {np : Nat → Nat}
variable {pc nx a b : Nat} {k : Int32} {sw : List (Int32 × Nat)} {lo lo' : zm_L} {st st' : List zm_v} {μ μ' : zm_u} {bs : List Bool} {pc' : Nat} {H : Heap} {locs : List Loc} {ls : Array Slot}
theorem zw_o0 (S : zw_C p m c cc nL s args big (cn own) sh X ad cA cB D cl nest) (K : zw_K cl big nest cn tb) (hR : 1 ≤ R.frames ∧ 40 ≤ R.locals ∧ cells ≤ R.cells ∧ slots ≤ R.slots) (hck : zw_ck cc own nL ret tb np (pc, nx, 0, a, b, k, sw) = true) (h : zm_s1 sh X (pc, nx, 0, a, b, k, sw) lo st μ = some (bs, pc', lo', st', μ')) (hb : bs.all id = true)
    (hP : va_P D cl (zw_W sh ad cA cB μ) H) (hS : va_S (zw_A sh ad) s.heap H locs) (hl : lv_has ls nL (zw_l ad lo)) (hs : zm_srt lo = true)
    (kk : ∀ (H1 : Heap) (locs1 : List Loc) (ls1 : Array Slot), va_P D cl (zw_W sh ad cA cB μ') H1 → va_S (zw_A sh ad) s.heap H1 locs1 → lv_has ls1 nL (zw_l ad lo') → zm_srt lo' = true → W p l e R s m args below meth c H1 locs1 cells slots Q (F0 m pc' ls1 (st'.map (zw_v ad)))) :
    W p l e R s m args below meth c H locs cells slots Q (F0 m pc ls (st.map (zw_v ad))) := by
  obtain ⟨hx, hc, hml, hown, hts, hF, hinj⟩ := S
  simp only [zw_ck] at hck
  split at hck
  · cases hck
  rename_i ins len hd
  rw [Bool.and_eq_true] at hck
  obtain ⟨hnx, hck⟩ := hck
  have hnx := Nat.eq_of_beq_eq_true hnx
  simp only [zm_s1] at h
  cases h
  split at hck
  · simp only [Bool.and_eq_true, decide_eq_true_eq] at hck
    obtain ⟨h1, h2⟩ := hck
    have h1 := Nat.eq_of_beq_eq_true h1
    subst h1
    subst hnx
    exact lv_iconst hx hc hd h2 (kk H locs ls hP hS hl hs)
  · simp only [Bool.and_eq_true, decide_eq_true_eq] at hck
    obtain ⟨h1, h2⟩ := hck
    have h1 := Nat.eq_of_beq_eq_true h1
    subst h1
    subst hnx
    exact lv_bipush hx hc hd h2 (kk H locs ls hP hS hl hs)
  · simp only [Bool.and_eq_true, decide_eq_true_eq] at hck
    obtain ⟨h1, h2⟩ := hck
    have h1 := Nat.eq_of_beq_eq_true h1
    subst h1
    subst hnx
    exact lv_sipush hx hc hd h2 (kk H locs ls hP hS hl hs)
  · cases hck
theorem zw_o1 (S : zw_C p m c cc nL s args big (cn own) sh X ad cA cB D cl nest) (K : zw_K cl big nest cn tb) (hR : 1 ≤ R.frames ∧ 40 ≤ R.locals ∧ cells ≤ R.cells ∧ slots ≤ R.slots) (hck : zw_ck cc own nL ret tb np (pc, nx, 1, a, b, k, sw) = true) (h : zm_s1 sh X (pc, nx, 1, a, b, k, sw) lo st μ = some (bs, pc', lo', st', μ')) (hb : bs.all id = true)
    (hP : va_P D cl (zw_W sh ad cA cB μ) H) (hS : va_S (zw_A sh ad) s.heap H locs) (hl : lv_has ls nL (zw_l ad lo)) (hs : zm_srt lo = true)
    (kk : ∀ (H1 : Heap) (locs1 : List Loc) (ls1 : Array Slot), va_P D cl (zw_W sh ad cA cB μ') H1 → va_S (zw_A sh ad) s.heap H1 locs1 → lv_has ls1 nL (zw_l ad lo') → zm_srt lo' = true → W p l e R s m args below meth c H1 locs1 cells slots Q (F0 m pc' ls1 (st'.map (zw_v ad)))) :
    W p l e R s m args below meth c H locs cells slots Q (F0 m pc ls (st.map (zw_v ad))) := by
  obtain ⟨hx, hc, hml, hown, hts, hF, hinj⟩ := S
  simp only [zw_ck] at hck
  split at hck
  · cases hck
  rename_i ins len hd
  rw [Bool.and_eq_true] at hck
  obtain ⟨hnx, hck⟩ := hck
  have hnx := Nat.eq_of_beq_eq_true hnx
  simp only [zm_s1] at h
  split at h
  · rename_i v hv
    cases h
    split at hck
    · rw [Bool.and_eq_true] at hck
      obtain ⟨h1, h2⟩ := hck
      have h1 := Nat.eq_of_beq_eq_true h1
      have h2 := Nat.eq_of_beq_eq_true h2
      subst h1
      subst hnx
      exact lv_iload_n hx hc hd h2 (zw_lvat hl hv) (kk H locs ls hP hS hl hs)
    · rw [Bool.and_eq_true] at hck
      obtain ⟨h1, h2⟩ := hck
      have h1 := Nat.eq_of_beq_eq_true h1
      have h2 := Nat.eq_of_beq_eq_true h2
      subst h1
      subst hnx
      subst h2
      exact lv_iload hx hc hd (zw_lvat hl hv) (kk H locs ls hP hS hl hs)
    · cases hck
  · cases h
theorem zw_o27 (S : zw_C p m c cc nL s args big (cn own) sh X ad cA cB D cl nest) (K : zw_K cl big nest cn tb) (hR : 1 ≤ R.frames ∧ 40 ≤ R.locals ∧ cells ≤ R.cells ∧ slots ≤ R.slots) (hck : zw_ck cc own nL ret tb np (pc, nx, 27, a, b, k, sw) = true) (h : zm_s1 sh X (pc, nx, 27, a, b, k, sw) lo st μ = some (bs, pc', lo', st', μ')) (hb : bs.all id = true)
    (hP : va_P D cl (zw_W sh ad cA cB μ) H) (hS : va_S (zw_A sh ad) s.heap H locs) (hl : lv_has ls nL (zw_l ad lo)) (hs : zm_srt lo = true)
    (kk : ∀ (H1 : Heap) (locs1 : List Loc) (ls1 : Array Slot), va_P D cl (zw_W sh ad cA cB μ') H1 → va_S (zw_A sh ad) s.heap H1 locs1 → lv_has ls1 nL (zw_l ad lo') → zm_srt lo' = true → W p l e R s m args below meth c H1 locs1 cells slots Q (F0 m pc' ls1 (st'.map (zw_v ad)))) :
    W p l e R s m args below meth c H locs cells slots Q (F0 m pc ls (st.map (zw_v ad))) := by
  obtain ⟨hx, hc, hml, hown, hts, hF, hinj⟩ := S
  simp only [zw_ck] at hck
  split at hck
  · cases hck
  rename_i ins len hd
  rw [Bool.and_eq_true] at hck
  obtain ⟨hnx, hck⟩ := hck
  have hnx := Nat.eq_of_beq_eq_true hnx
  simp only [zm_s1] at h
  split at h
  · rename_i v hv
    cases h
    split at hck
    · rw [Bool.and_eq_true] at hck
      obtain ⟨h1, h2⟩ := hck
      have h1 := Nat.eq_of_beq_eq_true h1
      have h2 := Nat.eq_of_beq_eq_true h2
      subst h1
      subst hnx
      exact lv_aload_n hx hc hd h2 (zw_lvat hl hv) (kk H locs ls hP hS hl hs)
    · rw [Bool.and_eq_true] at hck
      obtain ⟨h1, h2⟩ := hck
      have h1 := Nat.eq_of_beq_eq_true h1
      have h2 := Nat.eq_of_beq_eq_true h2
      subst h1
      subst hnx
      subst h2
      exact lv_aload hx hc hd (zw_lvat hl hv) (kk H locs ls hP hS hl hs)
    · cases hck
  · cases h
theorem zw_o2 (S : zw_C p m c cc nL s args big (cn own) sh X ad cA cB D cl nest) (K : zw_K cl big nest cn tb) (hR : 1 ≤ R.frames ∧ 40 ≤ R.locals ∧ cells ≤ R.cells ∧ slots ≤ R.slots) (hck : zw_ck cc own nL ret tb np (pc, nx, 2, a, b, k, sw) = true) (h : zm_s1 sh X (pc, nx, 2, a, b, k, sw) lo st μ = some (bs, pc', lo', st', μ')) (hb : bs.all id = true)
    (hP : va_P D cl (zw_W sh ad cA cB μ) H) (hS : va_S (zw_A sh ad) s.heap H locs) (hl : lv_has ls nL (zw_l ad lo)) (hs : zm_srt lo = true)
    (kk : ∀ (H1 : Heap) (locs1 : List Loc) (ls1 : Array Slot), va_P D cl (zw_W sh ad cA cB μ') H1 → va_S (zw_A sh ad) s.heap H1 locs1 → lv_has ls1 nL (zw_l ad lo') → zm_srt lo' = true → W p l e R s m args below meth c H1 locs1 cells slots Q (F0 m pc' ls1 (st'.map (zw_v ad)))) :
    W p l e R s m args below meth c H locs cells slots Q (F0 m pc ls (st.map (zw_v ad))) := by
  obtain ⟨hx, hc, hml, hown, hts, hF, hinj⟩ := S
  simp only [zw_ck] at hck
  split at hck
  · cases hck
  rename_i ins len hd
  rw [Bool.and_eq_true] at hck
  obtain ⟨hnx, hck⟩ := hck
  have hnx := Nat.eq_of_beq_eq_true hnx
  simp only [zm_s1] at h
  split at h
  · rename_i v r
    cases h
    split at hck
    · simp only [Bool.and_eq_true] at hck
      obtain ⟨h1, h2, h3⟩ := hck
      have h1 := Nat.eq_of_beq_eq_true h1
      have h2 := Nat.eq_of_beq_eq_true h2
      have h3 : a < nL := by simpa using h3
      subst h1
      subst hnx
      exact lv_istore_n hx hc hd h2 hl h3 rfl (fun ls1 hl1 => kk H locs ls1 hP hS (zw_lvset (v := .inl v) hl1 hs) (zm_set_srt hs).1)
    · simp only [Bool.and_eq_true] at hck
      obtain ⟨h1, h2, h3⟩ := hck
      have h1 := Nat.eq_of_beq_eq_true h1
      have h2 := Nat.eq_of_beq_eq_true h2
      have h3 : a < nL := by simpa using h3
      subst h1
      subst hnx
      subst h2
      exact lv_istore hx hc hd hl h3 rfl (fun ls1 hl1 => kk H locs ls1 hP hS (zw_lvset (v := .inl v) hl1 hs) (zm_set_srt hs).1)
    · cases hck
  · cases h
theorem zw_o3 (S : zw_C p m c cc nL s args big (cn own) sh X ad cA cB D cl nest) (K : zw_K cl big nest cn tb) (hR : 1 ≤ R.frames ∧ 40 ≤ R.locals ∧ cells ≤ R.cells ∧ slots ≤ R.slots) (hck : zw_ck cc own nL ret tb np (pc, nx, 3, a, b, k, sw) = true) (h : zm_s1 sh X (pc, nx, 3, a, b, k, sw) lo st μ = some (bs, pc', lo', st', μ')) (hb : bs.all id = true)
    (hP : va_P D cl (zw_W sh ad cA cB μ) H) (hS : va_S (zw_A sh ad) s.heap H locs) (hl : lv_has ls nL (zw_l ad lo)) (hs : zm_srt lo = true)
    (kk : ∀ (H1 : Heap) (locs1 : List Loc) (ls1 : Array Slot), va_P D cl (zw_W sh ad cA cB μ') H1 → va_S (zw_A sh ad) s.heap H1 locs1 → lv_has ls1 nL (zw_l ad lo') → zm_srt lo' = true → W p l e R s m args below meth c H1 locs1 cells slots Q (F0 m pc' ls1 (st'.map (zw_v ad)))) :
    W p l e R s m args below meth c H locs cells slots Q (F0 m pc ls (st.map (zw_v ad))) := by
  obtain ⟨hx, hc, hml, hown, hts, hF, hinj⟩ := S
  simp only [zw_ck] at hck
  split at hck
  · cases hck
  rename_i ins len hd
  rw [Bool.and_eq_true] at hck
  obtain ⟨hnx, hck⟩ := hck
  have hnx := Nat.eq_of_beq_eq_true hnx
  simp only [zm_s1] at h
  split at h
  · rename_i x hv
    cases h
    split at hck
    · simp only [Bool.and_eq_true, decide_eq_true_eq] at hck
      obtain ⟨h1, h2, h3, h4⟩ := hck
      have h1 := Nat.eq_of_beq_eq_true h1
      have h2 := Nat.eq_of_beq_eq_true h2
      have h3 : a < nL := by simpa using h3
      subst h1
      subst hnx
      subst h2
      subst h4
      obtain ⟨z, hz⟩ := List.getElem?_of_mem (zw_lget (ad := ad) hv)
      exact lv_iinc hx hc hd hl hz rfl h3 rfl (fun ls1 hl1 => kk H locs ls1 hP hS (zw_lvset (v := .inl _) hl1 hs) (zm_set_srt hs).1)
    · cases hck
  · cases h
theorem zw_o4 (S : zw_C p m c cc nL s args big (cn own) sh X ad cA cB D cl nest) (K : zw_K cl big nest cn tb) (hR : 1 ≤ R.frames ∧ 40 ≤ R.locals ∧ cells ≤ R.cells ∧ slots ≤ R.slots) (hck : zw_ck cc own nL ret tb np (pc, nx, 4, a, b, k, sw) = true) (h : zm_s1 sh X (pc, nx, 4, a, b, k, sw) lo st μ = some (bs, pc', lo', st', μ')) (hb : bs.all id = true)
    (hP : va_P D cl (zw_W sh ad cA cB μ) H) (hS : va_S (zw_A sh ad) s.heap H locs) (hl : lv_has ls nL (zw_l ad lo)) (hs : zm_srt lo = true)
    (kk : ∀ (H1 : Heap) (locs1 : List Loc) (ls1 : Array Slot), va_P D cl (zw_W sh ad cA cB μ') H1 → va_S (zw_A sh ad) s.heap H1 locs1 → lv_has ls1 nL (zw_l ad lo') → zm_srt lo' = true → W p l e R s m args below meth c H1 locs1 cells slots Q (F0 m pc' ls1 (st'.map (zw_v ad)))) :
    W p l e R s m args below meth c H locs cells slots Q (F0 m pc ls (st.map (zw_v ad))) := by
  obtain ⟨hx, hc, hml, hown, hts, hF, hinj⟩ := S
  simp only [zw_ck] at hck
  split at hck
  · cases hck
  rename_i ins len hd
  rw [Bool.and_eq_true] at hck
  obtain ⟨hnx, hck⟩ := hck
  have hnx := Nat.eq_of_beq_eq_true hnx
  simp only [zm_s1] at h
  split at h
  · rename_i j r
    split at h
    · rename_i ci fs hj
      split at h
      · rename_i hci
        have hci := Nat.eq_of_beq_eq_true hci
        subst hci
        split at hck
        · rw [Bool.and_eq_true] at hck
          obtain ⟨h1, h2⟩ := hck
          have h1 := Nat.eq_of_beq_eq_true h1
          subst h1
          subst hnx
          have h2 := List.contains_iff_mem.mp h2
          obtain ⟨C, T, N, g1, g2, g3, g4⟩ := K.1 _ h2
          have hw := zw_at (ad := ad) (cA := cA) (cB := cB) (μ := μ) hj
          have key : ∀ v : Value, (fs.mapIdx (zw_f ad μ j))[a]? = some v → W p l e R s m args below meth c H locs cells slots Q (F0 m (pc + 3) ls (v :: r.map (zw_v ad))) → W p l e R s m args below meth c H locs cells slots Q (F0 m pc ls (.ref (ad j) :: r.map (zw_v ad))) := by
            intro v hv kv
            rcases g4 with g4 | ⟨ho, g4⟩
            · exact va_get hx hc hts (K.2.2.2.1 _ _ g1).1 hown hF.1 hP j hw g1 a g2 (hts _ g4) (fun x q => by rw [← g3]; exact q) hv hd kv
            · exact va_getN hx hc hts (K.2.2.2.1 _ _ g1).1 hown hF.1 hP j hw g1 a g2 (va_Nw.use rfl (hF.2.1 _ g4)) (fun x q => by rw [← g3]; exact q) hv hd kv
          split at h
          · rename_i hf
            cases h
            exact key _ (by rw [List.getElem?_mapIdx, hf]; rfl) (kk H locs ls hP hS hl hs)
          · rename_i t hf
            cases h
            exact key _ (by rw [List.getElem?_mapIdx, hf]; rfl) (kk H locs ls hP hS hl hs)
          · cases h
        · cases hck
      · cases h
    · cases h
  · cases h
theorem zw_o5 (S : zw_C p m c cc nL s args big (cn own) sh X ad cA cB D cl nest) (K : zw_K cl big nest cn tb) (hR : 1 ≤ R.frames ∧ 40 ≤ R.locals ∧ cells ≤ R.cells ∧ slots ≤ R.slots) (hck : zw_ck cc own nL ret tb np (pc, nx, 5, a, b, k, sw) = true) (h : zm_s1 sh X (pc, nx, 5, a, b, k, sw) lo st μ = some (bs, pc', lo', st', μ')) (hb : bs.all id = true)
    (hP : va_P D cl (zw_W sh ad cA cB μ) H) (hS : va_S (zw_A sh ad) s.heap H locs) (hl : lv_has ls nL (zw_l ad lo)) (hs : zm_srt lo = true)
    (kk : ∀ (H1 : Heap) (locs1 : List Loc) (ls1 : Array Slot), va_P D cl (zw_W sh ad cA cB μ') H1 → va_S (zw_A sh ad) s.heap H1 locs1 → lv_has ls1 nL (zw_l ad lo') → zm_srt lo' = true → W p l e R s m args below meth c H1 locs1 cells slots Q (F0 m pc' ls1 (st'.map (zw_v ad)))) :
    W p l e R s m args below meth c H locs cells slots Q (F0 m pc ls (st.map (zw_v ad))) := by
  obtain ⟨hx, hc, hml, hown, hts, hF, hinj⟩ := S
  simp only [zw_ck] at hck
  split at hck
  · cases hck
  rename_i ins len hd
  rw [Bool.and_eq_true] at hck
  obtain ⟨hnx, hck⟩ := hck
  have hnx := Nat.eq_of_beq_eq_true hnx
  simp only [zm_s1] at h
  split at h
  · rename_i x j r
    split at h
    · rename_i ci fs hj
      split at h
      · rename_i hci
        have hci := Nat.eq_of_beq_eq_true hci
        subst hci
        split at hck
        · rw [Bool.and_eq_true] at hck
          obtain ⟨h1, h2⟩ := hck
          have h1 := Nat.eq_of_beq_eq_true h1
          subst h1
          subst hnx
          have h2 := List.contains_iff_mem.mp h2
          obtain ⟨⟨C, T, N, g1, g2, g3, g4⟩, C', T', N', g1', g5, g6⟩ := K.2.1 _ h2
          have e0 := g1.symm.trans g1'
          cases e0
          have hw := zw_at (ad := ad) (cA := cA) (cB := cB) (μ := μ) hj
          obtain ⟨k1, ⟨ty, k2⟩, k3⟩ := K.2.2.2.1 _ _ g1
          split at h
          · rename_i hf
            cases h
            have hfl : a < (fs.mapIdx (zw_f ad μ j)).length := by
              rw [List.length_mapIdx]
              exact (List.getElem?_eq_some_iff.mp hf).1
            have hty : parseFieldDescriptor (T a).2.2.1 = some .int := by rw [show (T a).2.2.1 = _ from g6]; rfl
            have fin : ∀ (H1 : Heap) (locs1 : List Loc), va_P D cl ((zw_W sh ad cA cB μ).set j (ad j, .inr (ci, (fs.mapIdx (zw_f ad μ j)).set a (.int x)))) H1 → va_D (zw_A sh ad) ((zw_W sh ad cA cB μ).set j (ad j, .inr (ci, (fs.mapIdx (zw_f ad μ j)).set a (.int x)))) → va_S (zw_A sh ad) s.heap H1 locs1 → W p l e R s m args below meth c H1 locs1 cells slots Q (F0 m (pc + 3) ls (st'.map (zw_v ad))) := by
              intro H1 locs1 hP1 _ hS1
              rw [zw_setf hj hf] at hP1
              exact kk H1 locs1 ls hP1 hS1 hl hs
            rcases g4 with g4 | ⟨ho, g4⟩
            · exact va_put hx hc hts k1 ty k2 k3 hown hF.1 hP (zw_D hinj) hS j hw g1 a g2 (hts _ g4) (fun x q => by rw [← g3]; exact q) g5 hty rfl rfl hfl hd fin
            · exact va_putN hx hc hts k1 ty k2 k3 hown hF.1 hP (zw_D hinj) hS j hw g1 a g2 (va_Nw.use rfl (hF.2.1 _ g4)) (fun x q => by rw [← g3]; exact q) g5 hty rfl rfl hfl hd fin
          · cases h
        · cases hck
      · cases h
    · cases h
  · cases h
theorem zw_o24 (S : zw_C p m c cc nL s args big (cn own) sh X ad cA cB D cl nest) (K : zw_K cl big nest cn tb) (hR : 1 ≤ R.frames ∧ 40 ≤ R.locals ∧ cells ≤ R.cells ∧ slots ≤ R.slots) (hck : zw_ck cc own nL ret tb np (pc, nx, 24, a, b, k, sw) = true) (h : zm_s1 sh X (pc, nx, 24, a, b, k, sw) lo st μ = some (bs, pc', lo', st', μ')) (hb : bs.all id = true)
    (hP : va_P D cl (zw_W sh ad cA cB μ) H) (hS : va_S (zw_A sh ad) s.heap H locs) (hl : lv_has ls nL (zw_l ad lo)) (hs : zm_srt lo = true)
    (kk : ∀ (H1 : Heap) (locs1 : List Loc) (ls1 : Array Slot), va_P D cl (zw_W sh ad cA cB μ') H1 → va_S (zw_A sh ad) s.heap H1 locs1 → lv_has ls1 nL (zw_l ad lo') → zm_srt lo' = true → W p l e R s m args below meth c H1 locs1 cells slots Q (F0 m pc' ls1 (st'.map (zw_v ad)))) :
    W p l e R s m args below meth c H locs cells slots Q (F0 m pc ls (st.map (zw_v ad))) := by
  obtain ⟨hx, hc, hml, hown, hts, hF, hinj⟩ := S
  simp only [zw_ck] at hck
  split at hck
  · cases hck
  rename_i ins len hd
  rw [Bool.and_eq_true] at hck
  obtain ⟨hnx, hck⟩ := hck
  have hnx := Nat.eq_of_beq_eq_true hnx
  simp only [zm_s1] at h
  split at h
  · rename_i x j r
    split at h
    · rename_i ci fs hj
      split at h
      · rename_i hci
        have hci := Nat.eq_of_beq_eq_true hci
        subst hci
        split at hck
        · rw [Bool.and_eq_true] at hck
          obtain ⟨h1, h2⟩ := hck
          have h1 := Nat.eq_of_beq_eq_true h1
          subst h1
          subst hnx
          have h2 := List.contains_iff_mem.mp h2
          obtain ⟨⟨C, T, N, g1, g2, g3, g4⟩, C', T', N', g1', g5, g6⟩ := K.2.2.1 _ h2
          have e0 := g1.symm.trans g1'
          cases e0
          have hw := zw_at (ad := ad) (cA := cA) (cB := cB) (μ := μ) hj
          obtain ⟨k1, ⟨ty, k2⟩, k3⟩ := K.2.2.2.1 _ _ g1
          split at h
          · rename_i hf
            cases h
            have hv : x = 0 ∨ x = 1 := of_decide_eq_true (zw_all1 hb)
            have hfl : a < (fs.mapIdx (zw_f ad μ j)).length := by
              rw [List.length_mapIdx]
              exact (List.getElem?_eq_some_iff.mp hf).1
            have hty : parseFieldDescriptor (T a).2.2.1 = some .boolean := by rw [show (T a).2.2.1 = _ from g6]; rfl
            have fin : ∀ (H1 : Heap) (locs1 : List Loc), va_P D cl ((zw_W sh ad cA cB μ).set j (ad j, .inr (ci, (fs.mapIdx (zw_f ad μ j)).set a (.int x)))) H1 → va_D (zw_A sh ad) ((zw_W sh ad cA cB μ).set j (ad j, .inr (ci, (fs.mapIdx (zw_f ad μ j)).set a (.int x)))) → va_S (zw_A sh ad) s.heap H1 locs1 → W p l e R s m args below meth c H1 locs1 cells slots Q (F0 m (pc + 3) ls (st'.map (zw_v ad))) := by
              intro H1 locs1 hP1 _ hS1
              rw [zw_setf hj hf] at hP1
              exact kk H1 locs1 ls hP1 hS1 hl hs
            rcases g4 with g4 | ⟨ho, g4⟩
            · exact va_put hx hc hts k1 ty k2 k3 hown hF.1 hP (zw_D hinj) hS j hw g1 a g2 (hts _ g4) (fun x q => by rw [← g3]; exact q) g5 hty (by rcases hv with rfl | rfl <;> rfl) (by rcases hv with rfl | rfl <;> rfl) hfl hd fin
            · exact va_putN hx hc hts k1 ty k2 k3 hown hF.1 hP (zw_D hinj) hS j hw g1 a g2 (va_Nw.use rfl (hF.2.1 _ g4)) (fun x q => by rw [← g3]; exact q) g5 hty (by rcases hv with rfl | rfl <;> rfl) (by rcases hv with rfl | rfl <;> rfl) hfl hd fin
          · cases h
        · cases hck
      · cases h
    · cases h
  · cases h
theorem zw_o6 (S : zw_C p m c cc nL s args big (cn own) sh X ad cA cB D cl nest) (K : zw_K cl big nest cn tb) (hR : 1 ≤ R.frames ∧ 40 ≤ R.locals ∧ cells ≤ R.cells ∧ slots ≤ R.slots) (hck : zw_ck cc own nL ret tb np (pc, nx, 6, a, b, k, sw) = true) (h : zm_s1 sh X (pc, nx, 6, a, b, k, sw) lo st μ = some (bs, pc', lo', st', μ')) (hb : bs.all id = true)
    (hP : va_P D cl (zw_W sh ad cA cB μ) H) (hS : va_S (zw_A sh ad) s.heap H locs) (hl : lv_has ls nL (zw_l ad lo)) (hs : zm_srt lo = true)
    (kk : ∀ (H1 : Heap) (locs1 : List Loc) (ls1 : Array Slot), va_P D cl (zw_W sh ad cA cB μ') H1 → va_S (zw_A sh ad) s.heap H1 locs1 → lv_has ls1 nL (zw_l ad lo') → zm_srt lo' = true → W p l e R s m args below meth c H1 locs1 cells slots Q (F0 m pc' ls1 (st'.map (zw_v ad)))) :
    W p l e R s m args below meth c H locs cells slots Q (F0 m pc ls (st.map (zw_v ad))) := by
  obtain ⟨hx, hc, hml, hown, hts, hF, hinj⟩ := S
  simp only [zw_ck] at hck
  split at hck
  · cases hck
  rename_i ins len hd
  rw [Bool.and_eq_true] at hck
  obtain ⟨hnx, hck⟩ := hck
  have hnx := Nat.eq_of_beq_eq_true hnx
  simp only [zm_s1] at h
  split at h
  · rename_i i j r
    split at h
    · rename_i n hj
      cases h
      split at hck
      · have h1 := Nat.eq_of_beq_eq_true hck
        subst h1
        subst hnx
        exact va_iald hx hc hF.1 hP j 0 (zw_at hj) rfl (zw_vin hb) hd (kk H locs ls hP hS hl hs)
      · cases hck
    · cases h
  · cases h
theorem zw_o8 (S : zw_C p m c cc nL s args big (cn own) sh X ad cA cB D cl nest) (K : zw_K cl big nest cn tb) (hR : 1 ≤ R.frames ∧ 40 ≤ R.locals ∧ cells ≤ R.cells ∧ slots ≤ R.slots) (hck : zw_ck cc own nL ret tb np (pc, nx, 8, a, b, k, sw) = true) (h : zm_s1 sh X (pc, nx, 8, a, b, k, sw) lo st μ = some (bs, pc', lo', st', μ')) (hb : bs.all id = true)
    (hP : va_P D cl (zw_W sh ad cA cB μ) H) (hS : va_S (zw_A sh ad) s.heap H locs) (hl : lv_has ls nL (zw_l ad lo)) (hs : zm_srt lo = true)
    (kk : ∀ (H1 : Heap) (locs1 : List Loc) (ls1 : Array Slot), va_P D cl (zw_W sh ad cA cB μ') H1 → va_S (zw_A sh ad) s.heap H1 locs1 → lv_has ls1 nL (zw_l ad lo') → zm_srt lo' = true → W p l e R s m args below meth c H1 locs1 cells slots Q (F0 m pc' ls1 (st'.map (zw_v ad)))) :
    W p l e R s m args below meth c H locs cells slots Q (F0 m pc ls (st.map (zw_v ad))) := by
  obtain ⟨hx, hc, hml, hown, hts, hF, hinj⟩ := S
  simp only [zw_ck] at hck
  split at hck
  · cases hck
  rename_i ins len hd
  rw [Bool.and_eq_true] at hck
  obtain ⟨hnx, hck⟩ := hck
  have hnx := Nat.eq_of_beq_eq_true hnx
  simp only [zm_s1] at h
  split at h
  · rename_i i j r
    split at h
    · rename_i n hj
      cases h
      split at hck
      · have h1 := Nat.eq_of_beq_eq_true hck
        subst h1
        subst hnx
        exact va_zald hx hc hF.1 hP j 1 (zw_at hj) rfl (zw_vin hb) hd (kk H locs ls hP hS hl hs)
      · cases hck
    · cases h
  · cases h
theorem zw_o7 (S : zw_C p m c cc nL s args big (cn own) sh X ad cA cB D cl nest) (K : zw_K cl big nest cn tb) (hR : 1 ≤ R.frames ∧ 40 ≤ R.locals ∧ cells ≤ R.cells ∧ slots ≤ R.slots) (hck : zw_ck cc own nL ret tb np (pc, nx, 7, a, b, k, sw) = true) (h : zm_s1 sh X (pc, nx, 7, a, b, k, sw) lo st μ = some (bs, pc', lo', st', μ')) (hb : bs.all id = true)
    (hP : va_P D cl (zw_W sh ad cA cB μ) H) (hS : va_S (zw_A sh ad) s.heap H locs) (hl : lv_has ls nL (zw_l ad lo)) (hs : zm_srt lo = true)
    (kk : ∀ (H1 : Heap) (locs1 : List Loc) (ls1 : Array Slot), va_P D cl (zw_W sh ad cA cB μ') H1 → va_S (zw_A sh ad) s.heap H1 locs1 → lv_has ls1 nL (zw_l ad lo') → zm_srt lo' = true → W p l e R s m args below meth c H1 locs1 cells slots Q (F0 m pc' ls1 (st'.map (zw_v ad)))) :
    W p l e R s m args below meth c H locs cells slots Q (F0 m pc ls (st.map (zw_v ad))) := by
  obtain ⟨hx, hc, hml, hown, hts, hF, hinj⟩ := S
  simp only [zw_ck] at hck
  split at hck
  · cases hck
  rename_i ins len hd
  rw [Bool.and_eq_true] at hck
  obtain ⟨hnx, hck⟩ := hck
  have hnx := Nat.eq_of_beq_eq_true hnx
  simp only [zm_s1] at h
  split at h
  · rename_i x i j r
    split at h
    · rename_i n hj
      cases h
      split at hck
      · have h1 := Nat.eq_of_beq_eq_true hck
        subst h1
        subst hnx
        refine va_iast hx hc hF.1 hP (zw_D hinj) hS j 0 (zw_at hj) rfl (zw_vin hb) hd (fun H1 locs1 hP1 _ hS1 => ?_)
        have e1 := zw_seta (ad := ad) (cA := cA) (cB := cB) (μ := μ) hj i.toNatClampNeg x
        have hP2 : va_P D cl (zw_W sh ad cA cB (zm_up μ j i.toNatClampNeg x)) H1 := by
          rw [← e1]
          exact hP1
        exact kk H1 locs1 ls hP2 hS1 hl hs
      · cases hck
    · cases h
  · cases h
theorem zw_o9 (S : zw_C p m c cc nL s args big (cn own) sh X ad cA cB D cl nest) (K : zw_K cl big nest cn tb) (hR : 1 ≤ R.frames ∧ 40 ≤ R.locals ∧ cells ≤ R.cells ∧ slots ≤ R.slots) (hck : zw_ck cc own nL ret tb np (pc, nx, 9, a, b, k, sw) = true) (h : zm_s1 sh X (pc, nx, 9, a, b, k, sw) lo st μ = some (bs, pc', lo', st', μ')) (hb : bs.all id = true)
    (hP : va_P D cl (zw_W sh ad cA cB μ) H) (hS : va_S (zw_A sh ad) s.heap H locs) (hl : lv_has ls nL (zw_l ad lo)) (hs : zm_srt lo = true)
    (kk : ∀ (H1 : Heap) (locs1 : List Loc) (ls1 : Array Slot), va_P D cl (zw_W sh ad cA cB μ') H1 → va_S (zw_A sh ad) s.heap H1 locs1 → lv_has ls1 nL (zw_l ad lo') → zm_srt lo' = true → W p l e R s m args below meth c H1 locs1 cells slots Q (F0 m pc' ls1 (st'.map (zw_v ad)))) :
    W p l e R s m args below meth c H locs cells slots Q (F0 m pc ls (st.map (zw_v ad))) := by
  obtain ⟨hx, hc, hml, hown, hts, hF, hinj⟩ := S
  simp only [zw_ck] at hck
  split at hck
  · cases hck
  rename_i ins len hd
  rw [Bool.and_eq_true] at hck
  obtain ⟨hnx, hck⟩ := hck
  have hnx := Nat.eq_of_beq_eq_true hnx
  simp only [zm_s1] at h
  split at h
  · rename_i x i j r
    split at h
    · rename_i n hj
      cases h
      split at hck
      · have h1 := Nat.eq_of_beq_eq_true hck
        subst h1
        subst hnx
        simp only [List.all_cons, List.all_nil, Bool.and_true, id, Bool.and_eq_true, decide_eq_true_eq] at hb
        obtain ⟨hi, hv⟩ := hb
        refine va_zast hx hc hF.1 hP (zw_D hinj) hS j 1 (zw_at hj) rfl (vp_in_iff.mpr hi) hd (fun H1 locs1 hP1 _ hS1 => ?_)
        have hz : vp_nar .boolean x = x := by rcases hv with rfl | rfl <;> rfl
        rw [hz] at hP1
        have e1 := zw_seta (ad := ad) (cA := cA) (cB := cB) (μ := μ) hj i.toNatClampNeg x
        have hP2 : va_P D cl (zw_W sh ad cA cB (zm_up μ j i.toNatClampNeg x)) H1 := by
          rw [← e1]
          exact hP1
        exact kk H1 locs1 ls hP2 hS1 hl hs
      · cases hck
    · cases h
  · cases h
theorem zw_o10 (S : zw_C p m c cc nL s args big (cn own) sh X ad cA cB D cl nest) (K : zw_K cl big nest cn tb) (hR : 1 ≤ R.frames ∧ 40 ≤ R.locals ∧ cells ≤ R.cells ∧ slots ≤ R.slots) (hck : zw_ck cc own nL ret tb np (pc, nx, 10, a, b, k, sw) = true) (h : zm_s1 sh X (pc, nx, 10, a, b, k, sw) lo st μ = some (bs, pc', lo', st', μ')) (hb : bs.all id = true)
    (hP : va_P D cl (zw_W sh ad cA cB μ) H) (hS : va_S (zw_A sh ad) s.heap H locs) (hl : lv_has ls nL (zw_l ad lo)) (hs : zm_srt lo = true)
    (kk : ∀ (H1 : Heap) (locs1 : List Loc) (ls1 : Array Slot), va_P D cl (zw_W sh ad cA cB μ') H1 → va_S (zw_A sh ad) s.heap H1 locs1 → lv_has ls1 nL (zw_l ad lo') → zm_srt lo' = true → W p l e R s m args below meth c H1 locs1 cells slots Q (F0 m pc' ls1 (st'.map (zw_v ad)))) :
    W p l e R s m args below meth c H locs cells slots Q (F0 m pc ls (st.map (zw_v ad))) := by
  obtain ⟨hx, hc, hml, hown, hts, hF, hinj⟩ := S
  simp only [zw_ck] at hck
  split at hck
  · cases hck
  rename_i ins len hd
  rw [Bool.and_eq_true] at hck
  obtain ⟨hnx, hck⟩ := hck
  have hnx := Nat.eq_of_beq_eq_true hnx
  simp only [zm_s1] at h
  split at h
  · rename_i y x r
    cases h
    split at hck
    · have h1 := Nat.eq_of_beq_eq_true hck
      subst h1
      subst hnx
      exact lv_iadd hx hc hd (kk H locs ls hP hS hl hs)
    · cases hck
  · cases h
theorem zw_o11 (S : zw_C p m c cc nL s args big (cn own) sh X ad cA cB D cl nest) (K : zw_K cl big nest cn tb) (hR : 1 ≤ R.frames ∧ 40 ≤ R.locals ∧ cells ≤ R.cells ∧ slots ≤ R.slots) (hck : zw_ck cc own nL ret tb np (pc, nx, 11, a, b, k, sw) = true) (h : zm_s1 sh X (pc, nx, 11, a, b, k, sw) lo st μ = some (bs, pc', lo', st', μ')) (hb : bs.all id = true)
    (hP : va_P D cl (zw_W sh ad cA cB μ) H) (hS : va_S (zw_A sh ad) s.heap H locs) (hl : lv_has ls nL (zw_l ad lo)) (hs : zm_srt lo = true)
    (kk : ∀ (H1 : Heap) (locs1 : List Loc) (ls1 : Array Slot), va_P D cl (zw_W sh ad cA cB μ') H1 → va_S (zw_A sh ad) s.heap H1 locs1 → lv_has ls1 nL (zw_l ad lo') → zm_srt lo' = true → W p l e R s m args below meth c H1 locs1 cells slots Q (F0 m pc' ls1 (st'.map (zw_v ad)))) :
    W p l e R s m args below meth c H locs cells slots Q (F0 m pc ls (st.map (zw_v ad))) := by
  obtain ⟨hx, hc, hml, hown, hts, hF, hinj⟩ := S
  simp only [zw_ck] at hck
  split at hck
  · cases hck
  rename_i ins len hd
  rw [Bool.and_eq_true] at hck
  obtain ⟨hnx, hck⟩ := hck
  have hnx := Nat.eq_of_beq_eq_true hnx
  simp only [zm_s1] at h
  split at h
  · rename_i y x r
    cases h
    split at hck
    · have h1 := Nat.eq_of_beq_eq_true hck
      subst h1
      subst hnx
      exact lv_isub hx hc hd (kk H locs ls hP hS hl hs)
    · cases hck
  · cases h
theorem zw_o12 (S : zw_C p m c cc nL s args big (cn own) sh X ad cA cB D cl nest) (K : zw_K cl big nest cn tb) (hR : 1 ≤ R.frames ∧ 40 ≤ R.locals ∧ cells ≤ R.cells ∧ slots ≤ R.slots) (hck : zw_ck cc own nL ret tb np (pc, nx, 12, a, b, k, sw) = true) (h : zm_s1 sh X (pc, nx, 12, a, b, k, sw) lo st μ = some (bs, pc', lo', st', μ')) (hb : bs.all id = true)
    (hP : va_P D cl (zw_W sh ad cA cB μ) H) (hS : va_S (zw_A sh ad) s.heap H locs) (hl : lv_has ls nL (zw_l ad lo)) (hs : zm_srt lo = true)
    (kk : ∀ (H1 : Heap) (locs1 : List Loc) (ls1 : Array Slot), va_P D cl (zw_W sh ad cA cB μ') H1 → va_S (zw_A sh ad) s.heap H1 locs1 → lv_has ls1 nL (zw_l ad lo') → zm_srt lo' = true → W p l e R s m args below meth c H1 locs1 cells slots Q (F0 m pc' ls1 (st'.map (zw_v ad)))) :
    W p l e R s m args below meth c H locs cells slots Q (F0 m pc ls (st.map (zw_v ad))) := by
  obtain ⟨hx, hc, hml, hown, hts, hF, hinj⟩ := S
  simp only [zw_ck] at hck
  split at hck
  · cases hck
  rename_i ins len hd
  rw [Bool.and_eq_true] at hck
  obtain ⟨hnx, hck⟩ := hck
  have hnx := Nat.eq_of_beq_eq_true hnx
  simp only [zm_s1] at h
  split at h
  · rename_i y x r
    cases h
    split at hck
    · have h1 := Nat.eq_of_beq_eq_true hck
      subst h1
      subst hnx
      exact lv_imul hx hc hd (kk H locs ls hP hS hl hs)
    · cases hck
  · cases h
theorem zw_o13 (S : zw_C p m c cc nL s args big (cn own) sh X ad cA cB D cl nest) (K : zw_K cl big nest cn tb) (hR : 1 ≤ R.frames ∧ 40 ≤ R.locals ∧ cells ≤ R.cells ∧ slots ≤ R.slots) (hck : zw_ck cc own nL ret tb np (pc, nx, 13, a, b, k, sw) = true) (h : zm_s1 sh X (pc, nx, 13, a, b, k, sw) lo st μ = some (bs, pc', lo', st', μ')) (hb : bs.all id = true)
    (hP : va_P D cl (zw_W sh ad cA cB μ) H) (hS : va_S (zw_A sh ad) s.heap H locs) (hl : lv_has ls nL (zw_l ad lo)) (hs : zm_srt lo = true)
    (kk : ∀ (H1 : Heap) (locs1 : List Loc) (ls1 : Array Slot), va_P D cl (zw_W sh ad cA cB μ') H1 → va_S (zw_A sh ad) s.heap H1 locs1 → lv_has ls1 nL (zw_l ad lo') → zm_srt lo' = true → W p l e R s m args below meth c H1 locs1 cells slots Q (F0 m pc' ls1 (st'.map (zw_v ad)))) :
    W p l e R s m args below meth c H locs cells slots Q (F0 m pc ls (st.map (zw_v ad))) := by
  obtain ⟨hx, hc, hml, hown, hts, hF, hinj⟩ := S
  simp only [zw_ck] at hck
  split at hck
  · cases hck
  rename_i ins len hd
  rw [Bool.and_eq_true] at hck
  obtain ⟨hnx, hck⟩ := hck
  have hnx := Nat.eq_of_beq_eq_true hnx
  simp only [zm_s1] at h
  split at h
  · rename_i y x r
    cases h
    split at hck
    · have h1 := Nat.eq_of_beq_eq_true hck
      subst h1
      subst hnx
      exact lv_iand hx hc hd (kk H locs ls hP hS hl hs)
    · cases hck
  · cases h
theorem zw_o14 (S : zw_C p m c cc nL s args big (cn own) sh X ad cA cB D cl nest) (K : zw_K cl big nest cn tb) (hR : 1 ≤ R.frames ∧ 40 ≤ R.locals ∧ cells ≤ R.cells ∧ slots ≤ R.slots) (hck : zw_ck cc own nL ret tb np (pc, nx, 14, a, b, k, sw) = true) (h : zm_s1 sh X (pc, nx, 14, a, b, k, sw) lo st μ = some (bs, pc', lo', st', μ')) (hb : bs.all id = true)
    (hP : va_P D cl (zw_W sh ad cA cB μ) H) (hS : va_S (zw_A sh ad) s.heap H locs) (hl : lv_has ls nL (zw_l ad lo)) (hs : zm_srt lo = true)
    (kk : ∀ (H1 : Heap) (locs1 : List Loc) (ls1 : Array Slot), va_P D cl (zw_W sh ad cA cB μ') H1 → va_S (zw_A sh ad) s.heap H1 locs1 → lv_has ls1 nL (zw_l ad lo') → zm_srt lo' = true → W p l e R s m args below meth c H1 locs1 cells slots Q (F0 m pc' ls1 (st'.map (zw_v ad)))) :
    W p l e R s m args below meth c H locs cells slots Q (F0 m pc ls (st.map (zw_v ad))) := by
  obtain ⟨hx, hc, hml, hown, hts, hF, hinj⟩ := S
  simp only [zw_ck] at hck
  split at hck
  · cases hck
  rename_i ins len hd
  rw [Bool.and_eq_true] at hck
  obtain ⟨hnx, hck⟩ := hck
  have hnx := Nat.eq_of_beq_eq_true hnx
  simp only [zm_s1] at h
  split at h
  · rename_i y x r
    cases h
    split at hck
    · have h1 := Nat.eq_of_beq_eq_true hck
      subst h1
      subst hnx
      exact lv_ishl hx hc hd (kk H locs ls hP hS hl hs)
    · cases hck
  · cases h
theorem zw_o15 (S : zw_C p m c cc nL s args big (cn own) sh X ad cA cB D cl nest) (K : zw_K cl big nest cn tb) (hR : 1 ≤ R.frames ∧ 40 ≤ R.locals ∧ cells ≤ R.cells ∧ slots ≤ R.slots) (hck : zw_ck cc own nL ret tb np (pc, nx, 15, a, b, k, sw) = true) (h : zm_s1 sh X (pc, nx, 15, a, b, k, sw) lo st μ = some (bs, pc', lo', st', μ')) (hb : bs.all id = true)
    (hP : va_P D cl (zw_W sh ad cA cB μ) H) (hS : va_S (zw_A sh ad) s.heap H locs) (hl : lv_has ls nL (zw_l ad lo)) (hs : zm_srt lo = true)
    (kk : ∀ (H1 : Heap) (locs1 : List Loc) (ls1 : Array Slot), va_P D cl (zw_W sh ad cA cB μ') H1 → va_S (zw_A sh ad) s.heap H1 locs1 → lv_has ls1 nL (zw_l ad lo') → zm_srt lo' = true → W p l e R s m args below meth c H1 locs1 cells slots Q (F0 m pc' ls1 (st'.map (zw_v ad)))) :
    W p l e R s m args below meth c H locs cells slots Q (F0 m pc ls (st.map (zw_v ad))) := by
  obtain ⟨hx, hc, hml, hown, hts, hF, hinj⟩ := S
  simp only [zw_ck] at hck
  split at hck
  · cases hck
  rename_i ins len hd
  rw [Bool.and_eq_true] at hck
  obtain ⟨hnx, hck⟩ := hck
  have hnx := Nat.eq_of_beq_eq_true hnx
  simp only [zm_s1] at h
  split at h
  · rename_i y x r
    cases h
    split at hck
    · have h1 := Nat.eq_of_beq_eq_true hck
      subst h1
      subst hnx
      exact lv_ishr hx hc hd (kk H locs ls hP hS hl hs)
    · cases hck
  · cases h
theorem zw_o23 (S : zw_C p m c cc nL s args big (cn own) sh X ad cA cB D cl nest) (K : zw_K cl big nest cn tb) (hR : 1 ≤ R.frames ∧ 40 ≤ R.locals ∧ cells ≤ R.cells ∧ slots ≤ R.slots) (hck : zw_ck cc own nL ret tb np (pc, nx, 23, a, b, k, sw) = true) (h : zm_s1 sh X (pc, nx, 23, a, b, k, sw) lo st μ = some (bs, pc', lo', st', μ')) (hb : bs.all id = true)
    (hP : va_P D cl (zw_W sh ad cA cB μ) H) (hS : va_S (zw_A sh ad) s.heap H locs) (hl : lv_has ls nL (zw_l ad lo)) (hs : zm_srt lo = true)
    (kk : ∀ (H1 : Heap) (locs1 : List Loc) (ls1 : Array Slot), va_P D cl (zw_W sh ad cA cB μ') H1 → va_S (zw_A sh ad) s.heap H1 locs1 → lv_has ls1 nL (zw_l ad lo') → zm_srt lo' = true → W p l e R s m args below meth c H1 locs1 cells slots Q (F0 m pc' ls1 (st'.map (zw_v ad)))) :
    W p l e R s m args below meth c H locs cells slots Q (F0 m pc ls (st.map (zw_v ad))) := by
  obtain ⟨hx, hc, hml, hown, hts, hF, hinj⟩ := S
  simp only [zw_ck] at hck
  split at hck
  · cases hck
  rename_i ins len hd
  rw [Bool.and_eq_true] at hck
  obtain ⟨hnx, hck⟩ := hck
  have hnx := Nat.eq_of_beq_eq_true hnx
  simp only [zm_s1] at h
  split at h
  · rename_i y x r
    cases h
    split at hck
    · have h1 := Nat.eq_of_beq_eq_true hck
      subst h1
      subst hnx
      exact lv_iushr hx hc hd rfl (kk H locs ls hP hS hl hs)
    · cases hck
  · cases h
theorem zw_o16 (S : zw_C p m c cc nL s args big (cn own) sh X ad cA cB D cl nest) (K : zw_K cl big nest cn tb) (hR : 1 ≤ R.frames ∧ 40 ≤ R.locals ∧ cells ≤ R.cells ∧ slots ≤ R.slots) (hck : zw_ck cc own nL ret tb np (pc, nx, 16, a, b, k, sw) = true) (h : zm_s1 sh X (pc, nx, 16, a, b, k, sw) lo st μ = some (bs, pc', lo', st', μ')) (hb : bs.all id = true)
    (hP : va_P D cl (zw_W sh ad cA cB μ) H) (hS : va_S (zw_A sh ad) s.heap H locs) (hl : lv_has ls nL (zw_l ad lo)) (hs : zm_srt lo = true)
    (kk : ∀ (H1 : Heap) (locs1 : List Loc) (ls1 : Array Slot), va_P D cl (zw_W sh ad cA cB μ') H1 → va_S (zw_A sh ad) s.heap H1 locs1 → lv_has ls1 nL (zw_l ad lo') → zm_srt lo' = true → W p l e R s m args below meth c H1 locs1 cells slots Q (F0 m pc' ls1 (st'.map (zw_v ad)))) :
    W p l e R s m args below meth c H locs cells slots Q (F0 m pc ls (st.map (zw_v ad))) := by
  obtain ⟨hx, hc, hml, hown, hts, hF, hinj⟩ := S
  simp only [zw_ck] at hck
  split at hck
  · cases hck
  rename_i ins len hd
  rw [Bool.and_eq_true] at hck
  obtain ⟨hnx, hck⟩ := hck
  have hnx := Nat.eq_of_beq_eq_true hnx
  simp only [zm_s1] at h
  split at h
  · rename_i v r
    cases h
    split at hck
    · have h1 := Nat.eq_of_beq_eq_true hck
      subst h1
      subst hnx
      exact lv_dup hx hc hd (by cases v <;> rfl) (kk H locs ls hP hS hl hs)
    · cases hck
  · cases h
theorem zw_o17 (S : zw_C p m c cc nL s args big (cn own) sh X ad cA cB D cl nest) (K : zw_K cl big nest cn tb) (hR : 1 ≤ R.frames ∧ 40 ≤ R.locals ∧ cells ≤ R.cells ∧ slots ≤ R.slots) (hck : zw_ck cc own nL ret tb np (pc, nx, 17, a, b, k, sw) = true) (h : zm_s1 sh X (pc, nx, 17, a, b, k, sw) lo st μ = some (bs, pc', lo', st', μ')) (hb : bs.all id = true)
    (hP : va_P D cl (zw_W sh ad cA cB μ) H) (hS : va_S (zw_A sh ad) s.heap H locs) (hl : lv_has ls nL (zw_l ad lo)) (hs : zm_srt lo = true)
    (kk : ∀ (H1 : Heap) (locs1 : List Loc) (ls1 : Array Slot), va_P D cl (zw_W sh ad cA cB μ') H1 → va_S (zw_A sh ad) s.heap H1 locs1 → lv_has ls1 nL (zw_l ad lo') → zm_srt lo' = true → W p l e R s m args below meth c H1 locs1 cells slots Q (F0 m pc' ls1 (st'.map (zw_v ad)))) :
    W p l e R s m args below meth c H locs cells slots Q (F0 m pc ls (st.map (zw_v ad))) := by
  obtain ⟨hx, hc, hml, hown, hts, hF, hinj⟩ := S
  simp only [zw_ck] at hck
  split at hck
  · cases hck
  rename_i ins len hd
  rw [Bool.and_eq_true] at hck
  obtain ⟨hnx, hck⟩ := hck
  have hnx := Nat.eq_of_beq_eq_true hnx
  simp only [zm_s1] at h
  split at h
  · rename_i v w r
    cases h
    split at hck
    · have h1 := Nat.eq_of_beq_eq_true hck
      subst h1
      subst hnx
      exact lv_dup2_11 hx hc hd (by cases v <;> rfl) (by cases w <;> rfl) (kk H locs ls hP hS hl hs)
    · cases hck
  · cases h
theorem zw_o18 (S : zw_C p m c cc nL s args big (cn own) sh X ad cA cB D cl nest) (K : zw_K cl big nest cn tb) (hR : 1 ≤ R.frames ∧ 40 ≤ R.locals ∧ cells ≤ R.cells ∧ slots ≤ R.slots) (hck : zw_ck cc own nL ret tb np (pc, nx, 18, a, b, k, sw) = true) (h : zm_s1 sh X (pc, nx, 18, a, b, k, sw) lo st μ = some (bs, pc', lo', st', μ')) (hb : bs.all id = true)
    (hP : va_P D cl (zw_W sh ad cA cB μ) H) (hS : va_S (zw_A sh ad) s.heap H locs) (hl : lv_has ls nL (zw_l ad lo)) (hs : zm_srt lo = true)
    (kk : ∀ (H1 : Heap) (locs1 : List Loc) (ls1 : Array Slot), va_P D cl (zw_W sh ad cA cB μ') H1 → va_S (zw_A sh ad) s.heap H1 locs1 → lv_has ls1 nL (zw_l ad lo') → zm_srt lo' = true → W p l e R s m args below meth c H1 locs1 cells slots Q (F0 m pc' ls1 (st'.map (zw_v ad)))) :
    W p l e R s m args below meth c H locs cells slots Q (F0 m pc ls (st.map (zw_v ad))) := by
  obtain ⟨hx, hc, hml, hown, hts, hF, hinj⟩ := S
  simp only [zw_ck] at hck
  split at hck
  · cases hck
  rename_i ins len hd
  rw [Bool.and_eq_true] at hck
  obtain ⟨hnx, hck⟩ := hck
  have hnx := Nat.eq_of_beq_eq_true hnx
  simp only [zm_s1] at h
  split at h
  · rename_i v r
    cases h
    split at hck
    · have h1 := Nat.eq_of_beq_eq_true hck
      subst h1
      subst hnx
      exact lv_pop hx hc hd (by cases v <;> rfl) (kk H locs ls hP hS hl hs)
    · cases hck
  · cases h
theorem zw_o19 (S : zw_C p m c cc nL s args big (cn own) sh X ad cA cB D cl nest) (K : zw_K cl big nest cn tb) (hR : 1 ≤ R.frames ∧ 40 ≤ R.locals ∧ cells ≤ R.cells ∧ slots ≤ R.slots) (hck : zw_ck cc own nL ret tb np (pc, nx, 19, a, b, k, sw) = true) (h : zm_s1 sh X (pc, nx, 19, a, b, k, sw) lo st μ = some (bs, pc', lo', st', μ')) (hb : bs.all id = true)
    (hP : va_P D cl (zw_W sh ad cA cB μ) H) (hS : va_S (zw_A sh ad) s.heap H locs) (hl : lv_has ls nL (zw_l ad lo)) (hs : zm_srt lo = true)
    (kk : ∀ (H1 : Heap) (locs1 : List Loc) (ls1 : Array Slot), va_P D cl (zw_W sh ad cA cB μ') H1 → va_S (zw_A sh ad) s.heap H1 locs1 → lv_has ls1 nL (zw_l ad lo') → zm_srt lo' = true → W p l e R s m args below meth c H1 locs1 cells slots Q (F0 m pc' ls1 (st'.map (zw_v ad)))) :
    W p l e R s m args below meth c H locs cells slots Q (F0 m pc ls (st.map (zw_v ad))) := by
  obtain ⟨hx, hc, hml, hown, hts, hF, hinj⟩ := S
  simp only [zw_ck] at hck
  split at hck
  · cases hck
  rename_i ins len hd
  rw [Bool.and_eq_true] at hck
  obtain ⟨hnx, hck⟩ := hck
  have hnx := Nat.eq_of_beq_eq_true hnx
  simp only [zm_s1] at h
  cases h
  split at hck
  · simp only [Bool.and_eq_true, decide_eq_true_eq] at hck
    obtain ⟨h1, h2⟩ := hck
    have h1 := Nat.eq_of_beq_eq_true h1
    subst h1
    exact lv_goto hx hc hd h2 (kk H locs ls hP hS hl hs)
  · cases hck
theorem zw_o20 (S : zw_C p m c cc nL s args big (cn own) sh X ad cA cB D cl nest) (K : zw_K cl big nest cn tb) (hR : 1 ≤ R.frames ∧ 40 ≤ R.locals ∧ cells ≤ R.cells ∧ slots ≤ R.slots) (hck : zw_ck cc own nL ret tb np (pc, nx, 20, a, b, k, sw) = true) (h : zm_s1 sh X (pc, nx, 20, a, b, k, sw) lo st μ = some (bs, pc', lo', st', μ')) (hb : bs.all id = true)
    (hP : va_P D cl (zw_W sh ad cA cB μ) H) (hS : va_S (zw_A sh ad) s.heap H locs) (hl : lv_has ls nL (zw_l ad lo)) (hs : zm_srt lo = true)
    (kk : ∀ (H1 : Heap) (locs1 : List Loc) (ls1 : Array Slot), va_P D cl (zw_W sh ad cA cB μ') H1 → va_S (zw_A sh ad) s.heap H1 locs1 → lv_has ls1 nL (zw_l ad lo') → zm_srt lo' = true → W p l e R s m args below meth c H1 locs1 cells slots Q (F0 m pc' ls1 (st'.map (zw_v ad)))) :
    W p l e R s m args below meth c H locs cells slots Q (F0 m pc ls (st.map (zw_v ad))) := by
  obtain ⟨hx, hc, hml, hown, hts, hF, hinj⟩ := S
  simp only [zw_ck] at hck
  split at hck
  · cases hck
  rename_i ins len hd
  rw [Bool.and_eq_true] at hck
  obtain ⟨hnx, hck⟩ := hck
  have hnx := Nat.eq_of_beq_eq_true hnx
  simp only [zm_s1] at h
  split at h
  · rename_i i r
    cases h
    split at hck
    · have h1 := Nat.eq_of_beq_eq_true hck
      subst h1
      subst hnx
      exact va_ti hx hc hF.2.2.2.1 hS (zw_vin (n := 18) hb) rfl hd (kk H locs ls hP hS hl hs)
    · cases hck
  · rename_i i r
    cases h
    split at hck
    · have h1 := Nat.eq_of_beq_eq_true hck
      subst h1
      subst hnx
      exact va_ti hx hc hF.2.2.2.2 hS (zw_vin hb) rfl hd (kk H locs ls hP hS hl hs)
    · cases hck
  · cases h
theorem zw_o21 (S : zw_C p m c cc nL s args big (cn own) sh X ad cA cB D cl nest) (K : zw_K cl big nest cn tb) (hR : 1 ≤ R.frames ∧ 40 ≤ R.locals ∧ cells ≤ R.cells ∧ slots ≤ R.slots) (hck : zw_ck cc own nL ret tb np (pc, nx, 21, a, b, k, sw) = true) (h : zm_s1 sh X (pc, nx, 21, a, b, k, sw) lo st μ = some (bs, pc', lo', st', μ')) (hb : bs.all id = true)
    (hP : va_P D cl (zw_W sh ad cA cB μ) H) (hS : va_S (zw_A sh ad) s.heap H locs) (hl : lv_has ls nL (zw_l ad lo)) (hs : zm_srt lo = true)
    (kk : ∀ (H1 : Heap) (locs1 : List Loc) (ls1 : Array Slot), va_P D cl (zw_W sh ad cA cB μ') H1 → va_S (zw_A sh ad) s.heap H1 locs1 → lv_has ls1 nL (zw_l ad lo') → zm_srt lo' = true → W p l e R s m args below meth c H1 locs1 cells slots Q (F0 m pc' ls1 (st'.map (zw_v ad)))) :
    W p l e R s m args below meth c H locs cells slots Q (F0 m pc ls (st.map (zw_v ad))) := by
  obtain ⟨hx, hc, hml, hown, hts, hF, hinj⟩ := S
  simp only [zw_ck] at hck
  split at hck
  · cases hck
  rename_i ins len hd
  rw [Bool.and_eq_true] at hck
  obtain ⟨hnx, hck⟩ := hck
  have hnx := Nat.eq_of_beq_eq_true hnx
  simp only [zm_s1] at h
  cases h
  split at hck
  · rw [Bool.and_eq_true] at hck
    obtain ⟨h1, h2⟩ := hck
    have h1 := Nat.eq_of_beq_eq_true h1
    subst h1
    subst hnx
    have h2 := List.contains_iff_mem.mp h2
    rcases K.2.2.2.2.1 _ h2 with g | ⟨ho, g⟩
    · exact va_gets hx hc hF.2.2.1 hS hown (hts _ g) (fun _ q => q) hd (kk H locs ls hP hS hl hs)
    · exact va_getsN hx hc hF.2.2.1 hS hown (va_Nw.use rfl (hF.2.1 _ g)) (fun _ q => q) hd (kk H locs ls hP hS hl hs)
  · cases hck
theorem zw_o22 (S : zw_C p m c cc nL s args big (cn own) sh X ad cA cB D cl nest) (K : zw_K cl big nest cn tb) (hR : 1 ≤ R.frames ∧ 40 ≤ R.locals ∧ cells ≤ R.cells ∧ slots ≤ R.slots) (hck : zw_ck cc own nL ret tb np (pc, nx, 22, a, b, k, sw) = true) (h : zm_s1 sh X (pc, nx, 22, a, b, k, sw) lo st μ = some (bs, pc', lo', st', μ')) (hb : bs.all id = true)
    (hP : va_P D cl (zw_W sh ad cA cB μ) H) (hS : va_S (zw_A sh ad) s.heap H locs) (hl : lv_has ls nL (zw_l ad lo)) (hs : zm_srt lo = true)
    (kk : ∀ (H1 : Heap) (locs1 : List Loc) (ls1 : Array Slot), va_P D cl (zw_W sh ad cA cB μ') H1 → va_S (zw_A sh ad) s.heap H1 locs1 → lv_has ls1 nL (zw_l ad lo') → zm_srt lo' = true → W p l e R s m args below meth c H1 locs1 cells slots Q (F0 m pc' ls1 (st'.map (zw_v ad)))) :
    W p l e R s m args below meth c H locs cells slots Q (F0 m pc ls (st.map (zw_v ad))) := by
  obtain ⟨hx, hc, hml, hown, hts, hF, hinj⟩ := S
  simp only [zw_ck] at hck
  split at hck
  · cases hck
  rename_i ins len hd
  rw [Bool.and_eq_true] at hck
  obtain ⟨hnx, hck⟩ := hck
  have hnx := Nat.eq_of_beq_eq_true hnx
  simp only [zm_s1] at h
  split at h
  · rename_i r
    cases h
    split at hck
    · have h1 := Nat.eq_of_beq_eq_true hck
      subst h1
      subst hnx
      exact va_tlen hx hc hF.2.2.2.2 hS rfl hd (kk H locs ls hP hS hl hs)
    · cases hck
  · cases h
theorem zw_cat {ad : Nat → Nat} : ∀ r : List zm_v, ((r.map (zw_v ad)).map fun v => v.category).sum = r.length := by
  intro r
  induction r with
  | nil => rfl
  | cons v t ih =>
    have hv : (zw_v ad v).category = 1 := by cases v <;> rfl
    simp only [List.map_cons, List.sum_cons, List.length_cons, hv, ih]
    omega
theorem zw_o25 (S : zw_C p m c cc nL s args big (cn own) sh X ad cA cB D cl nest) (K : zw_K cl big nest cn tb) (hR : 1 ≤ R.frames ∧ 40 ≤ R.locals ∧ cells ≤ R.cells ∧ slots ≤ R.slots) (hck : zw_ck cc own nL ret tb np (pc, nx, 25, a, b, k, sw) = true) (h : zm_s1 sh X (pc, nx, 25, a, b, k, sw) lo st μ = some (bs, pc', lo', st', μ')) (hb : bs.all id = true)
    (hP : va_P D cl (zw_W sh ad cA cB μ) H) (hS : va_S (zw_A sh ad) s.heap H locs) (hl : lv_has ls nL (zw_l ad lo)) (hs : zm_srt lo = true)
    (kk : ∀ (H1 : Heap) (locs1 : List Loc) (ls1 : Array Slot), va_P D cl (zw_W sh ad cA cB μ') H1 → va_S (zw_A sh ad) s.heap H1 locs1 → lv_has ls1 nL (zw_l ad lo') → zm_srt lo' = true → W p l e R s m args below meth c H1 locs1 cells slots Q (F0 m pc' ls1 (st'.map (zw_v ad)))) :
    W p l e R s m args below meth c H locs cells slots Q (F0 m pc ls (st.map (zw_v ad))) := by
  obtain ⟨hx, hc, hml, hown, hts, hF, hinj⟩ := S
  simp only [zw_ck] at hck
  split at hck
  · cases hck
  rename_i ins len hd
  rw [Bool.and_eq_true] at hck
  obtain ⟨hnx, hck⟩ := hck
  have hnx := Nat.eq_of_beq_eq_true hnx
  simp only [zm_s1] at h
  split at h
  · rename_i y x r
    cases h
    split at hck
    · rw [Bool.and_eq_true] at hck
      obtain ⟨h1, h2⟩ := hck
      have h1 := Nat.eq_of_beq_eq_true h1
      subst h1
      subst hnx
      have h2 := List.contains_iff_mem.mp h2
      obtain ⟨g1, g2, g3, g4⟩ := K.2.2.2.2.2.1 _ h2
      have hr : r.length ≤ 8 := Nat.le_of_ble_eq_true (zw_all1 hb)
      have e1 : (cond (decide (x < y)) y x) = (if x < y then y else x) := by
        by_cases hq : x < y
        · rw [if_pos hq, decide_eq_true hq]; rfl
        · rw [if_neg hq, decide_eq_false hq]; rfl
      have kk := kk H locs ls hP hS hl hs
      rw [e1] at kk
      exact va_mmax hx hc (by rw [hml]; exact hl.1.symm) hown (hts _ g1) (hts _ g2) (hts _ g3) (hts _ g4) hR.1 (by rw [zw_cat]; omega) hR.2.2.1 hR.2.2.2 hd kk
    · cases hck
  · cases h
theorem zw_o26 (S : zw_C p m c cc nL s args big (cn own) sh X ad cA cB D cl nest) (K : zw_K cl big nest cn tb) (hR : 1 ≤ R.frames ∧ 40 ≤ R.locals ∧ cells ≤ R.cells ∧ slots ≤ R.slots) (hck : zw_ck cc own nL ret tb np (pc, nx, 26, a, b, k, sw) = true) (h : zm_s1 sh X (pc, nx, 26, a, b, k, sw) lo st μ = some (bs, pc', lo', st', μ')) (hb : bs.all id = true)
    (hP : va_P D cl (zw_W sh ad cA cB μ) H) (hS : va_S (zw_A sh ad) s.heap H locs) (hl : lv_has ls nL (zw_l ad lo)) (hs : zm_srt lo = true)
    (kk : ∀ (H1 : Heap) (locs1 : List Loc) (ls1 : Array Slot), va_P D cl (zw_W sh ad cA cB μ') H1 → va_S (zw_A sh ad) s.heap H1 locs1 → lv_has ls1 nL (zw_l ad lo') → zm_srt lo' = true → W p l e R s m args below meth c H1 locs1 cells slots Q (F0 m pc' ls1 (st'.map (zw_v ad)))) :
    W p l e R s m args below meth c H locs cells slots Q (F0 m pc ls (st.map (zw_v ad))) := by
  obtain ⟨hx, hc, hml, hown, hts, hF, hinj⟩ := S
  simp only [zw_ck] at hck
  split at hck
  · cases hck
  rename_i ins len hd
  rw [Bool.and_eq_true] at hck
  obtain ⟨hnx, hck⟩ := hck
  have hnx := Nat.eq_of_beq_eq_true hnx
  simp only [zm_s1] at h
  split at h
  · rename_i n dp t sp f r
    split at h
    · rename_i n0 n1 hf ht
      cases h
      split at hck
      · rw [Bool.and_eq_true] at hck
        obtain ⟨h1, h2⟩ := hck
        have h1 := Nat.eq_of_beq_eq_true h1
        subst h1
        subst hnx
        have h2 := List.contains_iff_mem.mp h2
        obtain ⟨g1, g2, g3, g4⟩ := K.2.2.2.2.2.2.1 _ h2
        simp only [List.all_cons, List.all_nil, Bool.and_true, id, Bool.and_eq_true, decide_eq_true_eq] at hb
        obtain ⟨hr, hb⟩ := hb
        have hr : st'.length ≤ 8 := Nat.le_of_ble_eq_true hr
        obtain ⟨b1, b2, b3, b4, b5⟩ := hb
        have h0 : (0 : Int32).toInt = 0 := by decide
        have nn : ∀ z : Int32, 0 ≤ z.toInt → ¬ z < 0 := by
          intro z hz
          rw [Int32.lt_iff_toInt_lt, h0]
          omega
        have cn : ∀ z : Int32, z.toNatClampNeg = z.toInt.toNat := fun z => rfl
        refine va_copyi hx hc (by rw [hml]; exact hl.1.symm) hown (hts _ g1) (hts _ g2) (hts _ g3) (hts _ g4) hF.1 hP (zw_D hinj) hS f t 0 0 (zw_at hf) (zw_at ht) rfl rfl rfl (nn _ b3) (nn _ b2) (nn _ b1) (by rw [cn, cn]; omega) (by rw [cn, cn]; omega) (fun _ _ => rfl) hR.1 (by rw [zw_cat]; show st'.length + (7 + 11) ≤ _; omega) hd (fun H1 locs1 hP1 _ hS1 => ?_)
        refine kk H1 locs1 ls ?_ hS1 hl hs
        have e1 := zw_set (ad := ad) (cA := cA) (cB := cB) (μ := μ) (μ' := zm_cp μ f t sp dp n) ht (fun k hk => by funext i; unfold zm_cp; rw [zb_ne hk]; rfl)
        rw [← e1]
        have e2 : va_cpy (μ f) (μ t) sp.toNatClampNeg dp.toNatClampNeg n.toNatClampNeg = zm_cp μ f t sp dp n t := by
          funext i
          unfold zm_cp
          rw [Nat.beq_refl]
          rfl
        unfold zw_e
        rw [e2] at hP1
        exact hP1
      · cases hck
    · cases h
  · cases h
theorem zw_o28 (S : zw_C p m c cc nL s args big (cn own) sh X ad cA cB D cl nest) (K : zw_K cl big nest cn tb) (hR : 1 ≤ R.frames ∧ 40 ≤ R.locals ∧ cells ≤ R.cells ∧ slots ≤ R.slots) (hck : zw_ck cc own nL ret tb np (pc, nx, 28, a, b, k, sw) = true) (h : zm_s1 sh X (pc, nx, 28, a, b, k, sw) lo st μ = some (bs, pc', lo', st', μ')) (hb : bs.all id = true)
    (hP : va_P D cl (zw_W sh ad cA cB μ) H) (hS : va_S (zw_A sh ad) s.heap H locs) (hl : lv_has ls nL (zw_l ad lo)) (hs : zm_srt lo = true)
    (kk : ∀ (H1 : Heap) (locs1 : List Loc) (ls1 : Array Slot), va_P D cl (zw_W sh ad cA cB μ') H1 → va_S (zw_A sh ad) s.heap H1 locs1 → lv_has ls1 nL (zw_l ad lo') → zm_srt lo' = true → W p l e R s m args below meth c H1 locs1 cells slots Q (F0 m pc' ls1 (st'.map (zw_v ad)))) :
    W p l e R s m args below meth c H locs cells slots Q (F0 m pc ls (st.map (zw_v ad))) := by
  obtain ⟨hx, hc, hml, hown, hts, hF, hinj⟩ := S
  simp only [zw_ck] at hck
  split at hck
  · cases hck
  rename_i ins len hd
  rw [Bool.and_eq_true] at hck
  obtain ⟨hnx, hck⟩ := hck
  have hnx := Nat.eq_of_beq_eq_true hnx
  simp only [zm_s1] at h
  cases h
  split at hck
  · simp only [Bool.and_eq_true, decide_eq_true_eq] at hck
    obtain ⟨h1, h2, h3⟩ := hck
    have h1 := Nat.eq_of_beq_eq_true h1
    subst h1
    subst hnx
    have h2 := List.contains_iff_mem.mp h2
    have g := K.2.2.2.2.2.2.2 _ h2
    subst h3
    exact lv_ldc hx hc hown (hts _ g) hd (kk H locs ls hP hS hl hs)
  · simp only [Bool.and_eq_true, decide_eq_true_eq] at hck
    obtain ⟨h1, h2, h3⟩ := hck
    have h1 := Nat.eq_of_beq_eq_true h1
    subst h1
    subst hnx
    have h2 := List.contains_iff_mem.mp h2
    have g := K.2.2.2.2.2.2.2 _ h2
    subst h3
    exact lv_ldcw hx hc hown (hts _ g) hd (kk H locs ls hP hS hl hs)
  · cases hck
theorem zw_o99 {op : Nat} (h : zm_s1 sh X (pc, nx, op + 29, a, b, k, sw) lo st μ = some (bs, pc', lo', st', μ')) : False := by
  simp only [zm_s1] at h
  cases h
theorem zw_one {q : zm_q} (S : zw_C p m c cc nL s args big (cn own) sh X ad cA cB D cl nest) (K : zw_K cl big nest cn tb) (hR : 1 ≤ R.frames ∧ 40 ≤ R.locals ∧ cells ≤ R.cells ∧ slots ≤ R.slots) (hck : zw_ck cc own nL ret tb np q = true) (h : zm_s1 sh X q lo st μ = some (bs, pc', lo', st', μ')) (hb : bs.all id = true)
    (hP : va_P D cl (zw_W sh ad cA cB μ) H) (hS : va_S (zw_A sh ad) s.heap H locs) (hl : lv_has ls nL (zw_l ad lo)) (hs : zm_srt lo = true)
    (kk : ∀ (H1 : Heap) (locs1 : List Loc) (ls1 : Array Slot), va_P D cl (zw_W sh ad cA cB μ') H1 → va_S (zw_A sh ad) s.heap H1 locs1 → lv_has ls1 nL (zw_l ad lo') → zm_srt lo' = true → W p l e R s m args below meth c H1 locs1 cells slots Q (F0 m pc' ls1 (st'.map (zw_v ad)))) :
    W p l e R s m args below meth c H locs cells slots Q (F0 m q.1 ls (st.map (zw_v ad))) := by
  obtain ⟨pc, nx, op, a, b, k, sw⟩ := q
  match op, hck, h with
  | 0, hck, h => exact zw_o0 S K hR hck h hb hP hS hl hs kk
  | 1, hck, h => exact zw_o1 S K hR hck h hb hP hS hl hs kk
  | 2, hck, h => exact zw_o2 S K hR hck h hb hP hS hl hs kk
  | 3, hck, h => exact zw_o3 S K hR hck h hb hP hS hl hs kk
  | 4, hck, h => exact zw_o4 S K hR hck h hb hP hS hl hs kk
  | 5, hck, h => exact zw_o5 S K hR hck h hb hP hS hl hs kk
  | 6, hck, h => exact zw_o6 S K hR hck h hb hP hS hl hs kk
  | 7, hck, h => exact zw_o7 S K hR hck h hb hP hS hl hs kk
  | 8, hck, h => exact zw_o8 S K hR hck h hb hP hS hl hs kk
  | 9, hck, h => exact zw_o9 S K hR hck h hb hP hS hl hs kk
  | 10, hck, h => exact zw_o10 S K hR hck h hb hP hS hl hs kk
  | 11, hck, h => exact zw_o11 S K hR hck h hb hP hS hl hs kk
  | 12, hck, h => exact zw_o12 S K hR hck h hb hP hS hl hs kk
  | 13, hck, h => exact zw_o13 S K hR hck h hb hP hS hl hs kk
  | 14, hck, h => exact zw_o14 S K hR hck h hb hP hS hl hs kk
  | 15, hck, h => exact zw_o15 S K hR hck h hb hP hS hl hs kk
  | 16, hck, h => exact zw_o16 S K hR hck h hb hP hS hl hs kk
  | 17, hck, h => exact zw_o17 S K hR hck h hb hP hS hl hs kk
  | 18, hck, h => exact zw_o18 S K hR hck h hb hP hS hl hs kk
  | 19, hck, h => exact zw_o19 S K hR hck h hb hP hS hl hs kk
  | 20, hck, h => exact zw_o20 S K hR hck h hb hP hS hl hs kk
  | 21, hck, h => exact zw_o21 S K hR hck h hb hP hS hl hs kk
  | 22, hck, h => exact zw_o22 S K hR hck h hb hP hS hl hs kk
  | 23, hck, h => exact zw_o23 S K hR hck h hb hP hS hl hs kk
  | 24, hck, h => exact zw_o24 S K hR hck h hb hP hS hl hs kk
  | 25, hck, h => exact zw_o25 S K hR hck h hb hP hS hl hs kk
  | 26, hck, h => exact zw_o26 S K hR hck h hb hP hS hl hs kk
  | 27, hck, h => exact zw_o27 S K hR hck h hb hP hS hl hs kk
  | 28, hck, h => exact zw_o28 S K hR hck h hb hP hS hl hs kk
  | op + 29, hck, h => exact (zw_o99 h).elim
end ZX
end
section
abbrev zw_Mt : Type := MethodName × ByteArray × Nat × Option FieldType × Nat
def zw_rm (d : Nat) : Room := { frames := d, cells := 0, slots := 0, locals := 64 * d }
def zw_ws (big : List Cond) (y : zw_Mt) : List Cond := Cond.code y.1 y.2.1 y.2.2.1 y.2.2.2.1 :: big
def zw_Q (sh : List zm_h) (ad : Nat → Nat) (cA cB : ClassId) (D : va_G) (cl : List vw_C) (r : Option zm_v) (μ' : zm_u) : Array Value → State → Outcome → State → Prop :=
  fun _ st oc t => (oc = .returned (r.map (zw_v ad)) ∧ va_P D cl (zw_W sh ad cA cB μ') t.heap) ∧ va_F (zw_A sh ad) st t
def zw_P (sh : List zm_h) (X : zm_T) (ad : Nat → Nat) (cA cB : ClassId) (D : va_G) (cl : List vw_C) (nest : List Cond) (as : List zm_v) (μ : zm_u) : Array Value → State → Prop :=
  va_Pc (as.map (zw_v ad)) (fun U => zw_F sh X ad cA cB D cl nest U ∧ va_P D cl (zw_W sh ad cA cB μ) U.heap)
def zw_Met (l : Launch) (sh : List zm_h) (X : zm_T) (ad : Nat → Nat) (cA cB : ClassId) (D : va_G) (cl : List vw_C) (big nest : List Cond) (M : Nat → zw_Mt) (d n : Nat) (as : List zm_v) (μ : zm_u) (r : Option zm_v) (μ' : zm_u) : Prop :=
  Met l (M n).1 (zw_ws big (M n)) (zw_rm d) (zw_P sh X ad cA cB D cl nest as μ) (zw_Q sh ad cA cB D cl r μ') 0 0 (zw_A sh ad)
def zw_mk (big nest : List Cond) (o : String) (i : Nat) (y : MethodName) : Prop := Cond.methodLink o i y ∈ big ∨ ∃ h : String, Cond.methodLinkNest o i y h ∈ nest
def zw_my (big : List Cond) (M : Nat → zw_Mt) (n np : Nat) : Prop := ((M n).1.cls ≠ "java/lang/invoke/MethodHandle" ∧ (M n).1.cls ≠ "java/lang/invoke/VarHandle" ∧ (parseMethodDescriptor (M n).1.desc).map (fun d => d.parameters.length) = some np) ∧ Cond.initialized (M n).1.cls ∈ big ∧ Cond.code (M n).1 (M n).2.1 (M n).2.2.1 (M n).2.2.2.1 ∈ big ∧ (M n).2.2.1 ≤ 45
/-- what the tables of calls say -/
def zw_KC (cl : List vw_C) (big nest : List Cond) (cn : Nat → String) (tb : Nat → zw_Tb) (M : Nat → zw_Mt) (np : Nat → Nat) (N : Nat) : Prop :=
  (∀ x ∈ tb 3, zw_my big M x.2.2.1 (np x.2.2.1) ∧ zw_mk big nest (cn x.1) x.2.1 (M x.2.2.1).1 ∧ Cond.static (M x.2.2.1).1 ∈ big ∧ x.2.2.1 < N ∧ np x.2.2.1 ≤ (M x.2.2.1).2.2.1) ∧
  (∀ x ∈ tb 4, zw_my big M x.2.2.1 (np x.2.2.1) ∧ zw_mk big nest (cn x.1) x.2.1 (M x.2.2.1).1 ∧ Cond.instanceMethod (M x.2.2.1).1 ∈ big ∧ Cond.selects (M x.2.2.1).1.cls (M x.2.2.1).1 (M x.2.2.1).1 ∈ big ∧ (∃ (T : u_T) (k : Nat), cl[x.2.2.2]? = some ((M x.2.2.1).1.cls, T, k)) ∧ x.2.2.1 < N ∧ np x.2.2.1 + 1 ≤ (M x.2.2.1).2.2.1) ∧
  (∀ w ∈ big, (w.onTables && w.keeps) = true ∨ ∃ ty, w = .arrayClass ty) ∧
  (∀ w ∈ nest, (∃ (a : String) (i : Nat) (b n d h : String), w = .fieldLinkNest a i b n d h) ∨ ∃ (a : String) (i : Nat) (x : MethodName) (h : String), w = .methodLinkNest a i x h)
theorem zw_F.to {sh : List zm_h} {X : zm_T} {ad : Nat → Nat} {cA cB : ClassId} {D : va_G} {cl : List vw_C} {nest : List Cond} {s U : State} {locs : List Loc} (hn : ∀ w ∈ nest, (∃ (a : String) (i : Nat) (b n d h : String), w = .fieldLinkNest a i b n d h) ∨ ∃ (a : String) (i : Nat) (x : MethodName) (h : String), w = .methodLinkNest a i x h)
    (hF : zw_F sh X ad cA cB D cl nest s) (hS : va_S (zw_A sh ad) s.heap U.heap locs) (hW : s.WarmedH U.vm) : zw_F sh X ad cA cB D cl nest U := by
  obtain ⟨h1, h2, h3, h4, h5⟩ := hF
  refine ⟨va_K.moved hW.alike h1, fun w hw => ?_, (va_Z.moved hW.alike h3).kept (fun a ha hb => hS.2.1 a ha hb), (va_T.moved hW.alike h4).kept (fun a ha hb => hS.2.1 a ha hb), (va_T.moved hW.alike h5).kept (fun a ha hb => hS.2.1 a ha hb)⟩
  rcases hn w hw with ⟨a, i, b, n, d, h, rfl⟩ | ⟨a, i, x, h, rfl⟩
  · exact va_Nw.warmF hW (h2 _ hw)
  · exact va_Nw.warmM hW (h2 _ hw)
theorem zw_tsw_at {pc d : Nat} {x : Int32} : ∀ (os : List Int) (lo : Int), -2000 ≤ lo → lo + os.length ≤ 2000 → (zm_sw (zw_tsw pc lo os) d x = d ∧ (x.toInt < lo ∨ lo + os.length ≤ x.toInt)) ∨ (¬ x.toInt < lo ∧ x.toInt < lo + os.length ∧ ∃ o, os[(x.toInt - lo).toNat]? = some o ∧ zm_sw (zw_tsw pc lo os) d x = ((pc : Int) + o).toNat) := by
  intro os
  induction os with
  | nil =>
    intro lo h1 h2
    refine Or.inl ⟨rfl, ?_⟩
    simp only [List.length_nil]
    omega
  | cons o r ih =>
    intro lo h1 h2
    simp only [List.length_cons] at h2 ⊢
    have hlo : (Int32.ofInt lo).toInt = lo := Int32.toInt_ofInt_of_le (by omega) (by omega)
    by_cases hx : x = Int32.ofInt lo
    · refine Or.inr ⟨by rw [hx, hlo]; omega, by rw [hx, hlo]; omega, o, ?_, ?_⟩
      · rw [hx, hlo]
        simp
      · show cond (decide (x = Int32.ofInt lo)) _ _ = _
        rw [decide_eq_true hx]
        rfl
    · have e1 : zm_sw (zw_tsw pc lo (o :: r)) d x = zm_sw (zw_tsw pc (lo + 1) r) d x := by
        show cond (decide (x = Int32.ofInt lo)) _ _ = _
        rw [decide_eq_false hx]
        rfl
      have hne : x.toInt ≠ lo := fun z => hx (Int32.toInt_inj.mp (by rw [hlo]; exact z))
      rcases ih (lo + 1) (by omega) (by omega) with ⟨g1, g2⟩ | ⟨g1, g2, o', g3, g4⟩
      · exact Or.inl ⟨by rw [e1]; exact g1, by omega⟩
      · refine Or.inr ⟨by omega, by omega, o', ?_, by rw [e1]; exact g4⟩
        have e2 : (x.toInt - lo).toNat = (x.toInt - (lo + 1)).toNat + 1 := by omega
        rw [e2, List.getElem?_cons_succ]
        exact g3
theorem zw_lsw_at {pc d : Nat} {x : Int32} {df : Int} (hd : (pc : Int) + df = (d : Int)) : ∀ (ps : List (Int × Int)), ps.all (fun y => decide (0 ≤ (pc : Int) + y.2 ∧ -1000 ≤ y.1 ∧ y.1 ≤ 1000)) = true → (pc : Int) + Op.lookupswitch.offset ps df x.toInt = ((zm_sw (ps.map (fun y => (Int32.ofInt y.1, ((pc : Int) + y.2).toNat))) d x : Nat) : Int) := by
  intro ps
  induction ps with
  | nil => intro _; exact hd
  | cons y r ih =>
    obtain ⟨a, o⟩ := y
    intro h
    simp only [List.all_cons, Bool.and_eq_true, decide_eq_true_eq] at h
    obtain ⟨⟨h1, h2, h3⟩, h4⟩ := h
    have ha : (Int32.ofInt a).toInt = a := Int32.toInt_ofInt_of_le (by omega) (by omega)
    rw [Op.lookupswitch.offset_cons]
    show _ = ((cond (decide (x = Int32.ofInt a)) ((pc : Int) + o).toNat (zm_sw (r.map (fun y => (Int32.ofInt y.1, ((pc : Int) + y.2).toNat))) d x) : Nat) : Int)
    by_cases hx : x = Int32.ofInt a
    · rw [if_pos (by rw [hx, ha]), decide_eq_true hx]
      show _ = ((((pc : Int) + o).toNat : Nat) : Int)
      omega
    · rw [if_neg (fun z => hx (Int32.toInt_inj.mp (by rw [ha]; exact z.symm))), decide_eq_false hx]
      exact ih h4
section ZY
variable {p : Program} {l : Launch} {e : Env} {R : Room} {s : State} {m : MethodId} {args : Array Value} {below : List Frame} {meth : Method} {c : Code} {cells slots : Nat} {Q : State → Prop}
variable {sh : List zm_h} {X : zm_T} {ad : Nat → Nat} {cA cB : ClassId} {D : va_G} {cl : List vw_C} {big nest : List Cond} {tb : Nat → zw_Tb} {cn : Nat → String} {cc : ByteArray} {nL own N : Nat} {ret : Option FieldType} {np : Nat → Nat} {M : Nat → zw_Mt}
variable {pc nx a b : Nat} {k : Int32} {sw : List (Int32 × Nat)} {lo : zm_L} {st : List zm_v} {μ μ' : zm_u} {H : Heap} {locs : List Loc} {ls : Array Slot}
theorem zw_c30 {x : Int32} {r : List zm_v} (S : zw_C p m c cc nL s args big (cn own) sh X ad cA cB D cl nest) (hck : zw_ck cc own nL ret tb np (pc, nx, 30, a, b, k, sw) = true)
    (kk : W p l e R s m args below meth c H locs cells slots Q (F0 m (cond (zm_c b x 0) a nx) ls (r.map (zw_v ad)))) : W p l e R s m args below meth c H locs cells slots Q (F0 m pc ls (.int x :: r.map (zw_v ad))) := by
  obtain ⟨hx, hc, -⟩ := S
  simp only [zw_ck] at hck
  split at hck
  · cases hck
  rename_i ins len hd
  rw [Bool.and_eq_true] at hck
  obtain ⟨hnx, hck⟩ := hck
  have hnx := Nat.eq_of_beq_eq_true hnx
  split at hck
  · rename_i cd o
    simp only [Bool.and_eq_true, decide_eq_true_eq] at hck
    obtain ⟨h1, h2, h3⟩ := hck
    have h1 := Nat.eq_of_beq_eq_true h1
    subst h1
    subst hnx
    subst h2
    match b, hd, kk with
    | 0, hd, kk => exact lv_if_eq hx hc hd h3 (fun z => by have kk := kk; rw [show zm_c 0 x 0 = true from decide_eq_true z] at kk; exact kk) (fun z => by have kk := kk; rw [show zm_c 0 x 0 = false from decide_eq_false z] at kk; exact kk)
    | 1, hd, kk => exact lv_if_ne hx hc hd h3 (fun z => by have kk := kk; rw [show zm_c 1 x 0 = true from decide_eq_true z] at kk; exact kk) (fun z => by have kk := kk; rw [show zm_c 1 x 0 = false from decide_eq_false (fun y => y z)] at kk; exact kk)
    | 2, hd, kk => exact lv_if_lt hx hc hd h3 (fun z => by have kk := kk; rw [show zm_c 2 x 0 = true from decide_eq_true z] at kk; exact kk) (fun z => by have kk := kk; rw [show zm_c 2 x 0 = false from decide_eq_false z] at kk; exact kk)
    | 3, hd, kk => exact lv_if_ge hx hc hd h3 (fun z => by have kk := kk; rw [show zm_c 3 x 0 = true from decide_eq_true z] at kk; exact kk) (fun z => by have kk := kk; rw [show zm_c 3 x 0 = false from decide_eq_false z] at kk; exact kk)
    | 4, hd, kk => exact lv_if_gt hx hc hd h3 (fun z => by have kk := kk; rw [show zm_c 4 x 0 = true from decide_eq_true z] at kk; exact kk) (fun z => by have kk := kk; rw [show zm_c 4 x 0 = false from decide_eq_false z] at kk; exact kk)
    | n + 5, hd, kk => exact lv_if_le hx hc hd h3 (fun z => by have kk := kk; rw [show zm_c (n + 5) x 0 = true from decide_eq_true z] at kk; exact kk) (fun z => by have kk := kk; rw [show zm_c (n + 5) x 0 = false from decide_eq_false z] at kk; exact kk)
  · cases hck
theorem zw_c31 {x y : Int32} {r : List zm_v} (S : zw_C p m c cc nL s args big (cn own) sh X ad cA cB D cl nest) (hck : zw_ck cc own nL ret tb np (pc, nx, 31, a, b, k, sw) = true)
    (kk : W p l e R s m args below meth c H locs cells slots Q (F0 m (cond (zm_c b x y) a nx) ls (r.map (zw_v ad)))) : W p l e R s m args below meth c H locs cells slots Q (F0 m pc ls (.int y :: .int x :: r.map (zw_v ad))) := by
  obtain ⟨hx, hc, -⟩ := S
  simp only [zw_ck] at hck
  split at hck
  · cases hck
  rename_i ins len hd
  rw [Bool.and_eq_true] at hck
  obtain ⟨hnx, hck⟩ := hck
  have hnx := Nat.eq_of_beq_eq_true hnx
  split at hck
  · rename_i cd o
    simp only [Bool.and_eq_true, decide_eq_true_eq] at hck
    obtain ⟨h1, h2, h3⟩ := hck
    have h1 := Nat.eq_of_beq_eq_true h1
    subst h1
    subst hnx
    subst h2
    match b, hd, kk with
    | 0, hd, kk => exact lv_icmp_eq hx hc hd h3 (fun z => by have kk := kk; rw [show zm_c 0 x y = true from decide_eq_true z] at kk; exact kk) (fun z => by have kk := kk; rw [show zm_c 0 x y = false from decide_eq_false z] at kk; exact kk)
    | 1, hd, kk => exact lv_icmp_ne hx hc hd h3 (fun z => by have kk := kk; rw [show zm_c 1 x y = true from decide_eq_true z] at kk; exact kk) (fun z => by have kk := kk; rw [show zm_c 1 x y = false from decide_eq_false (fun q => q z)] at kk; exact kk)
    | 2, hd, kk => exact lv_icmp_lt hx hc hd h3 (fun z => by have kk := kk; rw [show zm_c 2 x y = true from decide_eq_true z] at kk; exact kk) (fun z => by have kk := kk; rw [show zm_c 2 x y = false from decide_eq_false z] at kk; exact kk)
    | 3, hd, kk => exact lv_icmp_ge hx hc hd h3 (fun z => by have kk := kk; rw [show zm_c 3 x y = true from decide_eq_true z] at kk; exact kk) (fun z => by have kk := kk; rw [show zm_c 3 x y = false from decide_eq_false z] at kk; exact kk)
    | 4, hd, kk => exact lv_icmp_gt hx hc hd h3 (fun z => by have kk := kk; rw [show zm_c 4 x y = true from decide_eq_true z] at kk; exact kk) (fun z => by have kk := kk; rw [show zm_c 4 x y = false from decide_eq_false z] at kk; exact kk)
    | n + 5, hd, kk => exact lv_icmp_le hx hc hd h3 (fun z => by have kk := kk; rw [show zm_c (n + 5) x y = true from decide_eq_true z] at kk; exact kk) (fun z => by have kk := kk; rw [show zm_c (n + 5) x y = false from decide_eq_false z] at kk; exact kk)
  · cases hck
theorem zw_c32 {x : Int32} {r : List zm_v} (S : zw_C p m c cc nL s args big (cn own) sh X ad cA cB D cl nest) (hck : zw_ck cc own nL ret tb np (pc, nx, 32, a, b, k, sw) = true)
    (kk : W p l e R s m args below meth c H locs cells slots Q (F0 m (zm_sw sw a x) ls (r.map (zw_v ad)))) : W p l e R s m args below meth c H locs cells slots Q (F0 m pc ls (.int x :: r.map (zw_v ad))) := by
  obtain ⟨hx, hc, -⟩ := S
  simp only [zw_ck] at hck
  split at hck
  · cases hck
  rename_i ins len hd
  rw [Bool.and_eq_true] at hck
  obtain ⟨hnx, hck⟩ := hck
  split at hck
  · rename_i df lw hi os
    simp only [Bool.and_eq_true, decide_eq_true_eq] at hck
    obtain ⟨h1, h2, h3, ⟨h4, h5, h6⟩, h7⟩ := hck
    have hlen : os.toList.length = os.size := Array.length_toList
    subst h2
    rcases zw_tsw_at (pc := pc) (d := a) (x := x) os.toList lw (by omega) (by rw [hlen]; omega) with ⟨g1, g2⟩ | ⟨g1, g2, o, g3, g4⟩
    · rw [g1] at kk
      exact lv_tableOut hx hc hd (by rw [hlen] at g2; omega) h1 kk
    · rw [g4] at kk
      have ho : 0 ≤ (pc : Int) + o := by
        rw [List.all_eq_true] at h7
        exact of_decide_eq_true (h7 o (List.mem_of_getElem? g3))
      refine lv_tableIn hx hc hd g1 (by rw [hlen] at g2; omega) (off := o) ?_ (by omega) kk
      rw [← Array.getElem?_toList]
      exact g3
  · rename_i df ps
    simp only [Bool.and_eq_true, decide_eq_true_eq] at hck
    obtain ⟨h1, h2, h3, h4⟩ := hck
    subst h2
    refine lv_lookup hx hc hd ?_ rfl (zw_lsw_at h1 ps.toList ?_) kk
    · simpa using h3
    · simpa using h4
  · cases hck
theorem zw_after {r : Option zm_v} {st0 rest : List Value} {A1 : Array Value} (hr : va_Run p l e R s m args below meth c H locs cells slots 0 0 (F0 m pc ls st0) rest (zw_Q sh ad cA cB D cl r μ' A1) (zw_A sh ad)) (hS : va_S (zw_A sh ad) s.heap H locs)
    (kk : ∀ (H1 : Heap) (locs1 : List Loc), va_P D cl (zw_W sh ad cA cB μ') H1 → va_S (zw_A sh ad) s.heap H1 locs1 → W p l e R s m args below meth c H1 locs1 cells slots Q (F0 m (pc + 3) ls ((r.map (zw_v ad)).toList ++ rest))) : W p l e R s m args below meth c H locs cells slots Q (F0 m pc ls st0) := by
  intro T hT X'
  obtain ⟨v, st₀, t, T', L, h0, X', hL, e1, e2, ⟨⟨hv, hP⟩, hz, hk⟩, st⟩ := hr T hT X'
  cases hv
  rw [h0] at hz hk
  obtain ⟨t2, a1, b1⟩ := kk T'.heap (locs ++ L) (by rw [e1]; exact hP)
    ⟨Nat.le_trans hS.1 (by rw [e1]; exact hz), fun q h1 h2 => by rw [e1, hk q (Nat.lt_of_lt_of_le h1 hS.1) h2]; exact hS.2.1 q h1 h2, fun q hq => by
      rcases List.mem_append.mp hq with h | h
      · exact hS.2.2 q h
      · exact hL q h⟩ T' rfl X'
  exact ⟨t2, st t2 a1, b1⟩
theorem zw_goodIn {y : zw_Mt} (hg : ∀ w ∈ big, (w.onTables && w.keeps) = true ∨ ∃ ty, w = .arrayClass ty) (hy : Cond.code y.1 y.2.1 y.2.2.1 y.2.2.2.1 ∈ big) : GoodIn big (zw_ws big y) := by
  intro w hw
  rcases List.mem_cons.mp hw with rfl | hw
  · exact ⟨hy, hg _ hy⟩
  · exact ⟨hw, hg _ hw⟩
theorem zw_blind {as : List zm_v} (hn : ∀ w ∈ nest, (∃ (a : String) (i : Nat) (b n d h : String), w = .fieldLinkNest a i b n d h) ∨ ∃ (a : String) (i : Nat) (x : MethodName) (h : String), w = .methodLinkNest a i x h) : FrameBlind (zw_P sh X ad cA cB D cl nest as μ) := by
  intro a U g mk q
  obtain ⟨q0, ⟨h1, h2, h3, h4, h5⟩, hP⟩ := q
  refine ⟨q0, ⟨va_K.moved (u := U) (U := U.calling g mk a) (Vm.Alike.refl U.vm) h1, fun w hw => ?_, va_Z.moved (u := U) (U := U.calling g mk a) (Vm.Alike.refl U.vm) h3, va_T.moved (u := U) (U := U.calling g mk a) (Vm.Alike.refl U.vm) h4, va_T.moved (u := U) (U := U.calling g mk a) (Vm.Alike.refl U.vm) h5⟩, hP⟩
  rcases hn w hw with ⟨a1, i, b, n, d, h, rfl⟩ | ⟨a1, i, x, h, rfl⟩
  · exact va_Nw.same (u := U) rfl rfl (h2 _ hw)
  · exact va_Nw.same (u := U) rfl rfl (h2 _ hw)
theorem zw_c35 {d : Nat} {r : Option zm_v} (S : zw_C p m c cc nL s args big (cn own) sh X ad cA cB D cl nest) (KC : zw_KC cl big nest cn tb M np N) (hR : d + 1 ≤ R.frames ∧ 64 * (d + 1) ≤ R.locals ∧ cells ≤ R.cells ∧ slots ≤ R.slots) (hck : zw_ck cc own nL ret tb np (pc, nx, 35, a, b, k, sw) = true) (hlen : (Nat.ble b st.length && Nat.ble (st.drop b).length 8) = true)
    (hM : zw_Met l sh X ad cA cB D cl big nest M d a (st.take b).reverse μ r μ') (hP : va_P D cl (zw_W sh ad cA cB μ) H) (hS : va_S (zw_A sh ad) s.heap H locs) (hl : lv_has ls nL (zw_l ad lo))
    (kk : ∀ (H1 : Heap) (locs1 : List Loc), va_P D cl (zw_W sh ad cA cB μ') H1 → va_S (zw_A sh ad) s.heap H1 locs1 → W p l e R s m args below meth c H1 locs1 cells slots Q (F0 m nx ls ((r.toList ++ st.drop b).map (zw_v ad)))) : W p l e R s m args below meth c H locs cells slots Q (F0 m pc ls (st.map (zw_v ad))) := by
  obtain ⟨hx, hc, hml, hown, hts, hF, hinj⟩ := S
  simp only [zw_ck] at hck
  split at hck
  · cases hck
  rename_i ins len hd
  rw [Bool.and_eq_true] at hck
  obtain ⟨hnx, hck⟩ := hck
  have hnx := Nat.eq_of_beq_eq_true hnx
  split at hck
  · rename_i i
    simp only [Bool.and_eq_true] at hck
    obtain ⟨h1, h2, h3⟩ := hck
    have h1 := Nat.eq_of_beq_eq_true h1
    have h3 := Nat.eq_of_beq_eq_true h3
    subst h1
    subst hnx
    have h2 := List.contains_iff_mem.mp h2
    obtain ⟨⟨y1, y2, y3, y4⟩, g2, g3, g4⟩ := KC.1 _ h2
    rw [Bool.and_eq_true] at hlen
    have hb1 : b ≤ st.length := Nat.le_of_ble_eq_true hlen.1
    have hb2 : (st.drop b).length ≤ 8 := Nat.le_of_ble_eq_true hlen.2
    have hSt : CallFix p m c cc nL s args big (cn own) := ⟨hx, hc, hml, hown, hts⟩
    have hp : PreS s H (zw_P sh X ad cA cB D cl nest (st.take b).reverse μ) ((st.take b).reverse.map (zw_v ad)) := ⟨zw_blind KC.2.2.2, fun U hU hW => ⟨rfl, zw_F.to KC.2.2.2 hF (by rw [hU]; exact hS) hW, by rw [hU]; exact hP⟩⟩
    have hn : ((st.take b).reverse.map (zw_v ad)).length = np a := by
      rw [List.length_map, List.length_reverse, List.length_take]
      omega
    have hst : st.map (zw_v ad) = ((st.take b).reverse.map (zw_v ad)).reverse ++ (st.drop b).map (zw_v ad) := by
      rw [← List.map_reverse, List.reverse_reverse, ← List.map_append, List.take_append_drop]
    have hrr : (zw_rm d).frames + 1 ≤ R.frames ∧ 8 + ((M a).2.2.1 + 11) + (zw_rm d).locals ≤ R.locals := by
      show d + 1 ≤ R.frames ∧ 8 + ((M a).2.2.1 + 11) + 64 * d ≤ R.locals
      have y4' : (M a).2.2.1 ≤ 45 := y4
      omega
    have hw8 : 2 * (F0 m pc ls (st.map (zw_v ad))).monitorRoom + (((st.drop b).map (zw_v ad)).map fun v => v.category).sum ≤ 8 := by
      rw [zw_cat]
      show 2 * 0 + _ ≤ 8
      omega
    have hre : (r.map (zw_v ad)).toList ++ (st.drop b).map (zw_v ad) = (r.toList ++ st.drop b).map (zw_v ad) := by
      rw [List.map_append]
      cases r <;> rfl
    rcases g2 with g2 | ⟨ho, g2⟩
    · have hr := va_runS (R := R) (below := below) (meth := meth) (e := e) (cells := cells) (slots := slots) (locs := locs) (g := F0 m pc ls (st.map (zw_v ad))) hSt hM ⟨callB_of (np a) hts (zw_goodIn KC.2.2.1 y3) rfl rfl rfl (hts _ y2) (hts _ g2) y1 hrr, hts _ g3⟩ hp rfl hn hl.1 hst hw8 hd ⟨hR.2.2.1, hR.2.2.2⟩
      exact zw_after hr hS (fun H1 locs1 q1 q2 => by rw [hre]; exact kk H1 locs1 q1 q2)
    · have hr := va_runSN (R := R) (below := below) (meth := meth) (e := e) (cells := cells) (slots := slots) (locs := locs) (g := F0 m pc ls (st.map (zw_v ad))) hSt hM ⟨va_cnB (np a) hts (zw_goodIn KC.2.2.1 y3) rfl rfl rfl (hF.2.1 _ g2) (hts _ y2) y1 hrr, hts _ g3, trivial⟩ hp rfl hn hl.1 hst hw8 hd ⟨hR.2.2.1, hR.2.2.2⟩
      exact zw_after hr hS (fun H1 locs1 q1 q2 => by rw [hre]; exact kk H1 locs1 q1 q2)
  · cases hck
theorem zw_c36 {d : Nat} {r : Option zm_v} (S : zw_C p m c cc nL s args big (cn own) sh X ad cA cB D cl nest) (KC : zw_KC cl big nest cn tb M np N) (hR : d + 1 ≤ R.frames ∧ 64 * (d + 1) ≤ R.locals ∧ cells ≤ R.cells ∧ slots ≤ R.slots) (hck : zw_ck cc own nL ret tb np (pc, nx, 36, a, b, k, sw) = true) (hlen : (Nat.ble b st.length && Nat.ble (st.drop b).length 8 && zm_is sh k.toNatClampNeg (st.take b).reverse) = true)
    (hM : zw_Met l sh X ad cA cB D cl big nest M d a (st.take b).reverse μ r μ') (hP : va_P D cl (zw_W sh ad cA cB μ) H) (hS : va_S (zw_A sh ad) s.heap H locs) (hl : lv_has ls nL (zw_l ad lo))
    (kk : ∀ (H1 : Heap) (locs1 : List Loc), va_P D cl (zw_W sh ad cA cB μ') H1 → va_S (zw_A sh ad) s.heap H1 locs1 → W p l e R s m args below meth c H1 locs1 cells slots Q (F0 m nx ls ((r.toList ++ st.drop b).map (zw_v ad)))) : W p l e R s m args below meth c H locs cells slots Q (F0 m pc ls (st.map (zw_v ad))) := by
  obtain ⟨hx, hc, hml, hown, hts, hF, hinj⟩ := S
  simp only [zw_ck] at hck
  split at hck
  · cases hck
  rename_i ins len hd
  rw [Bool.and_eq_true] at hck
  obtain ⟨hnx, hck⟩ := hck
  have hnx := Nat.eq_of_beq_eq_true hnx
  split at hck
  · rename_i i
    simp only [Bool.and_eq_true] at hck hlen
    obtain ⟨h1, h2, h3⟩ := hck
    have h1 := Nat.eq_of_beq_eq_true h1
    have h3 := Nat.eq_of_beq_eq_true h3
    subst h1
    subst hnx
    have h2 := List.contains_iff_mem.mp h2
    obtain ⟨⟨y1, y2, y3, y4⟩, g2, g3, g5, ⟨T, kT, g6⟩, g4⟩ := KC.2.1 _ h2
    obtain ⟨⟨hl1, hl2⟩, his⟩ := hlen
    have hb1 : b ≤ st.length := Nat.le_of_ble_eq_true hl1
    have hb2 : (st.drop b).length ≤ 8 := Nat.le_of_ble_eq_true hl2
    have hSt : CallFix p m c cc nL s args big (cn own) := ⟨hx, hc, hml, hown, hts⟩
    generalize has : (st.take b).reverse = as at hM his
    have hst0 : st = as.reverse ++ st.drop b := by
      rw [← has, List.reverse_reverse, List.take_append_drop]
    have hlas : as.length = b := by
      rw [← has, List.length_reverse, List.length_take]
      omega
    match as, his, hM, hst0, hlas with
    | .inr j :: ar, his, hM, hst0, hlas =>
      simp only [zm_is] at his
      split at his
      · rename_i ci fs hj
        have hci := Nat.eq_of_beq_eq_true his
        subst hci
        have hw := zw_at (ad := ad) (cA := cA) (cB := cB) (μ := μ) hj
        obtain ⟨cellB, q1, q2, q3⟩ := va_recv hF.1 hP g6 hw
        have hp : PreV s H (M a).1.cls (ad j) (zw_P sh X ad cA cB D cl nest (.inr j :: ar) μ) (ar.map (zw_v ad)) := ⟨zw_blind KC.2.2.2, ⟨cellB, q1, q2, q3⟩, fun U hU hW => ⟨rfl, zw_F.to KC.2.2.2 hF (by rw [hU]; exact hS) hW, by rw [hU]; exact hP⟩⟩
        have hn : (ar.map (zw_v ad)).length = np a := by
          rw [List.length_map]
          simp only [List.length_cons] at hlas
          omega
        have hst : st.map (zw_v ad) = (ar.map (zw_v ad)).reverse ++ .ref (ad j) :: (st.drop b).map (zw_v ad) := by
          have h9 := congrArg (List.map (zw_v ad)) hst0
          rw [h9]
          simp only [List.reverse_cons, List.map_append, List.map_reverse, List.map_cons, List.map_nil, List.append_assoc, List.cons_append, List.nil_append, zw_v]
        have hrr : (zw_rm d).frames + 1 ≤ R.frames ∧ 8 + ((M a).2.2.1 + 11) + (zw_rm d).locals ≤ R.locals := by
          show d + 1 ≤ R.frames ∧ 8 + ((M a).2.2.1 + 11) + 64 * d ≤ R.locals
          have y4' : (M a).2.2.1 ≤ 45 := y4
          omega
        have hw8 : 2 * (F0 m pc ls (st.map (zw_v ad))).monitorRoom + (((st.drop b).map (zw_v ad)).map fun v => v.category).sum ≤ 8 := by
          rw [zw_cat]
          show 2 * 0 + _ ≤ 8
          omega
        have hre : (r.map (zw_v ad)).toList ++ (st.drop b).map (zw_v ad) = (r.toList ++ st.drop b).map (zw_v ad) := by
          rw [List.map_append]
          cases r <;> rfl
        rcases g2 with g2 | ⟨ho, g2⟩
        · have hr := va_runV (R := R) (below := below) (meth := meth) (e := e) (cells := cells) (slots := slots) (locs := locs) (g := F0 m pc ls (st.map (zw_v ad))) hSt hM ⟨callB_of (np a) hts (zw_goodIn KC.2.2.1 y3) rfl rfl rfl (hts _ y2) (hts _ g2) y1 hrr, hts _ g3, hts _ g5⟩ hp rfl hn hl.1 hst hw8 hd ⟨hR.2.2.1, hR.2.2.2⟩
          exact zw_after hr hS (fun H1 locs1 q1 q2 => by rw [hre]; exact kk H1 locs1 q1 q2)
        · have hr := va_runVN (R := R) (below := below) (meth := meth) (e := e) (cells := cells) (slots := slots) (locs := locs) (g := F0 m pc ls (st.map (zw_v ad))) hSt hM ⟨va_cnB (np a) hts (zw_goodIn KC.2.2.1 y3) rfl rfl rfl (hF.2.1 _ g2) (hts _ y2) y1 hrr, hts _ g3, hts _ g5⟩ hp rfl hn hl.1 hst hw8 hd ⟨hR.2.2.1, hR.2.2.2⟩
          exact zw_after hr hS (fun H1 locs1 q1 q2 => by rw [hre]; exact kk H1 locs1 q1 q2)
      · cases his
    | .inl _ :: _, his, _, _, _ => cases his
    | [], his, _, _, _ => cases his
  · cases hck
theorem zw_c33 (hck : zw_ck cc own nL ret tb np (pc, nx, 33, a, b, k, sw) = true) : decode cc pc = .ok (.ireturn, 1) ∧ ret = some .int := by
  simp only [zw_ck] at hck
  split at hck
  · cases hck
  rename_i ins len hd
  rw [Bool.and_eq_true] at hck
  obtain ⟨hnx, hck⟩ := hck
  split at hck
  · simp only [Bool.and_eq_true, decide_eq_true_eq] at hck
    obtain ⟨h1, h2⟩ := hck
    have h1 := Nat.eq_of_beq_eq_true h1
    subst h1
    exact ⟨hd, h2⟩
  · cases hck
theorem zw_c34 (hck : zw_ck cc own nL ret tb np (pc, nx, 34, a, b, k, sw) = true) : decode cc pc = .ok (.return_, 1) ∧ ret = none := by
  simp only [zw_ck] at hck
  split at hck
  · cases hck
  rename_i ins len hd
  rw [Bool.and_eq_true] at hck
  obtain ⟨hnx, hck⟩ := hck
  split at hck
  · simp only [Bool.and_eq_true, decide_eq_true_eq] at hck
    obtain ⟨h1, h2⟩ := hck
    have h1 := Nat.eq_of_beq_eq_true h1
    subst h1
    exact ⟨hd, h2⟩
  · cases hck
theorem zw_c37 (hck : zw_ck cc own nL ret tb np (pc, nx, 37, a, b, k, sw) = true) : decode cc pc = .ok (.ireturn, 1) ∧ ret = some .boolean := by
  simp only [zw_ck] at hck
  split at hck
  · cases hck
  rename_i ins len hd
  rw [Bool.and_eq_true] at hck
  obtain ⟨hnx, hck⟩ := hck
  split at hck
  · simp only [Bool.and_eq_true, decide_eq_true_eq] at hck
    obtain ⟨h1, h2⟩ := hck
    have h1 := Nat.eq_of_beq_eq_true h1
    subst h1
    exact ⟨hd, h2⟩
  · cases hck
theorem zw_takeL {st : List zm_v} {b n : Nat} (h : b ≤ n) : (st.take b).reverse.length ≤ n := by
  rw [List.length_reverse, List.length_take]
  omega
theorem zw_c35n (KC : zw_KC cl big nest cn tb M np N) (hck : zw_ck cc own nL ret tb np (pc, nx, 35, a, b, k, sw) = true) : a < N ∧ b ≤ (M a).2.2.1 := by
  simp only [zw_ck] at hck
  split at hck
  · cases hck
  rename_i ins len hd
  rw [Bool.and_eq_true] at hck
  obtain ⟨hnx, hck⟩ := hck
  split at hck
  · simp only [Bool.and_eq_true] at hck
    obtain ⟨h1, h2, h3⟩ := hck
    have h2 := List.contains_iff_mem.mp h2
    have h3 := Nat.eq_of_beq_eq_true h3
    have h4 := (KC.1 _ h2).2.2.2
    exact ⟨h4.1, by rw [h3]; exact h4.2⟩
  · cases hck
theorem zw_c36n (KC : zw_KC cl big nest cn tb M np N) (hck : zw_ck cc own nL ret tb np (pc, nx, 36, a, b, k, sw) = true) : a < N ∧ b ≤ (M a).2.2.1 := by
  simp only [zw_ck] at hck
  split at hck
  · cases hck
  rename_i ins len hd
  rw [Bool.and_eq_true] at hck
  obtain ⟨hnx, hck⟩ := hck
  split at hck
  · simp only [Bool.and_eq_true] at hck
    obtain ⟨h1, h2, h3⟩ := hck
    have h2 := List.contains_iff_mem.mp h2
    have h3 := Nat.eq_of_beq_eq_true h3
    have h4 := (KC.2.1 _ h2).2.2.2.2.2
    exact ⟨h4.1, by rw [h3]; exact h4.2⟩
  · cases hck
theorem zm_at_mem : ∀ {t : List zm_q} {pc : Nat} {q : zm_q}, zm_at t pc = some q → q ∈ t ∧ q.1 = pc := by
  intro t
  induction t with
  | nil => intro pc q h; cases h
  | cons x r ih =>
    intro pc q h
    unfold zm_at at h
    cases hb : Nat.beq x.1 pc with
    | true =>
      rw [hb] at h
      cases h
      exact ⟨List.mem_cons_self, Nat.eq_of_beq_eq_true hb⟩
    | false =>
      rw [hb] at h
      obtain ⟨h1, h2⟩ := ih h
      exact ⟨List.mem_cons_of_mem _ h1, h2⟩
theorem zw_inner {d : Nat} {call : Nat → List zm_v → zm_u → Option (Option zm_v × zm_u)} {t : List zm_q} {r : Option zm_v} (S : zw_C p m c cc nL s args big (cn own) sh X ad cA cB D cl nest) (K : zw_K cl big nest cn tb) (KC : zw_KC cl big nest cn tb M np N) (hR : d + 1 ≤ R.frames ∧ 64 * (d + 1) ≤ R.locals ∧ cells ≤ R.cells ∧ slots ≤ R.slots) 
    (hfin : ∀ (H : Heap) (locs : List Loc) (ls : Array Slot) (pc : Nat), va_P D cl (zw_W sh ad cA cB μ') H → va_S (zw_A sh ad) s.heap H locs → ((∃ v : Int32, r = some (.inl v) ∧ decode cc pc = .ok (.ireturn, 1) ∧ (ret = some .int ∨ (ret = some .boolean ∧ (v = 0 ∨ v = 1)))) ∨ (r = none ∧ decode cc pc = .ok (.return_, 1) ∧ ret = none)) → W p l e R s m args below meth c H locs cells slots Q (F0 m pc ls (r.map (zw_v ad)).toList))
    (hck : ∀ q ∈ t, zw_ck cc own nL ret tb np q = true) (ih : ∀ n as μ r μ', n < N → as.length ≤ (M n).2.2.1 → call n as μ = some (r, μ') → zw_Met l sh X ad cA cB D cl big nest M d n as μ r μ') :
    ∀ (f pc : Nat) (lo : zm_L) (st : List zm_v) (μ : zm_u) (H : Heap) (locs : List Loc) (ls : Array Slot), zm_loop sh X call t f pc lo st μ = some (r, μ') → va_P D cl (zw_W sh ad cA cB μ) H → va_S (zw_A sh ad) s.heap H locs → lv_has ls nL (zw_l ad lo) → zm_srt lo = true →
      W p l e R s m args below meth c H locs cells slots Q (F0 m pc ls (st.map (zw_v ad))) := by
  have hR2 : 1 ≤ R.frames ∧ 40 ≤ R.locals ∧ cells ≤ R.cells ∧ slots ≤ R.slots := by omega
  intro f
  induction f with
  | zero => intro pc lo st μ H locs ls h; cases h
  | succ f ihf =>
    intro pc lo st μ H locs ls h hP hS hl hs
    unfold zm_loop at h
    cases hq : zm_at t pc with
    | none => rw [hq] at h; cases h
    | some q =>
      rw [hq] at h
      simp only at h
      obtain ⟨hqm, hqp⟩ := zm_at_mem hq
      have hc := hck q hqm
      unfold zm_st at h
      cases h1 : zm_s1 sh X q lo st μ with
      | some y =>
        obtain ⟨bs, pc', lo', st', μ1⟩ := y
        rw [h1] at h
        simp only at h
        cases hb : bs.all id with
        | false => rw [hb] at h; cases h
        | true =>
          rw [hb] at h
          simp only [cond_true] at h
          have k9 := zw_one (p := p) (l := l) (e := e) (R := R) (m := m) (below := below) (meth := meth) (cells := cells) (slots := slots) (Q := Q) S K hR2 hc h1 hb hP hS hl hs (fun H1 locs1 ls1 q1 q2 q3 q4 => ihf pc' lo' st' μ1 H1 locs1 ls1 h q1 q2 q3 q4)
          rw [hqp] at k9
          exact k9
      | none =>
        rw [h1] at h
        simp only at h
        cases h2 : zm_s2 sh call q lo st μ with
        | none => rw [h2] at h; cases h
        | some y =>
          rw [h2] at h
          obtain ⟨pc0, nx, op, a, b, k, sw⟩ := q
          simp only at hqp
          subst hqp
          unfold zm_s2 at h2
          simp only at h2
          split at h2
          · split at h2
            · cases h2
              exact zw_c30 S hc (ihf _ lo _ μ H locs ls h hP hS hl hs)
            · cases h2
          · split at h2
            · cases h2
              exact zw_c31 S hc (ihf _ lo _ μ H locs ls h hP hS hl hs)
            · cases h2
          · split at h2
            · cases h2
              exact zw_c32 S hc (ihf _ lo _ μ H locs ls h hP hS hl hs)
            · cases h2
          · split at h2
            · cases h2
              cases h
              have hd := zw_c33 hc
              exact hfin H locs ls _ hP hS (Or.inl ⟨_, rfl, hd.1, Or.inl hd.2⟩)
            · cases h2
          · split at h2
            · cases h2
              cases h
              have hd := zw_c34 hc
              exact hfin H locs ls _ hP hS (Or.inr ⟨rfl, hd.1, hd.2⟩)
            · cases h2
          · cases hb : (Nat.ble b st.length && Nat.ble (st.drop b).length 8) with
            | false => rw [hb] at h2; cases h2
            | true =>
              rw [hb] at h2
              simp only [cond_true] at h2
              split at h2
              · rename_i r1 μ1 hcl
                cases h2
                exact zw_c35 S KC hR hc hb (ih _ _ _ _ _ (zw_c35n KC hc).1 (zw_takeL (zw_c35n KC hc).2) hcl) hP hS hl (fun H1 locs1 q1 q2 => ihf _ lo _ μ1 H1 locs1 ls h q1 q2 hl hs)
              · cases h2
          · cases hb : (Nat.ble b st.length && Nat.ble (st.drop b).length 8 && zm_is sh k.toNatClampNeg (st.take b).reverse) with
            | false => rw [hb] at h2; cases h2
            | true =>
              rw [hb] at h2
              simp only [cond_true] at h2
              split at h2
              · rename_i r1 μ1 hcl
                cases h2
                exact zw_c36 S KC hR hc hb (ih _ _ _ _ _ (zw_c36n KC hc).1 (zw_takeL (zw_c36n KC hc).2) hcl) hP hS hl (fun H1 locs1 q1 q2 => ihf _ lo _ μ1 H1 locs1 ls h q1 q2 hl hs)
              · cases h2
          · split at h2
            · rename_i v
              cases hv : decide (v = 0 ∨ v = 1) with
              | false => rw [hv] at h2; cases h2
              | true =>
                rw [hv] at h2
                cases h2
                cases h
                have hd := zw_c37 hc
                have hv := of_decide_eq_true hv
                exact hfin H locs ls _ hP hS (Or.inl ⟨_, rfl, hd.1, Or.inr ⟨hd.2, hv⟩⟩)
            · cases h2
          · cases h2
theorem zw_args {ad : Nat → Nat} : ∀ (as : List zm_v) (i : Nat), lv_args i (as.map (zw_v ad)) = zw_l ad (zm_args i as) := by
  intro as
  induction as with
  | nil => intro i; rfl
  | cons v r ih =>
    intro i
    have hv : (zw_v ad v).category = 1 := by cases v <;> rfl
    show (i, zw_v ad v) :: lv_args (if (zw_v ad v).category = 2 then i + 2 else i + 1) (r.map (zw_v ad)) = (i, zw_v ad v) :: zw_l ad (zm_args (i + 1) r)
    rw [hv, if_neg (by decide), ih]
theorem zw_slen {ad : Nat → Nat} : ∀ (as : List zm_v), (lg_sl (as.map (zw_v ad))).length = as.length := by
  intro as
  induction as with
  | nil => rfl
  | cons v r ih =>
    have hv : (zw_v ad v).category = 1 := by cases v <;> rfl
    have e1 : lg_sl ((v :: r).map (zw_v ad)) = (if (zw_v ad v).category = 2 then [Slot.val (zw_v ad v), .second] else [Slot.val (zw_v ad v)]) ++ lg_sl (r.map (zw_v ad)) := by
      unfold lg_sl
      rw [List.map_cons, List.flatMap_cons]
    rw [e1, hv, if_neg (by decide), List.length_append, ih]
    simp only [List.length_cons, List.length_nil]
    omega
theorem zm_args_srt : ∀ (as : List zm_v) (i : Nat), zm_srt (zm_args i as) = true ∧ ∀ q ∈ zm_args i as, i ≤ q.1 := by
  intro as
  induction as with
  | nil => intro i; exact ⟨rfl, fun q h => by cases h⟩
  | cons v r ih =>
    intro i
    obtain ⟨h1, h2⟩ := ih (i + 1)
    refine ⟨?_, fun q hq => ?_⟩
    · unfold zm_args zm_srt
      rw [Bool.and_eq_true]
      refine ⟨?_, h1⟩
      rw [List.all_eq_true]
      intro q hq
      have := h2 q hq
      simp
      omega
    · rcases List.mem_cons.mp hq with rfl | hq
      · exact Nat.le_refl i
      · have := h2 q hq
        omega
/-- a run of the small machine is a contract -/
theorem zw_sound {cd : Nat → List zm_q} {F : Nat} (hinj : ∀ i j : Nat, i < sh.length → j < sh.length → ad i = ad j → i = j) (K : zw_K cl big nest cn tb) (KC : zw_KC cl big nest cn tb M np N)
    (hck : ∀ n, n < N → plainName (M n).1.cls = true ∧ cn (M n).2.2.2.2 = (M n).1.cls ∧ ∀ q ∈ cd n, zw_ck (M n).2.1 (M n).2.2.2.2 (M n).2.2.1 (M n).2.2.2.1 tb np q = true) :
    ∀ (d n : Nat) (as : List zm_v) (μ : zm_u) (r : Option zm_v) (μ' : zm_u), n < N → as.length ≤ (M n).2.2.1 → zm_ev sh cd X F d n as μ = some (r, μ') → zw_Met l sh X ad cA cB D cl big nest M d n as μ r μ' := by
  intro d
  induction d with
  | zero => intro n as μ r μ' _ _ h; cases h
  | succ d ih =>
    intro n as μ r μ' hn hlen h
    unfold zm_ev at h
    obtain ⟨hp, hcn, hq⟩ := hck n hn
    refine Met.ofW (cc := (M n).2.1) (maxL := (M n).2.2.1) (ret := (M n).2.2.2.1) hp rfl ?_
    intro p e s m args below meth c s₁ B hml hv
    obtain ⟨rfl, hF, hP⟩ := hv
    have hts := atoms_spec (ws := zw_ws big (M n)) B.pre
    have hown : s.vm.findClass (M n).1.cls = some m.cls := findClass_of_methodNamed B.named
    have hl := lv_entry (as.map (zw_v ad)) (n := (M n).2.2.1) (by rw [zw_slen]; exact hlen)
    rw [lg_entry_eq]
    rw [zw_args] at hl
    generalize (lg_sl (as.map (zw_v ad)) ++ List.replicate ((M n).2.2.1 - (lg_sl (as.map (zw_v ad))).length) Slot.unset).toArray = ls at hl ⊢
    have S : zw_C p m c (M n).2.1 (M n).2.2.1 s (as.map (zw_v ad)).toArray big (cn (M n).2.2.2.2) sh X ad cA cB D cl nest := ⟨B.exec, B.bytes, hml, by rw [hcn]; exact hown, fun w hw => hts w (List.mem_cons_of_mem _ hw), hF, hinj⟩
    have hlocks := B.notSynchronized
    have hret := B.returns
    have hfin : ∀ (H : Heap) (locs : List Loc) (ls : Array Slot) (pc : Nat), va_P D cl (zw_W sh ad cA cB μ') H → va_S (zw_A sh ad) s.heap H locs → ((∃ v : Int32, r = some (.inl v) ∧ decode (M n).2.1 pc = .ok (.ireturn, 1) ∧ ((M n).2.2.2.1 = some .int ∨ ((M n).2.2.2.1 = some .boolean ∧ (v = 0 ∨ v = 1)))) ∨ (r = none ∧ decode (M n).2.1 pc = .ok (.return_, 1) ∧ (M n).2.2.2.1 = none)) →
        W p l e (headSpec (zw_ws big (M n)) (zw_rm (d + 1))).room s m (as.map (zw_v ad)).toArray below meth c H locs 0 0 (MQ below (zw_Q sh ad cA cB D cl r μ') (as.map (zw_v ad)).toArray s 0 0 (zw_A sh ad)) (F0 m pc ls (r.map (zw_v ad)).toList) := by
      intro H locs ls pc hP hS hd
      rcases hd with ⟨v, rfl, hd, hr⟩ | ⟨rfl, hd, hr⟩
      · rcases hr with hr | ⟨hr, hv⟩
        · exact W.iret B.exec B.bytes (hret.trans hr) (fun t ht _ => ⟨⟨rfl, by rw [ht]; exact hP⟩, hS.F ht⟩) hS.2.2 hd
        · exact W.zret (ty := .boolean) B.exec B.bytes (hret.trans hr) (by rcases hv with rfl | rfl <;> rfl) (fun t ht _ => ⟨⟨rfl, by rw [ht]; exact hP⟩, hS.F ht⟩) hS.2.2 hd
      · exact W.vret B.exec B.bytes (hret.trans hr) (fun t ht _ => ⟨⟨rfl, by rw [ht]; exact hP⟩, hS.F ht⟩) hS.2.2 hd
    exact zw_inner (d := d) S K KC ⟨Nat.le_refl _, Nat.le_refl _, Nat.le_refl _, Nat.le_refl _⟩ hfin hq (fun n as μ r μ' h1 h2 h3 => ih n as μ r μ' h1 h2 h3) F 0 _ [] μ s.heap [] ls h hP va_S.rf hl (zm_args_srt as 0).1
end ZY
end
section
/-- the cells: objects (kind, fields: an int, or a cell), rows (length, of booleans) -/
def zs : List zm_h := [
  .inr (0, [some 1, some 2, some 3, some 4, none, none]),
  .inr (1, [some 6, some 7, some 8, none]),
  .inr (2, [some 9, some 10, some 11, some 12, none, none, none, none]),
  .inr (3, [some 1, some 2, some 13, some 14, none, none]),
  .inr (4, [some 2, some 5, some 15, none, none, none, none]),
  .inr (5, [some 16, some 17, some 18, some 19, some 20, some 21, none, none, none]),
  .inl (466, false),
  .inl (466, false),
  .inl (466, false),
  .inl (560, false),
  .inl (560, false),
  .inl (560, false),
  .inl (12, false),
  .inl (466, false),
  .inl (16, false),
  .inl (79, false),
  .inl (600, false),
  .inl (600, false),
  .inl (600, false),
  .inl (600, false),
  .inl (200, false),
  .inl (401, false),
  .inr (6, [none, none, some 23, some 24, some 25, some 26, some 27, some 28, some 29, some 30, none, none, none, some 31, some 32, some 33, some 34, none, some 35, none, some 36, some 37, some 38, some 39, some 40, some 41, some 42, none, none, none, some 43, some 44, some 45, some 46, none, some 47, some 48, none, some 49, some 50, some 51, none, none, none, some 52, some 53, some 54, some 55, some 56, some 57, none, none, none, none, none, none, some 58]),
  .inl (600, false),
  .inl (600, false),
  .inl (600, false),
  .inl (600, false),
  .inl (560, false),
  .inl (560, false),
  .inl (14, false),
  .inl (14, false),
  .inl (40, false),
  .inl (40, false),
  .inl (64, false),
  .inl (64, false),
  .inl (64, false),
  .inl (40, false),
  .inl (40, false),
  .inl (40, false),
  .inl (40, false),
  .inl (40, false),
  .inl (40, false),
  .inl (40, false),
  .inl (600, false),
  .inl (600, false),
  .inl (800, false),
  .inl (800, false),
  .inl (600, true),
  .inl (600, false),
  .inl (1300, false),
  .inl (1300, false),
  .inl (3900, false),
  .inl (64, false),
  .inl (64, false),
  .inl (64, false),
  .inl (64, false),
  .inl (192, false),
  .inl (160, false),
  .inl (1300, false)]
/-- R.type (III)I -/
def zc_0 : List zm_q := [
  (0, 1, 27, 0, 0, 0, []),
  (1, 4, 4, 0, 0, 0, []),
  (4, 5, 1, 1, 0, 0, []),
  (5, 6, 1, 2, 0, 0, []),
  (6, 7, 1, 3, 0, 0, []),
  (7, 10, 36, 19, 4, 1, []),
  (10, 13, 30, 15, 1, 0, []),
  (13, 14, 0, 0, 0, (-1), []),
  (14, 15, 33, 0, 0, 0, []),
  (15, 16, 1, 1, 0, 0, []),
  (16, 19, 30, 23, 1, 0, []),
  (19, 20, 1, 3, 0, 0, []),
  (20, 23, 19, 24, 0, 0, []),
  (23, 24, 0, 0, 0, 0, []),
  (24, 26, 2, 4, 0, 0, []),
  (26, 27, 27, 0, 0, 0, []),
  (27, 30, 4, 0, 0, 0, []),
  (30, 31, 1, 1, 0, 0, []),
  (31, 32, 1, 2, 0, 0, []),
  (32, 34, 1, 4, 0, 0, []),
  (34, 37, 36, 22, 4, 1, []),
  (37, 39, 2, 5, 0, 0, []),
  (39, 41, 1, 5, 0, 0, []),
  (41, 42, 0, 0, 0, (-1), []),
  (42, 45, 31, 48, 0, 0, []),
  (45, 47, 1, 5, 0, 0, []),
  (47, 48, 33, 0, 0, 0, []),
  (48, 49, 27, 0, 0, 0, []),
  (49, 52, 4, 0, 0, 0, []),
  (52, 55, 36, 14, 1, 1, []),
  (55, 57, 0, 0, 0, 24, []),
  (57, 60, 31, 75, 3, 0, []),
  (60, 61, 27, 0, 0, 0, []),
  (61, 64, 4, 0, 0, 0, []),
  (64, 65, 1, 1, 0, 0, []),
  (65, 66, 1, 2, 0, 0, []),
  (66, 68, 1, 4, 0, 0, []),
  (68, 71, 36, 20, 4, 1, []),
  (71, 72, 0, 0, 0, 4, []),
  (72, 75, 31, 78, 5, 0, []),
  (75, 77, 0, 0, 0, (-2), []),
  (77, 78, 33, 0, 0, 0, []),
  (78, 79, 27, 0, 0, 0, []),
  (79, 82, 4, 0, 0, 0, []),
  (82, 83, 1, 1, 0, 0, []),
  (83, 84, 1, 2, 0, 0, []),
  (84, 86, 1, 4, 0, 0, []),
  (86, 89, 36, 23, 4, 1, []),
  (89, 90, 33, 0, 0, 0, [])]
/-- R.make (II)I -/
def zc_1 : List zm_q := [
  (0, 1, 1, 1, 0, 0, []),
  (1, 4, 30, 34, 2, 0, []),
  (4, 5, 1, 1, 0, 0, []),
  (5, 7, 0, 0, 0, 17, []),
  (7, 10, 31, 34, 4, 0, []),
  (10, 11, 27, 0, 0, 0, []),
  (11, 12, 1, 1, 0, 0, []),
  (12, 13, 1, 2, 0, 0, []),
  (13, 16, 36, 11, 3, 0, []),
  (16, 19, 30, 34, 0, 0, []),
  (19, 20, 27, 0, 0, 0, []),
  (20, 23, 4, 1, 0, 0, []),
  (23, 26, 36, 29, 1, 2, []),
  (26, 27, 1, 1, 0, 0, []),
  (27, 28, 1, 2, 0, 0, []),
  (28, 31, 35, 12, 2, 0, []),
  (31, 34, 31, 36, 3, 0, []),
  (34, 35, 0, 0, 0, (-1), []),
  (35, 36, 33, 0, 0, 0, []),
  (36, 37, 27, 0, 0, 0, []),
  (37, 40, 4, 1, 0, 0, []),
  (40, 41, 1, 1, 0, 0, []),
  (41, 42, 1, 2, 0, 0, []),
  (42, 45, 36, 36, 3, 2, []),
  (45, 46, 33, 0, 0, 0, [])]
/-- R.height ()I -/
def zc_2 : List zm_q := [
  (0, 1, 27, 0, 0, 0, []),
  (1, 4, 4, 1, 0, 0, []),
  (4, 7, 36, 29, 1, 2, []),
  (7, 8, 33, 0, 0, 0, [])]
/-- R.drop ()I -/
def zc_3 : List zm_q := [
  (0, 1, 27, 0, 0, 0, []),
  (1, 4, 4, 1, 0, 0, []),
  (4, 7, 36, 29, 1, 2, []),
  (7, 10, 30, 12, 1, 0, []),
  (10, 11, 0, 0, 0, (-1), []),
  (11, 12, 33, 0, 0, 0, []),
  (12, 13, 27, 0, 0, 0, []),
  (13, 16, 4, 1, 0, 0, []),
  (16, 19, 36, 38, 1, 2, []),
  (19, 20, 27, 0, 0, 0, []),
  (20, 23, 4, 1, 0, 0, []),
  (23, 26, 36, 29, 1, 2, []),
  (26, 27, 33, 0, 0, 0, [])]
/-- R.function (I)Z -/
def zc_4 : List zm_q := [
  (0, 1, 27, 0, 0, 0, []),
  (1, 4, 4, 1, 0, 0, []),
  (4, 7, 36, 29, 1, 2, []),
  (7, 10, 30, 21, 0, 0, []),
  (10, 11, 27, 0, 0, 0, []),
  (11, 14, 4, 0, 0, 0, []),
  (14, 15, 1, 1, 0, 0, []),
  (15, 18, 36, 15, 2, 1, []),
  (18, 21, 30, 23, 1, 0, []),
  (21, 22, 0, 0, 0, 0, []),
  (22, 23, 37, 0, 0, 0, []),
  (23, 24, 27, 0, 0, 0, []),
  (24, 27, 4, 1, 0, 0, []),
  (27, 30, 36, 39, 1, 2, []),
  (30, 31, 27, 0, 0, 0, []),
  (31, 32, 1, 1, 0, 0, []),
  (32, 35, 5, 4, 0, 0, []),
  (35, 36, 0, 0, 0, 1, []),
  (36, 37, 37, 0, 0, 0, [])]
/-- R.main (I)Z -/
def zc_5 : List zm_q := [
  (0, 1, 27, 0, 0, 0, []),
  (1, 4, 4, 1, 0, 0, []),
  (4, 7, 36, 29, 1, 2, []),
  (7, 10, 30, 21, 0, 0, []),
  (10, 11, 27, 0, 0, 0, []),
  (11, 14, 4, 0, 0, 0, []),
  (14, 15, 1, 1, 0, 0, []),
  (15, 18, 36, 15, 2, 1, []),
  (18, 21, 30, 23, 1, 0, []),
  (21, 22, 0, 0, 0, 0, []),
  (22, 23, 37, 0, 0, 0, []),
  (23, 24, 27, 0, 0, 0, []),
  (24, 27, 4, 1, 0, 0, []),
  (27, 30, 36, 40, 1, 2, []),
  (30, 31, 27, 0, 0, 0, []),
  (31, 32, 1, 1, 0, 0, []),
  (32, 35, 5, 5, 0, 0, []),
  (35, 36, 0, 0, 0, 1, []),
  (36, 37, 37, 0, 0, 0, [])]
/-- R.check ()I -/
def zc_6 : List zm_q := [
  (0, 1, 27, 0, 0, 0, []),
  (1, 4, 4, 2, 0, 0, []),
  (4, 5, 27, 0, 0, 0, []),
  (5, 8, 4, 4, 0, 0, []),
  (8, 11, 36, 44, 2, 3, []),
  (11, 14, 30, 16, 1, 0, []),
  (14, 15, 0, 0, 0, 1, []),
  (15, 16, 33, 0, 0, 0, []),
  (16, 17, 27, 0, 0, 0, []),
  (17, 20, 4, 2, 0, 0, []),
  (20, 21, 27, 0, 0, 0, []),
  (21, 24, 4, 5, 0, 0, []),
  (24, 25, 27, 0, 0, 0, []),
  (25, 28, 4, 4, 0, 0, []),
  (28, 31, 36, 45, 3, 3, []),
  (31, 34, 30, 38, 0, 0, []),
  (34, 35, 0, 0, 0, 0, []),
  (35, 38, 19, 39, 0, 0, []),
  (38, 39, 0, 0, 0, 2, []),
  (39, 40, 33, 0, 0, 0, [])]
/-- R.evaluate ()I -/
def zc_7 : List zm_q := [
  (0, 1, 27, 0, 0, 0, []),
  (1, 4, 4, 3, 0, 0, []),
  (4, 7, 36, 64, 1, 4, []),
  (7, 8, 33, 0, 0, 0, [])]
/-- R.steps ()I -/
def zc_8 : List zm_q := [
  (0, 1, 27, 0, 0, 0, []),
  (1, 4, 4, 3, 0, 0, []),
  (4, 7, 36, 65, 1, 4, []),
  (7, 8, 33, 0, 0, 0, [])]
/-- R.value (I)I -/
def zc_9 : List zm_q := [
  (0, 1, 27, 0, 0, 0, []),
  (1, 4, 4, 3, 0, 0, []),
  (4, 5, 1, 1, 0, 0, []),
  (5, 8, 36, 66, 2, 4, []),
  (8, 9, 33, 0, 0, 0, [])]
/-- R.number (I)I -/
def zc_10 : List zm_q := [
  (0, 1, 27, 0, 0, 0, []),
  (1, 4, 4, 3, 0, 0, []),
  (4, 5, 1, 1, 0, 0, []),
  (5, 8, 36, 67, 2, 4, []),
  (8, 9, 33, 0, 0, 0, [])]
/-- R.isAsSaid (II)Z -/
def zc_11 : List zm_q := [
  (0, 1, 1, 1, 0, 0, []),
  (1, 44, 32, 101, 0, 0, [(1, 44), (2, 59), (10, 75), (17, 84)]),
  (44, 45, 1, 2, 0, 0, []),
  (45, 48, 30, 53, 0, 0, []),
  (48, 49, 1, 2, 0, 0, []),
  (49, 50, 0, 0, 0, 1, []),
  (50, 53, 31, 57, 1, 0, []),
  (53, 54, 0, 0, 0, 1, []),
  (54, 57, 19, 58, 0, 0, []),
  (57, 58, 0, 0, 0, 0, []),
  (58, 59, 37, 0, 0, 0, []),
  (59, 60, 1, 2, 0, 0, []),
  (60, 63, 30, 73, 2, 0, []),
  (63, 64, 1, 2, 0, 0, []),
  (64, 66, 0, 0, 0, 12, []),
  (66, 69, 31, 73, 3, 0, []),
  (69, 70, 0, 0, 0, 1, []),
  (70, 73, 19, 74, 0, 0, []),
  (73, 74, 0, 0, 0, 0, []),
  (74, 75, 37, 0, 0, 0, []),
  (75, 76, 27, 0, 0, 0, []),
  (76, 79, 4, 0, 0, 0, []),
  (79, 80, 1, 2, 0, 0, []),
  (80, 83, 36, 15, 2, 1, []),
  (83, 84, 37, 0, 0, 0, []),
  (84, 85, 1, 2, 0, 0, []),
  (85, 86, 0, 0, 0, 1, []),
  (86, 89, 31, 99, 2, 0, []),
  (89, 90, 1, 2, 0, 0, []),
  (90, 92, 0, 0, 0, 63, []),
  (92, 95, 31, 99, 4, 0, []),
  (95, 96, 0, 0, 0, 1, []),
  (96, 99, 19, 100, 0, 0, []),
  (99, 100, 0, 0, 0, 0, []),
  (100, 101, 37, 0, 0, 0, []),
  (101, 102, 0, 0, 0, 1, []),
  (102, 103, 37, 0, 0, 0, [])]
/-- R.partsOf (II)I -/
def zc_12 : List zm_q := [
  (0, 1, 1, 0, 0, 0, []),
  (1, 4, 30, 10, 2, 0, []),
  (4, 5, 1, 0, 0, 0, []),
  (5, 7, 0, 0, 0, 17, []),
  (7, 10, 31, 12, 5, 0, []),
  (10, 11, 0, 0, 0, 0, []),
  (11, 12, 33, 0, 0, 0, []),
  (12, 13, 1, 0, 0, 0, []),
  (13, 15, 0, 0, 0, 17, []),
  (15, 18, 31, 31, 1, 0, []),
  (18, 21, 21, 0, 0, 0, []),
  (21, 22, 1, 0, 0, 0, []),
  (22, 23, 20, 0, 0, 0, []),
  (23, 24, 1, 1, 0, 0, []),
  (24, 27, 35, 161, 1, 0, []),
  (27, 28, 10, 0, 0, 0, []),
  (28, 31, 19, 36, 0, 0, []),
  (31, 34, 21, 0, 0, 0, []),
  (34, 35, 1, 0, 0, 0, []),
  (35, 36, 20, 0, 0, 0, []),
  (36, 37, 33, 0, 0, 0, [])]
/-- R.isMaker (I)Z -/
def zc_13 : List zm_q := [
  (0, 1, 1, 0, 0, 0, []),
  (1, 3, 0, 0, 0, 11, []),
  (3, 6, 31, 16, 2, 0, []),
  (6, 7, 1, 0, 0, 0, []),
  (7, 9, 0, 0, 0, 16, []),
  (9, 12, 31, 16, 4, 0, []),
  (12, 13, 0, 0, 0, 1, []),
  (13, 16, 19, 17, 0, 0, []),
  (16, 17, 0, 0, 0, 0, []),
  (17, 18, 37, 0, 0, 0, [])]
/-- Ty.count ()I -/
def zc_14 : List zm_q := [
  (0, 1, 27, 0, 0, 0, []),
  (1, 4, 4, 3, 1, 0, []),
  (4, 5, 33, 0, 0, 0, [])]
/-- Ty.has (I)Z -/
def zc_15 : List zm_q := [
  (0, 1, 1, 1, 0, 0, []),
  (1, 4, 30, 16, 2, 0, []),
  (4, 5, 1, 1, 0, 0, []),
  (5, 6, 27, 0, 0, 0, []),
  (6, 9, 4, 3, 1, 0, []),
  (9, 12, 31, 16, 3, 0, []),
  (12, 13, 0, 0, 0, 1, []),
  (13, 16, 19, 17, 0, 0, []),
  (16, 17, 0, 0, 0, 0, []),
  (17, 18, 37, 0, 0, 0, [])]
/-- Ty.kindOf (I)I -/
def zc_16 : List zm_q := [
  (0, 1, 27, 0, 0, 0, []),
  (1, 2, 1, 1, 0, 0, []),
  (2, 5, 36, 15, 2, 1, []),
  (5, 8, 30, 17, 0, 0, []),
  (8, 9, 27, 0, 0, 0, []),
  (9, 12, 4, 0, 1, 0, []),
  (12, 13, 1, 1, 0, 0, []),
  (13, 14, 6, 0, 0, 0, []),
  (14, 17, 19, 18, 0, 0, []),
  (17, 18, 0, 0, 0, (-1), []),
  (18, 19, 33, 0, 0, 0, [])]
/-- Ty.firstOf (I)I -/
def zc_17 : List zm_q := [
  (0, 1, 27, 0, 0, 0, []),
  (1, 2, 1, 1, 0, 0, []),
  (2, 5, 36, 15, 2, 1, []),
  (5, 8, 30, 17, 0, 0, []),
  (8, 9, 27, 0, 0, 0, []),
  (9, 12, 4, 1, 1, 0, []),
  (12, 13, 1, 1, 0, 0, []),
  (13, 14, 6, 0, 0, 0, []),
  (14, 17, 19, 18, 0, 0, []),
  (17, 18, 0, 0, 0, (-1), []),
  (18, 19, 33, 0, 0, 0, [])]
/-- Ty.secondOf (I)I -/
def zc_18 : List zm_q := [
  (0, 1, 27, 0, 0, 0, []),
  (1, 2, 1, 1, 0, 0, []),
  (2, 5, 36, 15, 2, 1, []),
  (5, 8, 30, 17, 0, 0, []),
  (8, 9, 27, 0, 0, 0, []),
  (9, 12, 4, 2, 1, 0, []),
  (12, 13, 1, 1, 0, 0, []),
  (13, 14, 6, 0, 0, 0, []),
  (14, 17, 19, 18, 0, 0, []),
  (17, 18, 0, 0, 0, (-1), []),
  (18, 19, 33, 0, 0, 0, [])]
/-- Ty.canBeMade (III)Z -/
def zc_19 : List zm_q := [
  (0, 1, 1, 1, 0, 0, []),
  (1, 28, 32, 71, 0, 0, [(0, 28), (1, 50), (2, 56)]),
  (28, 29, 27, 0, 0, 0, []),
  (29, 30, 1, 2, 0, 0, []),
  (30, 33, 36, 15, 2, 1, []),
  (33, 36, 30, 48, 0, 0, []),
  (36, 37, 27, 0, 0, 0, []),
  (37, 38, 1, 3, 0, 0, []),
  (38, 41, 36, 15, 2, 1, []),
  (41, 44, 30, 48, 0, 0, []),
  (44, 45, 0, 0, 0, 1, []),
  (45, 48, 19, 49, 0, 0, []),
  (48, 49, 0, 0, 0, 0, []),
  (49, 50, 37, 0, 0, 0, []),
  (50, 51, 27, 0, 0, 0, []),
  (51, 52, 1, 2, 0, 0, []),
  (52, 55, 36, 15, 2, 1, []),
  (55, 56, 37, 0, 0, 0, []),
  (56, 57, 1, 2, 0, 0, []),
  (57, 60, 30, 69, 2, 0, []),
  (60, 61, 1, 2, 0, 0, []),
  (61, 62, 0, 0, 0, 3, []),
  (62, 65, 31, 69, 3, 0, []),
  (65, 66, 0, 0, 0, 1, []),
  (66, 69, 19, 70, 0, 0, []),
  (69, 70, 0, 0, 0, 0, []),
  (70, 71, 37, 0, 0, 0, []),
  (71, 72, 0, 0, 0, 0, []),
  (72, 73, 37, 0, 0, 0, [])]
/-- Ty.heightWith (III)I -/
def zc_20 : List zm_q := [
  (0, 1, 1, 1, 0, 0, []),
  (1, 28, 32, 55, 0, 0, [(0, 28), (1, 46)]),
  (28, 29, 0, 0, 0, 1, []),
  (29, 30, 27, 0, 0, 0, []),
  (30, 31, 1, 2, 0, 0, []),
  (31, 32, 0, 0, 0, 4, []),
  (32, 35, 36, 21, 3, 1, []),
  (35, 36, 27, 0, 0, 0, []),
  (36, 37, 1, 3, 0, 0, []),
  (37, 38, 0, 0, 0, 4, []),
  (38, 41, 36, 21, 3, 1, []),
  (41, 44, 25, 0, 0, 0, []),
  (44, 45, 10, 0, 0, 0, []),
  (45, 46, 33, 0, 0, 0, []),
  (46, 47, 0, 0, 0, 1, []),
  (47, 48, 27, 0, 0, 0, []),
  (48, 49, 1, 2, 0, 0, []),
  (49, 50, 0, 0, 0, 4, []),
  (50, 53, 36, 21, 3, 1, []),
  (53, 54, 10, 0, 0, 0, []),
  (54, 55, 33, 0, 0, 0, []),
  (55, 56, 0, 0, 0, 1, []),
  (56, 57, 33, 0, 0, 0, [])]
/-- Ty.heightOf (II)I -/
def zc_21 : List zm_q := [
  (0, 1, 1, 2, 0, 0, []),
  (1, 4, 30, 6, 1, 0, []),
  (4, 5, 0, 0, 0, 0, []),
  (5, 6, 33, 0, 0, 0, []),
  (6, 7, 27, 0, 0, 0, []),
  (7, 8, 1, 1, 0, 0, []),
  (8, 11, 36, 16, 2, 1, []),
  (11, 36, 32, 81, 0, 0, [(0, 36), (1, 66)]),
  (36, 37, 0, 0, 0, 1, []),
  (37, 38, 27, 0, 0, 0, []),
  (38, 39, 27, 0, 0, 0, []),
  (39, 40, 1, 1, 0, 0, []),
  (40, 43, 36, 17, 2, 1, []),
  (43, 44, 1, 2, 0, 0, []),
  (44, 45, 0, 0, 0, 1, []),
  (45, 46, 11, 0, 0, 0, []),
  (46, 49, 36, 21, 3, 1, []),
  (49, 50, 27, 0, 0, 0, []),
  (50, 51, 27, 0, 0, 0, []),
  (51, 52, 1, 1, 0, 0, []),
  (52, 55, 36, 18, 2, 1, []),
  (55, 56, 1, 2, 0, 0, []),
  (56, 57, 0, 0, 0, 1, []),
  (57, 58, 11, 0, 0, 0, []),
  (58, 61, 36, 21, 3, 1, []),
  (61, 64, 25, 0, 0, 0, []),
  (64, 65, 10, 0, 0, 0, []),
  (65, 66, 33, 0, 0, 0, []),
  (66, 67, 0, 0, 0, 1, []),
  (67, 68, 27, 0, 0, 0, []),
  (68, 69, 27, 0, 0, 0, []),
  (69, 70, 1, 1, 0, 0, []),
  (70, 73, 36, 17, 2, 1, []),
  (73, 74, 1, 2, 0, 0, []),
  (74, 75, 0, 0, 0, 1, []),
  (75, 76, 11, 0, 0, 0, []),
  (76, 79, 36, 21, 3, 1, []),
  (79, 80, 10, 0, 0, 0, []),
  (80, 81, 33, 0, 0, 0, []),
  (81, 82, 0, 0, 0, 1, []),
  (82, 83, 33, 0, 0, 0, [])]
/-- Ty.seek (III)I -/
def zc_22 : List zm_q := [
  (0, 1, 0, 0, 0, 0, []),
  (1, 3, 2, 4, 0, 0, []),
  (3, 5, 1, 4, 0, 0, []),
  (5, 6, 27, 0, 0, 0, []),
  (6, 9, 4, 3, 1, 0, []),
  (9, 12, 31, 54, 3, 0, []),
  (12, 13, 27, 0, 0, 0, []),
  (13, 16, 4, 0, 1, 0, []),
  (16, 18, 1, 4, 0, 0, []),
  (18, 19, 6, 0, 0, 0, []),
  (19, 20, 1, 1, 0, 0, []),
  (20, 23, 31, 48, 1, 0, []),
  (23, 24, 27, 0, 0, 0, []),
  (24, 27, 4, 1, 1, 0, []),
  (27, 29, 1, 4, 0, 0, []),
  (29, 30, 6, 0, 0, 0, []),
  (30, 31, 1, 2, 0, 0, []),
  (31, 34, 31, 48, 1, 0, []),
  (34, 35, 27, 0, 0, 0, []),
  (35, 38, 4, 2, 1, 0, []),
  (38, 40, 1, 4, 0, 0, []),
  (40, 41, 6, 0, 0, 0, []),
  (41, 42, 1, 3, 0, 0, []),
  (42, 45, 31, 48, 1, 0, []),
  (45, 47, 1, 4, 0, 0, []),
  (47, 48, 33, 0, 0, 0, []),
  (48, 51, 3, 4, 0, 1, []),
  (51, 54, 19, 3, 0, 0, []),
  (54, 55, 0, 0, 0, (-1), []),
  (55, 56, 33, 0, 0, 0, [])]
/-- Ty.seekOrPut (III)I -/
def zc_23 : List zm_q := [
  (0, 1, 27, 0, 0, 0, []),
  (1, 2, 1, 1, 0, 0, []),
  (2, 3, 1, 2, 0, 0, []),
  (3, 4, 1, 3, 0, 0, []),
  (4, 7, 36, 22, 4, 1, []),
  (7, 9, 2, 4, 0, 0, []),
  (9, 11, 1, 4, 0, 0, []),
  (11, 12, 0, 0, 0, (-1), []),
  (12, 15, 31, 25, 1, 0, []),
  (15, 16, 27, 0, 0, 0, []),
  (16, 19, 4, 3, 1, 0, []),
  (19, 22, 0, 0, 0, 466, []),
  (22, 25, 31, 28, 2, 0, []),
  (25, 27, 1, 4, 0, 0, []),
  (27, 28, 33, 0, 0, 0, []),
  (28, 29, 27, 0, 0, 0, []),
  (29, 32, 4, 0, 1, 0, []),
  (32, 33, 27, 0, 0, 0, []),
  (33, 36, 4, 3, 1, 0, []),
  (36, 37, 1, 1, 0, 0, []),
  (37, 38, 7, 0, 0, 0, []),
  (38, 39, 27, 0, 0, 0, []),
  (39, 42, 4, 1, 1, 0, []),
  (42, 43, 27, 0, 0, 0, []),
  (43, 46, 4, 3, 1, 0, []),
  (46, 47, 1, 2, 0, 0, []),
  (47, 48, 7, 0, 0, 0, []),
  (48, 49, 27, 0, 0, 0, []),
  (49, 52, 4, 2, 1, 0, []),
  (52, 53, 27, 0, 0, 0, []),
  (53, 56, 4, 3, 1, 0, []),
  (56, 57, 1, 3, 0, 0, []),
  (57, 58, 7, 0, 0, 0, []),
  (58, 59, 27, 0, 0, 0, []),
  (59, 60, 16, 0, 0, 0, []),
  (60, 63, 4, 3, 1, 0, []),
  (63, 64, 0, 0, 0, 1, []),
  (64, 65, 10, 0, 0, 0, []),
  (65, 68, 5, 3, 1, 0, []),
  (68, 69, 27, 0, 0, 0, []),
  (69, 72, 4, 3, 1, 0, []),
  (72, 73, 0, 0, 0, 1, []),
  (73, 74, 11, 0, 0, 0, []),
  (74, 75, 33, 0, 0, 0, [])]
/-- Ty.pairOf (II)I -/
def zc_24 : List zm_q := [
  (0, 1, 27, 0, 0, 0, []),
  (1, 2, 1, 1, 0, 0, []),
  (2, 5, 36, 15, 2, 1, []),
  (5, 8, 30, 26, 0, 0, []),
  (8, 9, 27, 0, 0, 0, []),
  (9, 10, 1, 2, 0, 0, []),
  (10, 13, 36, 15, 2, 1, []),
  (13, 16, 30, 26, 0, 0, []),
  (16, 17, 27, 0, 0, 0, []),
  (17, 18, 0, 0, 0, 0, []),
  (18, 19, 1, 1, 0, 0, []),
  (19, 20, 1, 2, 0, 0, []),
  (20, 23, 36, 23, 4, 1, []),
  (23, 26, 19, 27, 0, 0, []),
  (26, 27, 0, 0, 0, (-1), []),
  (27, 28, 33, 0, 0, 0, [])]
/-- Ty.expOf (I)I -/
def zc_25 : List zm_q := [
  (0, 1, 27, 0, 0, 0, []),
  (1, 2, 1, 1, 0, 0, []),
  (2, 5, 36, 15, 2, 1, []),
  (5, 8, 30, 18, 0, 0, []),
  (8, 9, 27, 0, 0, 0, []),
  (9, 10, 0, 0, 0, 1, []),
  (10, 11, 1, 1, 0, 0, []),
  (11, 12, 0, 0, 0, 0, []),
  (12, 15, 36, 23, 4, 1, []),
  (15, 18, 19, 19, 0, 0, []),
  (18, 19, 0, 0, 0, (-1), []),
  (19, 20, 33, 0, 0, 0, [])]
/-- Ty.nameOf (I)I -/
def zc_26 : List zm_q := [
  (0, 1, 27, 0, 0, 0, []),
  (1, 2, 0, 0, 0, 2, []),
  (2, 3, 1, 1, 0, 0, []),
  (3, 4, 0, 0, 0, 0, []),
  (4, 7, 36, 23, 4, 1, []),
  (7, 8, 33, 0, 0, 0, [])]
/-- Ty.newName ()I -/
def zc_27 : List zm_q := [
  (0, 1, 27, 0, 0, 0, []),
  (1, 2, 0, 0, 0, 2, []),
  (2, 3, 0, 0, 0, 3, []),
  (3, 4, 27, 0, 0, 0, []),
  (4, 7, 4, 3, 1, 0, []),
  (7, 8, 10, 0, 0, 0, []),
  (8, 9, 0, 0, 0, 0, []),
  (9, 12, 36, 23, 4, 1, []),
  (12, 13, 33, 0, 0, 0, [])]
/-- Ty.forgetFrom (I)V -/
def zc_28 : List zm_q := [
  (0, 1, 27, 0, 0, 0, []),
  (1, 2, 1, 1, 0, 0, []),
  (2, 5, 36, 15, 2, 1, []),
  (5, 8, 30, 13, 0, 0, []),
  (8, 9, 27, 0, 0, 0, []),
  (9, 10, 1, 1, 0, 0, []),
  (10, 13, 5, 3, 1, 0, []),
  (13, 14, 34, 0, 0, 0, [])]
/-- Te.onStack ()I -/
def zc_29 : List zm_q := [
  (0, 1, 27, 0, 0, 0, []),
  (1, 4, 4, 5, 2, 0, []),
  (4, 5, 33, 0, 0, 0, [])]
/-- Te.body ()I -/
def zc_30 : List zm_q := [
  (0, 1, 27, 0, 0, 0, []),
  (1, 4, 4, 6, 2, 0, []),
  (4, 5, 33, 0, 0, 0, [])]
/-- Te.mainTerm ()I -/
def zc_31 : List zm_q := [
  (0, 1, 27, 0, 0, 0, []),
  (1, 4, 4, 7, 2, 0, []),
  (4, 5, 33, 0, 0, 0, [])]
/-- Te.opOf (I)I -/
def zc_32 : List zm_q := [
  (0, 1, 1, 1, 0, 0, []),
  (1, 4, 35, 43, 1, 0, []),
  (4, 7, 30, 16, 0, 0, []),
  (7, 8, 27, 0, 0, 0, []),
  (8, 11, 4, 0, 2, 0, []),
  (11, 12, 1, 1, 0, 0, []),
  (12, 13, 6, 0, 0, 0, []),
  (13, 16, 19, 17, 0, 0, []),
  (16, 17, 0, 0, 0, (-1), []),
  (17, 18, 33, 0, 0, 0, [])]
/-- Te.argumentOf (I)I -/
def zc_33 : List zm_q := [
  (0, 1, 1, 1, 0, 0, []),
  (1, 4, 35, 43, 1, 0, []),
  (4, 7, 30, 16, 0, 0, []),
  (7, 8, 27, 0, 0, 0, []),
  (8, 11, 4, 1, 2, 0, []),
  (11, 12, 1, 1, 0, 0, []),
  (12, 13, 6, 0, 0, 0, []),
  (13, 16, 19, 17, 0, 0, []),
  (16, 17, 0, 0, 0, (-1), []),
  (17, 18, 33, 0, 0, 0, [])]
/-- Te.part (II)I -/
def zc_34 : List zm_q := [
  (0, 1, 1, 1, 0, 0, []),
  (1, 2, 0, 0, 0, 1, []),
  (2, 3, 11, 0, 0, 0, []),
  (3, 4, 2, 3, 0, 0, []),
  (4, 5, 27, 0, 0, 0, []),
  (5, 6, 1, 1, 0, 0, []),
  (6, 9, 36, 32, 2, 2, []),
  (9, 10, 27, 0, 0, 0, []),
  (10, 11, 1, 1, 0, 0, []),
  (11, 14, 36, 33, 2, 2, []),
  (14, 17, 35, 12, 2, 0, []),
  (17, 18, 0, 0, 0, 1, []),
  (18, 19, 11, 0, 0, 0, []),
  (19, 21, 2, 4, 0, 0, []),
  (21, 23, 1, 4, 0, 0, []),
  (23, 24, 1, 2, 0, 0, []),
  (24, 27, 31, 41, 5, 0, []),
  (27, 28, 1, 3, 0, 0, []),
  (28, 29, 27, 0, 0, 0, []),
  (29, 30, 1, 3, 0, 0, []),
  (30, 33, 36, 42, 2, 2, []),
  (33, 34, 11, 0, 0, 0, []),
  (34, 35, 2, 3, 0, 0, []),
  (35, 38, 3, 4, 0, (-1), []),
  (38, 41, 19, 21, 0, 0, []),
  (41, 42, 1, 3, 0, 0, []),
  (42, 43, 33, 0, 0, 0, [])]
/-- Te.caseFor (II)I -/
def zc_35 : List zm_q := [
  (0, 1, 27, 0, 0, 0, []),
  (1, 2, 1, 1, 0, 0, []),
  (2, 5, 36, 33, 2, 2, []),
  (5, 6, 2, 3, 0, 0, []),
  (6, 7, 0, 0, 0, 1, []),
  (7, 8, 1, 2, 0, 0, []),
  (8, 10, 0, 0, 0, 11, []),
  (10, 11, 11, 0, 0, 0, []),
  (11, 12, 14, 0, 0, 0, []),
  (12, 14, 2, 4, 0, 0, []),
  (14, 15, 1, 2, 0, 0, []),
  (15, 18, 35, 13, 1, 0, []),
  (18, 21, 30, 28, 0, 0, []),
  (21, 22, 1, 3, 0, 0, []),
  (22, 24, 1, 4, 0, 0, []),
  (24, 25, 13, 0, 0, 0, []),
  (25, 28, 30, 30, 1, 0, []),
  (28, 29, 0, 0, 0, (-1), []),
  (29, 30, 33, 0, 0, 0, []),
  (30, 31, 27, 0, 0, 0, []),
  (31, 32, 1, 1, 0, 0, []),
  (32, 33, 0, 0, 0, 1, []),
  (33, 34, 1, 3, 0, 0, []),
  (34, 36, 1, 4, 0, 0, []),
  (36, 37, 0, 0, 0, 1, []),
  (37, 38, 11, 0, 0, 0, []),
  (38, 39, 13, 0, 0, 0, []),
  (39, 42, 35, 161, 1, 0, []),
  (42, 43, 10, 0, 0, 0, []),
  (43, 46, 36, 34, 3, 2, []),
  (46, 47, 33, 0, 0, 0, [])]
/-- Te.put (II)I -/
def zc_36 : List zm_q := [
  (0, 1, 1, 1, 0, 0, []),
  (1, 2, 1, 2, 0, 0, []),
  (2, 5, 35, 12, 2, 0, []),
  (5, 6, 2, 3, 0, 0, []),
  (6, 7, 0, 0, 0, 1, []),
  (7, 9, 2, 4, 0, 0, []),
  (9, 10, 0, 0, 0, 0, []),
  (10, 12, 2, 5, 0, 0, []),
  (12, 14, 1, 5, 0, 0, []),
  (14, 15, 1, 3, 0, 0, []),
  (15, 18, 31, 40, 3, 0, []),
  (18, 20, 1, 4, 0, 0, []),
  (20, 21, 27, 0, 0, 0, []),
  (21, 22, 27, 0, 0, 0, []),
  (22, 25, 4, 4, 2, 0, []),
  (25, 27, 1, 4, 0, 0, []),
  (27, 28, 11, 0, 0, 0, []),
  (28, 31, 36, 42, 2, 2, []),
  (31, 32, 10, 0, 0, 0, []),
  (32, 34, 2, 4, 0, 0, []),
  (34, 37, 3, 5, 0, 1, []),
  (37, 40, 19, 12, 0, 0, []),
  (40, 41, 0, 0, 0, 1, []),
  (41, 42, 27, 0, 0, 0, []),
  (42, 43, 1, 3, 0, 0, []),
  (43, 46, 36, 37, 2, 2, []),
  (46, 47, 10, 0, 0, 0, []),
  (47, 49, 2, 5, 0, 0, []),
  (49, 50, 27, 0, 0, 0, []),
  (50, 53, 4, 5, 2, 0, []),
  (53, 54, 1, 3, 0, 0, []),
  (54, 55, 11, 0, 0, 0, []),
  (55, 57, 2, 6, 0, 0, []),
  (57, 59, 1, 4, 0, 0, []),
  (59, 61, 0, 0, 0, 40, []),
  (61, 64, 31, 85, 4, 0, []),
  (64, 66, 1, 5, 0, 0, []),
  (66, 68, 0, 0, 0, 6, []),
  (68, 71, 31, 85, 4, 0, []),
  (71, 72, 27, 0, 0, 0, []),
  (72, 75, 4, 4, 2, 0, []),
  (75, 78, 0, 0, 0, 480, []),
  (78, 81, 31, 85, 3, 0, []),
  (81, 82, 0, 0, 0, 1, []),
  (82, 85, 19, 86, 0, 0, []),
  (85, 86, 0, 0, 0, 0, []),
  (86, 88, 2, 7, 0, 0, []),
  (88, 90, 1, 6, 0, 0, []),
  (90, 93, 30, 105, 2, 0, []),
  (93, 95, 1, 6, 0, 0, []),
  (95, 97, 0, 0, 0, 12, []),
  (97, 100, 31, 105, 3, 0, []),
  (100, 102, 1, 7, 0, 0, []),
  (102, 105, 30, 108, 1, 0, []),
  (105, 107, 0, 0, 0, (-2), []),
  (107, 108, 33, 0, 0, 0, []),
  (108, 109, 27, 0, 0, 0, []),
  (109, 112, 4, 0, 2, 0, []),
  (112, 113, 27, 0, 0, 0, []),
  (113, 116, 4, 4, 2, 0, []),
  (116, 117, 1, 1, 0, 0, []),
  (117, 118, 7, 0, 0, 0, []),
  (118, 119, 27, 0, 0, 0, []),
  (119, 122, 4, 1, 2, 0, []),
  (122, 123, 27, 0, 0, 0, []),
  (123, 126, 4, 4, 2, 0, []),
  (126, 127, 1, 2, 0, 0, []),
  (127, 128, 7, 0, 0, 0, []),
  (128, 129, 27, 0, 0, 0, []),
  (129, 132, 4, 2, 2, 0, []),
  (132, 133, 27, 0, 0, 0, []),
  (133, 136, 4, 4, 2, 0, []),
  (136, 138, 1, 4, 0, 0, []),
  (138, 139, 7, 0, 0, 0, []),
  (139, 140, 27, 0, 0, 0, []),
  (140, 143, 4, 3, 2, 0, []),
  (143, 145, 1, 6, 0, 0, []),
  (145, 147, 1, 5, 0, 0, []),
  (147, 148, 7, 0, 0, 0, []),
  (148, 149, 27, 0, 0, 0, []),
  (149, 150, 16, 0, 0, 0, []),
  (150, 153, 4, 4, 2, 0, []),
  (153, 154, 0, 0, 0, 1, []),
  (154, 155, 10, 0, 0, 0, []),
  (155, 158, 5, 4, 2, 0, []),
  (158, 159, 27, 0, 0, 0, []),
  (159, 161, 1, 6, 0, 0, []),
  (161, 162, 0, 0, 0, 1, []),
  (162, 163, 10, 0, 0, 0, []),
  (163, 166, 5, 5, 2, 0, []),
  (166, 168, 1, 4, 0, 0, []),
  (168, 169, 33, 0, 0, 0, [])]
/-- Te.deepestOfLast (I)I -/
def zc_37 : List zm_q := [
  (0, 1, 0, 0, 0, 0, []),
  (1, 2, 2, 2, 0, 0, []),
  (2, 3, 0, 0, 0, 0, []),
  (3, 4, 27, 0, 0, 0, []),
  (4, 7, 4, 5, 2, 0, []),
  (7, 8, 1, 1, 0, 0, []),
  (8, 9, 11, 0, 0, 0, []),
  (9, 12, 25, 0, 0, 0, []),
  (12, 13, 2, 3, 0, 0, []),
  (13, 14, 1, 3, 0, 0, []),
  (14, 15, 27, 0, 0, 0, []),
  (15, 18, 4, 5, 2, 0, []),
  (18, 21, 31, 38, 3, 0, []),
  (21, 22, 1, 2, 0, 0, []),
  (22, 23, 27, 0, 0, 0, []),
  (23, 26, 4, 3, 2, 0, []),
  (26, 27, 1, 3, 0, 0, []),
  (27, 28, 6, 0, 0, 0, []),
  (28, 31, 25, 0, 0, 0, []),
  (31, 32, 2, 2, 0, 0, []),
  (32, 35, 3, 3, 0, 1, []),
  (35, 38, 19, 13, 0, 0, []),
  (38, 39, 1, 2, 0, 0, []),
  (39, 40, 33, 0, 0, 0, [])]
/-- Te.dropLast ()V -/
def zc_38 : List zm_q := [
  (0, 1, 27, 0, 0, 0, []),
  (1, 4, 4, 5, 2, 0, []),
  (4, 7, 30, 43, 5, 0, []),
  (7, 8, 27, 0, 0, 0, []),
  (8, 11, 4, 4, 2, 0, []),
  (11, 14, 30, 43, 5, 0, []),
  (14, 15, 27, 0, 0, 0, []),
  (15, 16, 16, 0, 0, 0, []),
  (16, 19, 4, 4, 2, 0, []),
  (19, 20, 27, 0, 0, 0, []),
  (20, 21, 27, 0, 0, 0, []),
  (21, 24, 4, 4, 2, 0, []),
  (24, 25, 0, 0, 0, 1, []),
  (25, 26, 11, 0, 0, 0, []),
  (26, 29, 36, 42, 2, 2, []),
  (29, 30, 11, 0, 0, 0, []),
  (30, 33, 5, 4, 2, 0, []),
  (33, 34, 27, 0, 0, 0, []),
  (34, 35, 16, 0, 0, 0, []),
  (35, 38, 4, 5, 2, 0, []),
  (38, 39, 0, 0, 0, 1, []),
  (39, 40, 11, 0, 0, 0, []),
  (40, 43, 5, 5, 2, 0, []),
  (43, 44, 34, 0, 0, 0, [])]
/-- Te.takeBody ()V -/
def zc_39 : List zm_q := [
  (0, 1, 27, 0, 0, 0, []),
  (1, 2, 27, 0, 0, 0, []),
  (2, 5, 0, 0, 0, 480, []),
  (5, 8, 36, 41, 2, 2, []),
  (8, 11, 5, 6, 2, 0, []),
  (11, 12, 34, 0, 0, 0, [])]
/-- Te.takeMain ()V -/
def zc_40 : List zm_q := [
  (0, 1, 27, 0, 0, 0, []),
  (1, 2, 27, 0, 0, 0, []),
  (2, 5, 0, 0, 0, 520, []),
  (5, 8, 36, 41, 2, 2, []),
  (8, 11, 5, 7, 2, 0, []),
  (11, 12, 34, 0, 0, 0, [])]
/-- Te.moveLast (I)I -/
def zc_41 : List zm_q := [
  (0, 1, 27, 0, 0, 0, []),
  (1, 2, 27, 0, 0, 0, []),
  (2, 5, 4, 4, 2, 0, []),
  (5, 6, 0, 0, 0, 1, []),
  (6, 7, 11, 0, 0, 0, []),
  (7, 10, 36, 42, 2, 2, []),
  (10, 11, 2, 2, 0, 0, []),
  (11, 12, 27, 0, 0, 0, []),
  (12, 15, 4, 4, 2, 0, []),
  (15, 16, 1, 2, 0, 0, []),
  (16, 17, 11, 0, 0, 0, []),
  (17, 18, 2, 3, 0, 0, []),
  (18, 19, 27, 0, 0, 0, []),
  (19, 22, 4, 0, 2, 0, []),
  (22, 23, 1, 3, 0, 0, []),
  (23, 24, 27, 0, 0, 0, []),
  (24, 27, 4, 0, 2, 0, []),
  (27, 28, 1, 1, 0, 0, []),
  (28, 29, 1, 2, 0, 0, []),
  (29, 32, 26, 0, 0, 0, []),
  (32, 33, 27, 0, 0, 0, []),
  (33, 36, 4, 1, 2, 0, []),
  (36, 37, 1, 3, 0, 0, []),
  (37, 38, 27, 0, 0, 0, []),
  (38, 41, 4, 1, 2, 0, []),
  (41, 42, 1, 1, 0, 0, []),
  (42, 43, 1, 2, 0, 0, []),
  (43, 46, 26, 0, 0, 0, []),
  (46, 47, 27, 0, 0, 0, []),
  (47, 50, 4, 2, 2, 0, []),
  (50, 51, 1, 3, 0, 0, []),
  (51, 52, 27, 0, 0, 0, []),
  (52, 55, 4, 2, 2, 0, []),
  (55, 56, 1, 1, 0, 0, []),
  (56, 57, 1, 2, 0, 0, []),
  (57, 60, 26, 0, 0, 0, []),
  (60, 61, 27, 0, 0, 0, []),
  (61, 64, 36, 38, 1, 2, []),
  (64, 65, 1, 1, 0, 0, []),
  (65, 66, 1, 2, 0, 0, []),
  (66, 67, 10, 0, 0, 0, []),
  (67, 68, 0, 0, 0, 1, []),
  (68, 69, 11, 0, 0, 0, []),
  (69, 70, 33, 0, 0, 0, [])]
/-- Te.sizeOf (I)I -/
def zc_42 : List zm_q := [
  (0, 1, 1, 1, 0, 0, []),
  (1, 4, 35, 43, 1, 0, []),
  (4, 7, 30, 16, 0, 0, []),
  (7, 8, 27, 0, 0, 0, []),
  (8, 11, 4, 2, 2, 0, []),
  (11, 12, 1, 1, 0, 0, []),
  (12, 13, 6, 0, 0, 0, []),
  (13, 16, 19, 17, 0, 0, []),
  (16, 17, 0, 0, 0, 0, []),
  (17, 18, 33, 0, 0, 0, [])]
/-- Te.isPlace (I)Z -/
def zc_43 : List zm_q := [
  (0, 1, 1, 0, 0, 0, []),
  (1, 4, 30, 15, 2, 0, []),
  (4, 5, 1, 0, 0, 0, []),
  (5, 8, 0, 0, 0, 560, []),
  (8, 11, 31, 15, 3, 0, []),
  (11, 12, 0, 0, 0, 1, []),
  (12, 15, 19, 16, 0, 0, []),
  (15, 16, 0, 0, 0, 0, []),
  (16, 17, 37, 0, 0, 0, [])]
/-- Ch.bodyIsRight (I)Z -/
def zc_44 : List zm_q := [
  (0, 1, 27, 0, 0, 0, []),
  (1, 4, 4, 0, 3, 0, []),
  (4, 7, 36, 14, 1, 1, []),
  (7, 8, 2, 2, 0, 0, []),
  (8, 9, 27, 0, 0, 0, []),
  (9, 10, 1, 1, 0, 0, []),
  (10, 13, 5, 5, 3, 0, []),
  (13, 14, 27, 0, 0, 0, []),
  (14, 15, 0, 0, 0, 0, []),
  (15, 18, 5, 4, 3, 0, []),
  (18, 19, 27, 0, 0, 0, []),
  (19, 20, 27, 0, 0, 0, []),
  (20, 23, 4, 0, 3, 0, []),
  (23, 24, 27, 0, 0, 0, []),
  (24, 27, 4, 0, 3, 0, []),
  (27, 28, 0, 0, 0, 0, []),
  (28, 31, 36, 26, 2, 1, []),
  (31, 34, 36, 25, 2, 1, []),
  (34, 37, 36, 52, 2, 3, []),
  (37, 38, 27, 0, 0, 0, []),
  (38, 39, 27, 0, 0, 0, []),
  (39, 42, 4, 1, 3, 0, []),
  (42, 45, 36, 30, 1, 2, []),
  (45, 46, 1, 1, 0, 0, []),
  (46, 49, 36, 46, 3, 3, []),
  (49, 50, 2, 3, 0, 0, []),
  (50, 51, 27, 0, 0, 0, []),
  (51, 54, 4, 0, 3, 0, []),
  (54, 55, 1, 2, 0, 0, []),
  (55, 58, 36, 28, 2, 1, []),
  (58, 59, 1, 3, 0, 0, []),
  (59, 60, 37, 0, 0, 0, [])]
/-- Ch.mainIsRight (II)Z -/
def zc_45 : List zm_q := [
  (0, 1, 27, 0, 0, 0, []),
  (1, 4, 4, 0, 3, 0, []),
  (4, 7, 36, 14, 1, 1, []),
  (7, 8, 2, 3, 0, 0, []),
  (8, 9, 27, 0, 0, 0, []),
  (9, 10, 1, 2, 0, 0, []),
  (10, 13, 5, 5, 3, 0, []),
  (13, 14, 27, 0, 0, 0, []),
  (14, 15, 0, 0, 0, 0, []),
  (15, 18, 5, 4, 3, 0, []),
  (18, 19, 27, 0, 0, 0, []),
  (19, 20, 27, 0, 0, 0, []),
  (20, 23, 4, 1, 3, 0, []),
  (23, 26, 36, 31, 1, 2, []),
  (26, 27, 1, 1, 0, 0, []),
  (27, 30, 36, 46, 3, 3, []),
  (30, 32, 2, 4, 0, 0, []),
  (32, 33, 27, 0, 0, 0, []),
  (33, 36, 4, 0, 3, 0, []),
  (36, 37, 1, 3, 0, 0, []),
  (37, 40, 36, 28, 2, 1, []),
  (40, 42, 1, 4, 0, 0, []),
  (42, 43, 37, 0, 0, 0, [])]
/-- Ch.isA (II)Z -/
def zc_46 : List zm_q := [
  (0, 1, 27, 0, 0, 0, []),
  (1, 4, 4, 1, 3, 0, []),
  (4, 5, 1, 1, 0, 0, []),
  (5, 8, 36, 32, 2, 2, []),
  (8, 36, 32, 100, 0, 0, [(5, 36), (17, 93)]),
  (36, 37, 27, 0, 0, 0, []),
  (37, 38, 27, 0, 0, 0, []),
  (38, 41, 4, 1, 3, 0, []),
  (41, 42, 1, 1, 0, 0, []),
  (42, 43, 0, 0, 0, 0, []),
  (43, 46, 36, 34, 3, 2, []),
  (46, 47, 0, 0, 0, 1, []),
  (47, 50, 36, 46, 3, 3, []),
  (50, 53, 30, 91, 0, 0, []),
  (53, 54, 27, 0, 0, 0, []),
  (54, 55, 27, 0, 0, 0, []),
  (55, 58, 4, 1, 3, 0, []),
  (58, 59, 1, 1, 0, 0, []),
  (59, 60, 0, 0, 0, 1, []),
  (60, 63, 36, 34, 3, 2, []),
  (63, 64, 1, 2, 0, 0, []),
  (64, 67, 36, 46, 3, 3, []),
  (67, 70, 30, 91, 0, 0, []),
  (70, 71, 27, 0, 0, 0, []),
  (71, 72, 27, 0, 0, 0, []),
  (72, 75, 4, 1, 3, 0, []),
  (75, 76, 1, 1, 0, 0, []),
  (76, 77, 0, 0, 0, 2, []),
  (77, 80, 36, 34, 3, 2, []),
  (80, 81, 1, 2, 0, 0, []),
  (81, 84, 36, 46, 3, 3, []),
  (84, 87, 30, 91, 0, 0, []),
  (87, 88, 0, 0, 0, 1, []),
  (88, 91, 19, 92, 0, 0, []),
  (91, 92, 0, 0, 0, 0, []),
  (92, 93, 37, 0, 0, 0, []),
  (93, 94, 27, 0, 0, 0, []),
  (94, 95, 1, 1, 0, 0, []),
  (95, 96, 1, 2, 0, 0, []),
  (96, 99, 36, 48, 3, 3, []),
  (99, 100, 37, 0, 0, 0, []),
  (100, 101, 27, 0, 0, 0, []),
  (101, 102, 27, 0, 0, 0, []),
  (102, 103, 1, 1, 0, 0, []),
  (103, 106, 36, 53, 2, 3, []),
  (106, 107, 1, 2, 0, 0, []),
  (107, 109, 0, 0, 0, 40, []),
  (109, 112, 36, 63, 4, 3, []),
  (112, 113, 37, 0, 0, 0, [])]
/-- Ch.areBothA (II)Z -/
def zc_47 : List zm_q := [
  (0, 1, 27, 0, 0, 0, []),
  (1, 2, 27, 0, 0, 0, []),
  (2, 5, 4, 1, 3, 0, []),
  (5, 6, 1, 1, 0, 0, []),
  (6, 7, 0, 0, 0, 0, []),
  (7, 10, 36, 34, 3, 2, []),
  (10, 11, 1, 2, 0, 0, []),
  (11, 14, 36, 46, 3, 3, []),
  (14, 17, 30, 38, 0, 0, []),
  (17, 18, 27, 0, 0, 0, []),
  (18, 19, 27, 0, 0, 0, []),
  (19, 22, 4, 1, 3, 0, []),
  (22, 23, 1, 1, 0, 0, []),
  (23, 24, 0, 0, 0, 1, []),
  (24, 27, 36, 34, 3, 2, []),
  (27, 28, 1, 2, 0, 0, []),
  (28, 31, 36, 46, 3, 3, []),
  (31, 34, 30, 38, 0, 0, []),
  (34, 35, 0, 0, 0, 1, []),
  (35, 38, 19, 39, 0, 0, []),
  (38, 39, 0, 0, 0, 0, []),
  (39, 40, 37, 0, 0, 0, [])]
/-- Ch.areCasesA (II)Z -/
def zc_48 : List zm_q := [
  (0, 1, 27, 0, 0, 0, []),
  (1, 2, 27, 0, 0, 0, []),
  (2, 3, 1, 1, 0, 0, []),
  (3, 4, 0, 0, 0, 0, []),
  (4, 7, 36, 54, 3, 3, []),
  (7, 10, 36, 58, 2, 3, []),
  (10, 11, 2, 3, 0, 0, []),
  (11, 12, 1, 3, 0, 0, []),
  (12, 13, 0, 0, 0, (-1), []),
  (13, 16, 31, 18, 1, 0, []),
  (16, 17, 0, 0, 0, 0, []),
  (17, 18, 37, 0, 0, 0, []),
  (18, 20, 0, 0, 0, 11, []),
  (20, 22, 2, 4, 0, 0, []),
  (22, 24, 1, 4, 0, 0, []),
  (24, 26, 0, 0, 0, 16, []),
  (26, 29, 31, 62, 4, 0, []),
  (29, 30, 27, 0, 0, 0, []),
  (30, 32, 1, 4, 0, 0, []),
  (32, 33, 27, 0, 0, 0, []),
  (33, 36, 4, 1, 3, 0, []),
  (36, 37, 1, 1, 0, 0, []),
  (37, 39, 1, 4, 0, 0, []),
  (39, 42, 36, 35, 3, 2, []),
  (42, 43, 27, 0, 0, 0, []),
  (43, 44, 1, 3, 0, 0, []),
  (44, 47, 36, 61, 2, 3, []),
  (47, 48, 1, 2, 0, 0, []),
  (48, 51, 36, 49, 5, 3, []),
  (51, 54, 30, 56, 1, 0, []),
  (54, 55, 0, 0, 0, 0, []),
  (55, 56, 37, 0, 0, 0, []),
  (56, 59, 3, 4, 0, 1, []),
  (59, 62, 19, 22, 0, 0, []),
  (62, 63, 0, 0, 0, 1, []),
  (63, 64, 37, 0, 0, 0, [])]
/-- Ch.isCaseA (IIII)Z -/
def zc_49 : List zm_q := [
  (0, 1, 27, 0, 0, 0, []),
  (1, 2, 1, 1, 0, 0, []),
  (2, 3, 1, 3, 0, 0, []),
  (3, 6, 36, 50, 3, 3, []),
  (6, 8, 2, 5, 0, 0, []),
  (8, 9, 27, 0, 0, 0, []),
  (9, 12, 4, 0, 3, 0, []),
  (12, 13, 1, 3, 0, 0, []),
  (13, 16, 36, 16, 2, 1, []),
  (16, 17, 0, 0, 0, 2, []),
  (17, 20, 31, 24, 1, 0, []),
  (20, 21, 0, 0, 0, 1, []),
  (21, 24, 19, 25, 0, 0, []),
  (24, 25, 0, 0, 0, 0, []),
  (25, 27, 2, 6, 0, 0, []),
  (27, 29, 1, 6, 0, 0, []),
  (29, 32, 30, 54, 1, 0, []),
  (32, 33, 27, 0, 0, 0, []),
  (33, 36, 4, 0, 3, 0, []),
  (36, 37, 1, 3, 0, 0, []),
  (37, 40, 36, 16, 2, 1, []),
  (40, 41, 27, 0, 0, 0, []),
  (41, 44, 4, 0, 3, 0, []),
  (44, 46, 1, 5, 0, 0, []),
  (46, 49, 36, 16, 2, 1, []),
  (49, 52, 31, 54, 0, 0, []),
  (52, 53, 0, 0, 0, 1, []),
  (53, 54, 37, 0, 0, 0, []),
  (54, 55, 1, 2, 0, 0, []),
  (55, 56, 0, 0, 0, (-1), []),
  (56, 59, 31, 65, 0, 0, []),
  (59, 61, 1, 5, 0, 0, []),
  (61, 62, 0, 0, 0, (-1), []),
  (62, 65, 31, 67, 1, 0, []),
  (65, 66, 0, 0, 0, 0, []),
  (66, 67, 37, 0, 0, 0, []),
  (67, 68, 27, 0, 0, 0, []),
  (68, 71, 4, 4, 3, 0, []),
  (71, 73, 2, 7, 0, 0, []),
  (73, 74, 27, 0, 0, 0, []),
  (74, 75, 1, 1, 0, 0, []),
  (75, 76, 1, 3, 0, 0, []),
  (76, 78, 1, 5, 0, 0, []),
  (78, 81, 36, 51, 4, 3, []),
  (81, 83, 1, 6, 0, 0, []),
  (83, 86, 30, 100, 0, 0, []),
  (86, 88, 1, 5, 0, 0, []),
  (88, 89, 1, 3, 0, 0, []),
  (89, 92, 31, 100, 0, 0, []),
  (92, 93, 27, 0, 0, 0, []),
  (93, 96, 4, 2, 3, 0, []),
  (96, 97, 1, 3, 0, 0, []),
  (97, 99, 1, 5, 0, 0, []),
  (99, 100, 7, 0, 0, 0, []),
  (100, 101, 27, 0, 0, 0, []),
  (101, 102, 1, 2, 0, 0, []),
  (102, 104, 1, 4, 0, 0, []),
  (104, 107, 36, 46, 3, 3, []),
  (107, 109, 2, 8, 0, 0, []),
  (109, 110, 27, 0, 0, 0, []),
  (110, 113, 4, 2, 3, 0, []),
  (113, 114, 1, 3, 0, 0, []),
  (114, 115, 0, 0, 0, (-1), []),
  (115, 116, 7, 0, 0, 0, []),
  (116, 117, 27, 0, 0, 0, []),
  (117, 119, 1, 7, 0, 0, []),
  (119, 122, 5, 4, 3, 0, []),
  (122, 124, 1, 8, 0, 0, []),
  (124, 125, 37, 0, 0, 0, [])]
/-- Ch.equatedBy (II)I -/
def zc_50 : List zm_q := [
  (0, 1, 1, 1, 0, 0, []),
  (1, 36, 32, 77, 0, 0, [(11, 36), (12, 38), (13, 36), (14, 77), (15, 40)]),
  (36, 37, 0, 0, 0, 0, []),
  (37, 38, 33, 0, 0, 0, []),
  (38, 39, 0, 0, 0, 1, []),
  (39, 40, 33, 0, 0, 0, []),
  (40, 41, 27, 0, 0, 0, []),
  (41, 44, 4, 0, 3, 0, []),
  (44, 45, 1, 2, 0, 0, []),
  (45, 48, 36, 16, 2, 1, []),
  (48, 51, 30, 55, 1, 0, []),
  (51, 52, 1, 2, 0, 0, []),
  (52, 55, 19, 76, 0, 0, []),
  (55, 56, 27, 0, 0, 0, []),
  (56, 59, 4, 0, 3, 0, []),
  (59, 60, 27, 0, 0, 0, []),
  (60, 63, 4, 0, 3, 0, []),
  (63, 66, 36, 27, 1, 1, []),
  (66, 67, 27, 0, 0, 0, []),
  (67, 70, 4, 0, 3, 0, []),
  (70, 73, 36, 27, 1, 1, []),
  (73, 76, 36, 24, 3, 1, []),
  (76, 77, 33, 0, 0, 0, []),
  (77, 78, 1, 2, 0, 0, []),
  (78, 79, 33, 0, 0, 0, [])]
/-- Ch.addVariablesOf (III)V -/
def zc_51 : List zm_q := [
  (0, 1, 1, 1, 0, 0, []),
  (1, 36, 32, 159, 0, 0, [(11, 36), (12, 44), (13, 52), (14, 79), (15, 118)]),
  (36, 37, 27, 0, 0, 0, []),
  (37, 38, 0, 0, 0, 0, []),
  (38, 41, 36, 52, 2, 3, []),
  (41, 44, 19, 185, 0, 0, []),
  (44, 45, 27, 0, 0, 0, []),
  (45, 46, 0, 0, 0, 1, []),
  (46, 49, 36, 52, 2, 3, []),
  (49, 52, 19, 185, 0, 0, []),
  (52, 53, 27, 0, 0, 0, []),
  (53, 54, 27, 0, 0, 0, []),
  (54, 57, 4, 0, 3, 0, []),
  (57, 58, 0, 0, 0, 0, []),
  (58, 61, 36, 25, 2, 1, []),
  (61, 64, 36, 52, 2, 3, []),
  (64, 65, 27, 0, 0, 0, []),
  (65, 66, 27, 0, 0, 0, []),
  (66, 69, 4, 0, 3, 0, []),
  (69, 70, 0, 0, 0, 0, []),
  (70, 73, 36, 25, 2, 1, []),
  (73, 76, 36, 52, 2, 3, []),
  (76, 79, 19, 185, 0, 0, []),
  (79, 80, 27, 0, 0, 0, []),
  (80, 81, 27, 0, 0, 0, []),
  (81, 84, 4, 0, 3, 0, []),
  (84, 85, 0, 0, 0, 1, []),
  (85, 88, 36, 25, 2, 1, []),
  (88, 91, 36, 52, 2, 3, []),
  (91, 92, 27, 0, 0, 0, []),
  (92, 93, 27, 0, 0, 0, []),
  (93, 96, 4, 0, 3, 0, []),
  (96, 97, 1, 2, 0, 0, []),
  (97, 100, 36, 25, 2, 1, []),
  (100, 103, 36, 52, 2, 3, []),
  (103, 104, 27, 0, 0, 0, []),
  (104, 105, 27, 0, 0, 0, []),
  (105, 108, 4, 0, 3, 0, []),
  (108, 109, 1, 2, 0, 0, []),
  (109, 112, 36, 25, 2, 1, []),
  (112, 115, 36, 52, 2, 3, []),
  (115, 118, 19, 185, 0, 0, []),
  (118, 119, 27, 0, 0, 0, []),
  (119, 120, 27, 0, 0, 0, []),
  (120, 123, 4, 0, 3, 0, []),
  (123, 124, 27, 0, 0, 0, []),
  (124, 127, 4, 0, 3, 0, []),
  (127, 128, 1, 3, 0, 0, []),
  (128, 131, 36, 17, 2, 1, []),
  (131, 134, 36, 25, 2, 1, []),
  (134, 137, 36, 52, 2, 3, []),
  (137, 138, 27, 0, 0, 0, []),
  (138, 139, 27, 0, 0, 0, []),
  (139, 142, 4, 0, 3, 0, []),
  (142, 143, 27, 0, 0, 0, []),
  (143, 146, 4, 0, 3, 0, []),
  (146, 147, 1, 3, 0, 0, []),
  (147, 150, 36, 18, 2, 1, []),
  (150, 153, 36, 25, 2, 1, []),
  (153, 156, 36, 52, 2, 3, []),
  (156, 159, 19, 185, 0, 0, []),
  (159, 160, 27, 0, 0, 0, []),
  (160, 161, 27, 0, 0, 0, []),
  (161, 164, 4, 0, 3, 0, []),
  (164, 165, 27, 0, 0, 0, []),
  (165, 168, 4, 0, 3, 0, []),
  (168, 169, 1, 2, 0, 0, []),
  (169, 170, 27, 0, 0, 0, []),
  (170, 173, 4, 0, 3, 0, []),
  (173, 176, 36, 27, 1, 1, []),
  (176, 179, 36, 24, 3, 1, []),
  (179, 182, 36, 25, 2, 1, []),
  (182, 185, 36, 52, 2, 3, []),
  (185, 186, 34, 0, 0, 0, [])]
/-- Ch.addVariable (I)V -/
def zc_52 : List zm_q := [
  (0, 1, 27, 0, 0, 0, []),
  (1, 4, 4, 4, 3, 0, []),
  (4, 6, 0, 0, 0, 16, []),
  (6, 9, 31, 29, 3, 0, []),
  (9, 10, 27, 0, 0, 0, []),
  (10, 13, 4, 3, 3, 0, []),
  (13, 14, 27, 0, 0, 0, []),
  (14, 17, 4, 4, 3, 0, []),
  (17, 18, 1, 1, 0, 0, []),
  (18, 19, 7, 0, 0, 0, []),
  (19, 20, 27, 0, 0, 0, []),
  (20, 21, 16, 0, 0, 0, []),
  (21, 24, 4, 4, 3, 0, []),
  (24, 25, 0, 0, 0, 1, []),
  (25, 26, 10, 0, 0, 0, []),
  (26, 29, 5, 4, 3, 0, []),
  (29, 30, 34, 0, 0, 0, [])]
/-- Ch.find (I)I -/
def zc_53 : List zm_q := [
  (0, 1, 27, 0, 0, 0, []),
  (1, 4, 4, 1, 3, 0, []),
  (4, 5, 1, 1, 0, 0, []),
  (5, 8, 36, 32, 2, 2, []),
  (8, 68, 32, 214, 0, 0, [(0, 68), (1, 70), (2, 72), (3, 85), (4, 100), (5, 214), (6, 115), (7, 135), (8, 146), (9, 157), (10, 177)]),
  (68, 69, 0, 0, 0, 0, []),
  (69, 70, 33, 0, 0, 0, []),
  (70, 71, 0, 0, 0, 1, []),
  (71, 72, 33, 0, 0, 0, []),
  (72, 73, 27, 0, 0, 0, []),
  (73, 74, 27, 0, 0, 0, []),
  (74, 77, 4, 1, 3, 0, []),
  (77, 78, 1, 1, 0, 0, []),
  (78, 81, 36, 33, 2, 2, []),
  (81, 84, 36, 57, 2, 3, []),
  (84, 85, 33, 0, 0, 0, []),
  (85, 86, 27, 0, 0, 0, []),
  (86, 87, 1, 1, 0, 0, []),
  (87, 88, 0, 0, 0, 0, []),
  (88, 91, 36, 47, 3, 3, []),
  (91, 94, 30, 98, 0, 0, []),
  (94, 95, 0, 0, 0, 0, []),
  (95, 98, 19, 99, 0, 0, []),
  (98, 99, 0, 0, 0, (-1), []),
  (99, 100, 33, 0, 0, 0, []),
  (100, 101, 27, 0, 0, 0, []),
  (101, 102, 1, 1, 0, 0, []),
  (102, 103, 0, 0, 0, 0, []),
  (103, 106, 36, 47, 3, 3, []),
  (106, 109, 30, 113, 0, 0, []),
  (109, 110, 0, 0, 0, 1, []),
  (110, 113, 19, 114, 0, 0, []),
  (113, 114, 0, 0, 0, (-1), []),
  (114, 115, 33, 0, 0, 0, []),
  (115, 116, 27, 0, 0, 0, []),
  (116, 119, 4, 0, 3, 0, []),
  (119, 120, 27, 0, 0, 0, []),
  (120, 121, 1, 1, 0, 0, []),
  (121, 122, 0, 0, 0, 0, []),
  (122, 125, 36, 54, 3, 3, []),
  (125, 126, 27, 0, 0, 0, []),
  (126, 127, 1, 1, 0, 0, []),
  (127, 128, 0, 0, 0, 1, []),
  (128, 131, 36, 54, 3, 3, []),
  (131, 134, 36, 24, 3, 1, []),
  (134, 135, 33, 0, 0, 0, []),
  (135, 136, 27, 0, 0, 0, []),
  (136, 137, 27, 0, 0, 0, []),
  (137, 138, 1, 1, 0, 0, []),
  (138, 139, 0, 0, 0, 0, []),
  (139, 142, 36, 54, 3, 3, []),
  (142, 145, 36, 59, 2, 3, []),
  (145, 146, 33, 0, 0, 0, []),
  (146, 147, 27, 0, 0, 0, []),
  (147, 148, 27, 0, 0, 0, []),
  (148, 149, 1, 1, 0, 0, []),
  (149, 150, 0, 0, 0, 0, []),
  (150, 153, 36, 54, 3, 3, []),
  (153, 156, 36, 60, 2, 3, []),
  (156, 157, 33, 0, 0, 0, []),
  (157, 158, 27, 0, 0, 0, []),
  (158, 159, 27, 0, 0, 0, []),
  (159, 162, 4, 5, 3, 0, []),
  (162, 163, 27, 0, 0, 0, []),
  (163, 164, 27, 0, 0, 0, []),
  (164, 165, 1, 1, 0, 0, []),
  (165, 166, 0, 0, 0, 0, []),
  (166, 169, 36, 54, 3, 3, []),
  (169, 172, 36, 58, 2, 3, []),
  (172, 173, 0, 0, 0, 4, []),
  (173, 176, 36, 62, 4, 3, []),
  (176, 177, 33, 0, 0, 0, []),
  (177, 178, 27, 0, 0, 0, []),
  (178, 179, 27, 0, 0, 0, []),
  (179, 182, 4, 1, 3, 0, []),
  (182, 183, 1, 1, 0, 0, []),
  (183, 184, 0, 0, 0, 0, []),
  (184, 187, 36, 34, 3, 2, []),
  (187, 188, 27, 0, 0, 0, []),
  (188, 191, 4, 1, 3, 0, []),
  (191, 192, 1, 1, 0, 0, []),
  (192, 195, 36, 33, 2, 2, []),
  (195, 198, 36, 46, 3, 3, []),
  (198, 201, 30, 212, 0, 0, []),
  (201, 202, 27, 0, 0, 0, []),
  (202, 205, 4, 1, 3, 0, []),
  (205, 206, 1, 1, 0, 0, []),
  (206, 209, 36, 33, 2, 2, []),
  (209, 212, 19, 213, 0, 0, []),
  (212, 213, 0, 0, 0, (-1), []),
  (213, 214, 33, 0, 0, 0, []),
  (214, 215, 27, 0, 0, 0, []),
  (215, 216, 1, 1, 0, 0, []),
  (216, 219, 36, 55, 2, 3, []),
  (219, 220, 33, 0, 0, 0, [])]
/-- Ch.findPart (II)I -/
def zc_54 : List zm_q := [
  (0, 1, 27, 0, 0, 0, []),
  (1, 2, 27, 0, 0, 0, []),
  (2, 5, 4, 1, 3, 0, []),
  (5, 6, 1, 1, 0, 0, []),
  (6, 7, 1, 2, 0, 0, []),
  (7, 10, 36, 34, 3, 2, []),
  (10, 13, 36, 53, 2, 3, []),
  (13, 14, 33, 0, 0, 0, [])]
/-- Ch.findMade (I)I -/
def zc_55 : List zm_q := [
  (0, 1, 27, 0, 0, 0, []),
  (1, 4, 4, 1, 3, 0, []),
  (4, 5, 1, 1, 0, 0, []),
  (5, 8, 36, 32, 2, 2, []),
  (8, 48, 32, 200, 0, 0, [(11, 48), (12, 78), (13, 108), (14, 137), (15, 143), (16, 178)]),
  (48, 49, 27, 0, 0, 0, []),
  (49, 50, 27, 0, 0, 0, []),
  (50, 53, 4, 1, 3, 0, []),
  (53, 54, 1, 1, 0, 0, []),
  (54, 55, 0, 0, 0, 0, []),
  (55, 58, 36, 34, 3, 2, []),
  (58, 59, 0, 0, 0, 0, []),
  (59, 62, 36, 46, 3, 3, []),
  (62, 65, 30, 76, 0, 0, []),
  (65, 66, 27, 0, 0, 0, []),
  (66, 69, 4, 0, 3, 0, []),
  (69, 70, 0, 0, 0, 0, []),
  (70, 73, 36, 25, 2, 1, []),
  (73, 76, 19, 77, 0, 0, []),
  (76, 77, 0, 0, 0, (-1), []),
  (77, 78, 33, 0, 0, 0, []),
  (78, 79, 27, 0, 0, 0, []),
  (79, 80, 27, 0, 0, 0, []),
  (80, 83, 4, 1, 3, 0, []),
  (83, 84, 1, 1, 0, 0, []),
  (84, 85, 0, 0, 0, 0, []),
  (85, 88, 36, 34, 3, 2, []),
  (88, 89, 0, 0, 0, 1, []),
  (89, 92, 36, 46, 3, 3, []),
  (92, 95, 30, 106, 0, 0, []),
  (95, 96, 27, 0, 0, 0, []),
  (96, 99, 4, 0, 3, 0, []),
  (99, 100, 0, 0, 0, 1, []),
  (100, 103, 36, 25, 2, 1, []),
  (103, 106, 19, 107, 0, 0, []),
  (106, 107, 0, 0, 0, (-1), []),
  (107, 108, 33, 0, 0, 0, []),
  (108, 109, 27, 0, 0, 0, []),
  (109, 110, 1, 1, 0, 0, []),
  (110, 111, 27, 0, 0, 0, []),
  (111, 114, 4, 0, 3, 0, []),
  (114, 115, 0, 0, 0, 0, []),
  (115, 118, 36, 25, 2, 1, []),
  (118, 121, 36, 47, 3, 3, []),
  (121, 124, 30, 135, 0, 0, []),
  (124, 125, 27, 0, 0, 0, []),
  (125, 128, 4, 0, 3, 0, []),
  (128, 129, 0, 0, 0, 0, []),
  (129, 132, 36, 25, 2, 1, []),
  (132, 135, 19, 136, 0, 0, []),
  (135, 136, 0, 0, 0, (-1), []),
  (136, 137, 33, 0, 0, 0, []),
  (137, 138, 27, 0, 0, 0, []),
  (138, 139, 1, 1, 0, 0, []),
  (139, 142, 36, 56, 2, 3, []),
  (142, 143, 33, 0, 0, 0, []),
  (143, 144, 27, 0, 0, 0, []),
  (144, 147, 4, 0, 3, 0, []),
  (147, 148, 27, 0, 0, 0, []),
  (148, 151, 4, 0, 3, 0, []),
  (151, 152, 27, 0, 0, 0, []),
  (152, 153, 27, 0, 0, 0, []),
  (153, 154, 1, 1, 0, 0, []),
  (154, 155, 0, 0, 0, 0, []),
  (155, 158, 36, 54, 3, 3, []),
  (158, 161, 36, 58, 2, 3, []),
  (161, 162, 27, 0, 0, 0, []),
  (162, 163, 27, 0, 0, 0, []),
  (163, 164, 1, 1, 0, 0, []),
  (164, 165, 0, 0, 0, 1, []),
  (165, 168, 36, 54, 3, 3, []),
  (168, 171, 36, 58, 2, 3, []),
  (171, 174, 36, 24, 3, 1, []),
  (174, 177, 36, 25, 2, 1, []),
  (177, 178, 33, 0, 0, 0, []),
  (178, 179, 27, 0, 0, 0, []),
  (179, 182, 4, 0, 3, 0, []),
  (182, 183, 27, 0, 0, 0, []),
  (183, 184, 27, 0, 0, 0, []),
  (184, 185, 27, 0, 0, 0, []),
  (185, 186, 1, 1, 0, 0, []),
  (186, 187, 0, 0, 0, 0, []),
  (187, 190, 36, 54, 3, 3, []),
  (190, 193, 36, 58, 2, 3, []),
  (193, 196, 36, 59, 2, 3, []),
  (196, 199, 36, 25, 2, 1, []),
  (199, 200, 33, 0, 0, 0, []),
  (200, 201, 0, 0, 0, (-1), []),
  (201, 202, 33, 0, 0, 0, [])]
/-- Ch.findWhen (I)I -/
def zc_56 : List zm_q := [
  (0, 1, 27, 0, 0, 0, []),
  (1, 4, 4, 0, 3, 0, []),
  (4, 5, 27, 0, 0, 0, []),
  (5, 6, 27, 0, 0, 0, []),
  (6, 7, 1, 1, 0, 0, []),
  (7, 8, 0, 0, 0, 1, []),
  (8, 11, 36, 54, 3, 3, []),
  (11, 14, 36, 58, 2, 3, []),
  (14, 17, 36, 25, 2, 1, []),
  (17, 18, 2, 2, 0, 0, []),
  (18, 19, 1, 2, 0, 0, []),
  (19, 20, 0, 0, 0, (-1), []),
  (20, 23, 31, 25, 1, 0, []),
  (23, 24, 0, 0, 0, (-1), []),
  (24, 25, 33, 0, 0, 0, []),
  (25, 26, 27, 0, 0, 0, []),
  (26, 27, 27, 0, 0, 0, []),
  (27, 30, 4, 1, 3, 0, []),
  (30, 31, 1, 1, 0, 0, []),
  (31, 32, 0, 0, 0, 0, []),
  (32, 35, 36, 34, 3, 2, []),
  (35, 36, 27, 0, 0, 0, []),
  (36, 39, 4, 0, 3, 0, []),
  (39, 40, 0, 0, 0, 1, []),
  (40, 43, 36, 25, 2, 1, []),
  (43, 46, 36, 46, 3, 3, []),
  (46, 49, 30, 70, 0, 0, []),
  (49, 50, 27, 0, 0, 0, []),
  (50, 51, 27, 0, 0, 0, []),
  (51, 54, 4, 1, 3, 0, []),
  (54, 55, 1, 1, 0, 0, []),
  (55, 56, 0, 0, 0, 2, []),
  (56, 59, 36, 34, 3, 2, []),
  (59, 60, 1, 2, 0, 0, []),
  (60, 63, 36, 46, 3, 3, []),
  (63, 66, 30, 70, 0, 0, []),
  (66, 67, 0, 0, 0, 1, []),
  (67, 70, 19, 71, 0, 0, []),
  (70, 71, 0, 0, 0, 0, []),
  (71, 72, 2, 3, 0, 0, []),
  (72, 73, 1, 3, 0, 0, []),
  (73, 76, 30, 80, 0, 0, []),
  (76, 77, 1, 2, 0, 0, []),
  (77, 80, 19, 81, 0, 0, []),
  (80, 81, 0, 0, 0, (-1), []),
  (81, 82, 33, 0, 0, 0, [])]
/-- Ch.variableAt (I)I -/
def zc_57 : List zm_q := [
  (0, 1, 1, 1, 0, 0, []),
  (1, 4, 30, 21, 2, 0, []),
  (4, 5, 1, 1, 0, 0, []),
  (5, 6, 27, 0, 0, 0, []),
  (6, 9, 4, 4, 3, 0, []),
  (9, 12, 31, 21, 3, 0, []),
  (12, 13, 27, 0, 0, 0, []),
  (13, 16, 4, 3, 3, 0, []),
  (16, 17, 1, 1, 0, 0, []),
  (17, 18, 6, 0, 0, 0, []),
  (18, 21, 19, 22, 0, 0, []),
  (21, 22, 0, 0, 0, (-1), []),
  (22, 23, 33, 0, 0, 0, [])]
/-- Ch.insideOf (I)I -/
def zc_58 : List zm_q := [
  (0, 1, 27, 0, 0, 0, []),
  (1, 2, 1, 1, 0, 0, []),
  (2, 5, 36, 61, 2, 3, []),
  (5, 6, 2, 2, 0, 0, []),
  (6, 7, 27, 0, 0, 0, []),
  (7, 10, 4, 0, 3, 0, []),
  (10, 11, 1, 2, 0, 0, []),
  (11, 14, 36, 16, 2, 1, []),
  (14, 15, 0, 0, 0, 1, []),
  (15, 18, 31, 29, 1, 0, []),
  (18, 19, 27, 0, 0, 0, []),
  (19, 22, 4, 0, 3, 0, []),
  (22, 23, 1, 2, 0, 0, []),
  (23, 26, 36, 17, 2, 1, []),
  (26, 29, 19, 30, 0, 0, []),
  (29, 30, 0, 0, 0, (-1), []),
  (30, 31, 33, 0, 0, 0, [])]
/-- Ch.firstIn (I)I -/
def zc_59 : List zm_q := [
  (0, 1, 27, 0, 0, 0, []),
  (1, 2, 1, 1, 0, 0, []),
  (2, 5, 36, 61, 2, 3, []),
  (5, 6, 2, 2, 0, 0, []),
  (6, 7, 27, 0, 0, 0, []),
  (7, 10, 4, 0, 3, 0, []),
  (10, 11, 1, 2, 0, 0, []),
  (11, 14, 36, 16, 2, 1, []),
  (14, 17, 30, 28, 1, 0, []),
  (17, 18, 27, 0, 0, 0, []),
  (18, 21, 4, 0, 3, 0, []),
  (21, 22, 1, 2, 0, 0, []),
  (22, 25, 36, 17, 2, 1, []),
  (25, 28, 19, 29, 0, 0, []),
  (28, 29, 0, 0, 0, (-1), []),
  (29, 30, 33, 0, 0, 0, [])]
/-- Ch.secondIn (I)I -/
def zc_60 : List zm_q := [
  (0, 1, 27, 0, 0, 0, []),
  (1, 2, 1, 1, 0, 0, []),
  (2, 5, 36, 61, 2, 3, []),
  (5, 6, 2, 2, 0, 0, []),
  (6, 7, 27, 0, 0, 0, []),
  (7, 10, 4, 0, 3, 0, []),
  (10, 11, 1, 2, 0, 0, []),
  (11, 14, 36, 16, 2, 1, []),
  (14, 17, 30, 28, 1, 0, []),
  (17, 18, 27, 0, 0, 0, []),
  (18, 21, 4, 0, 3, 0, []),
  (21, 22, 1, 2, 0, 0, []),
  (22, 25, 36, 18, 2, 1, []),
  (25, 28, 19, 29, 0, 0, []),
  (28, 29, 0, 0, 0, (-1), []),
  (29, 30, 33, 0, 0, 0, [])]
/-- Ch.asTold (I)I -/
def zc_61 : List zm_q := [
  (0, 1, 27, 0, 0, 0, []),
  (1, 4, 4, 0, 3, 0, []),
  (4, 5, 1, 1, 0, 0, []),
  (5, 8, 36, 15, 2, 1, []),
  (8, 11, 30, 30, 0, 0, []),
  (11, 12, 27, 0, 0, 0, []),
  (12, 15, 4, 2, 3, 0, []),
  (15, 16, 1, 1, 0, 0, []),
  (16, 17, 6, 0, 0, 0, []),
  (17, 18, 0, 0, 0, (-1), []),
  (18, 21, 31, 30, 0, 0, []),
  (21, 22, 27, 0, 0, 0, []),
  (22, 25, 4, 2, 3, 0, []),
  (25, 26, 1, 1, 0, 0, []),
  (26, 27, 6, 0, 0, 0, []),
  (27, 30, 19, 31, 0, 0, []),
  (30, 31, 1, 1, 0, 0, []),
  (31, 32, 33, 0, 0, 0, [])]
/-- Ch.resultAt (III)I -/
def zc_62 : List zm_q := [
  (0, 1, 1, 2, 0, 0, []),
  (1, 2, 0, 0, 0, (-1), []),
  (2, 5, 31, 9, 0, 0, []),
  (5, 6, 1, 3, 0, 0, []),
  (6, 9, 30, 11, 1, 0, []),
  (9, 10, 0, 0, 0, (-1), []),
  (10, 11, 33, 0, 0, 0, []),
  (11, 12, 27, 0, 0, 0, []),
  (12, 15, 4, 0, 3, 0, []),
  (15, 16, 1, 1, 0, 0, []),
  (16, 19, 36, 16, 2, 1, []),
  (19, 44, 32, 125, 0, 0, [(0, 44), (1, 84), (2, 108)]),
  (44, 45, 27, 0, 0, 0, []),
  (45, 48, 4, 0, 3, 0, []),
  (48, 49, 27, 0, 0, 0, []),
  (49, 50, 27, 0, 0, 0, []),
  (50, 53, 4, 0, 3, 0, []),
  (53, 54, 1, 1, 0, 0, []),
  (54, 57, 36, 17, 2, 1, []),
  (57, 58, 1, 2, 0, 0, []),
  (58, 59, 1, 3, 0, 0, []),
  (59, 60, 0, 0, 0, 1, []),
  (60, 61, 11, 0, 0, 0, []),
  (61, 64, 36, 62, 4, 3, []),
  (64, 65, 27, 0, 0, 0, []),
  (65, 66, 27, 0, 0, 0, []),
  (66, 69, 4, 0, 3, 0, []),
  (69, 70, 1, 1, 0, 0, []),
  (70, 73, 36, 18, 2, 1, []),
  (73, 74, 1, 2, 0, 0, []),
  (74, 75, 1, 3, 0, 0, []),
  (75, 76, 0, 0, 0, 1, []),
  (76, 77, 11, 0, 0, 0, []),
  (77, 80, 36, 62, 4, 3, []),
  (80, 83, 36, 24, 3, 1, []),
  (83, 84, 33, 0, 0, 0, []),
  (84, 85, 27, 0, 0, 0, []),
  (85, 88, 4, 0, 3, 0, []),
  (88, 89, 27, 0, 0, 0, []),
  (89, 90, 27, 0, 0, 0, []),
  (90, 93, 4, 0, 3, 0, []),
  (93, 94, 1, 1, 0, 0, []),
  (94, 97, 36, 17, 2, 1, []),
  (97, 98, 1, 2, 0, 0, []),
  (98, 99, 1, 3, 0, 0, []),
  (99, 100, 0, 0, 0, 1, []),
  (100, 101, 11, 0, 0, 0, []),
  (101, 104, 36, 62, 4, 3, []),
  (104, 107, 36, 25, 2, 1, []),
  (107, 108, 33, 0, 0, 0, []),
  (108, 109, 27, 0, 0, 0, []),
  (109, 112, 4, 0, 3, 0, []),
  (112, 113, 1, 1, 0, 0, []),
  (113, 116, 36, 17, 2, 1, []),
  (116, 119, 30, 123, 1, 0, []),
  (119, 120, 1, 2, 0, 0, []),
  (120, 123, 19, 124, 0, 0, []),
  (123, 124, 1, 1, 0, 0, []),
  (124, 125, 33, 0, 0, 0, []),
  (125, 126, 1, 1, 0, 0, []),
  (126, 127, 33, 0, 0, 0, [])]
/-- Ch.areEqual (III)Z -/
def zc_63 : List zm_q := [
  (0, 1, 1, 1, 0, 0, []),
  (1, 2, 0, 0, 0, (-1), []),
  (2, 5, 31, 14, 0, 0, []),
  (5, 6, 1, 2, 0, 0, []),
  (6, 7, 0, 0, 0, (-1), []),
  (7, 10, 31, 14, 0, 0, []),
  (10, 11, 1, 3, 0, 0, []),
  (11, 14, 30, 16, 1, 0, []),
  (14, 15, 0, 0, 0, 0, []),
  (15, 16, 37, 0, 0, 0, []),
  (16, 17, 27, 0, 0, 0, []),
  (17, 18, 1, 1, 0, 0, []),
  (18, 21, 36, 61, 2, 3, []),
  (21, 23, 2, 4, 0, 0, []),
  (23, 24, 27, 0, 0, 0, []),
  (24, 25, 1, 2, 0, 0, []),
  (25, 28, 36, 61, 2, 3, []),
  (28, 30, 2, 5, 0, 0, []),
  (30, 32, 1, 4, 0, 0, []),
  (32, 34, 1, 5, 0, 0, []),
  (34, 37, 31, 39, 1, 0, []),
  (37, 38, 0, 0, 0, 1, []),
  (38, 39, 37, 0, 0, 0, []),
  (39, 40, 27, 0, 0, 0, []),
  (40, 43, 4, 0, 3, 0, []),
  (43, 45, 1, 4, 0, 0, []),
  (45, 48, 36, 16, 2, 1, []),
  (48, 49, 27, 0, 0, 0, []),
  (49, 52, 4, 0, 3, 0, []),
  (52, 54, 1, 5, 0, 0, []),
  (54, 57, 36, 16, 2, 1, []),
  (57, 60, 31, 62, 0, 0, []),
  (60, 61, 0, 0, 0, 0, []),
  (61, 62, 37, 0, 0, 0, []),
  (62, 63, 27, 0, 0, 0, []),
  (63, 66, 4, 0, 3, 0, []),
  (66, 68, 1, 4, 0, 0, []),
  (68, 71, 36, 16, 2, 1, []),
  (71, 96, 32, 184, 0, 0, [(0, 96), (1, 158)]),
  (96, 97, 27, 0, 0, 0, []),
  (97, 98, 27, 0, 0, 0, []),
  (98, 101, 4, 0, 3, 0, []),
  (101, 103, 1, 4, 0, 0, []),
  (103, 106, 36, 17, 2, 1, []),
  (106, 107, 27, 0, 0, 0, []),
  (107, 110, 4, 0, 3, 0, []),
  (110, 112, 1, 5, 0, 0, []),
  (112, 115, 36, 17, 2, 1, []),
  (115, 116, 1, 3, 0, 0, []),
  (116, 117, 0, 0, 0, 1, []),
  (117, 118, 11, 0, 0, 0, []),
  (118, 121, 36, 63, 4, 3, []),
  (121, 124, 30, 156, 0, 0, []),
  (124, 125, 27, 0, 0, 0, []),
  (125, 126, 27, 0, 0, 0, []),
  (126, 129, 4, 0, 3, 0, []),
  (129, 131, 1, 4, 0, 0, []),
  (131, 134, 36, 18, 2, 1, []),
  (134, 135, 27, 0, 0, 0, []),
  (135, 138, 4, 0, 3, 0, []),
  (138, 140, 1, 5, 0, 0, []),
  (140, 143, 36, 18, 2, 1, []),
  (143, 144, 1, 3, 0, 0, []),
  (144, 145, 0, 0, 0, 1, []),
  (145, 146, 11, 0, 0, 0, []),
  (146, 149, 36, 63, 4, 3, []),
  (149, 152, 30, 156, 0, 0, []),
  (152, 153, 0, 0, 0, 1, []),
  (153, 156, 19, 157, 0, 0, []),
  (156, 157, 0, 0, 0, 0, []),
  (157, 158, 37, 0, 0, 0, []),
  (158, 159, 27, 0, 0, 0, []),
  (159, 160, 27, 0, 0, 0, []),
  (160, 163, 4, 0, 3, 0, []),
  (163, 165, 1, 4, 0, 0, []),
  (165, 168, 36, 17, 2, 1, []),
  (168, 169, 27, 0, 0, 0, []),
  (169, 172, 4, 0, 3, 0, []),
  (172, 174, 1, 5, 0, 0, []),
  (174, 177, 36, 17, 2, 1, []),
  (177, 178, 1, 3, 0, 0, []),
  (178, 179, 0, 0, 0, 1, []),
  (179, 180, 11, 0, 0, 0, []),
  (180, 183, 36, 63, 4, 3, []),
  (183, 184, 37, 0, 0, 0, []),
  (184, 185, 0, 0, 0, 0, []),
  (185, 186, 37, 0, 0, 0, [])]
/-- Ev.evaluateMain ()I -/
def zc_64 : List zm_q := [
  (0, 1, 27, 0, 0, 0, []),
  (1, 4, 4, 1, 4, 0, []),
  (4, 7, 36, 80, 1, 5, []),
  (7, 8, 27, 0, 0, 0, []),
  (8, 9, 0, 0, 0, 0, []),
  (9, 12, 5, 3, 4, 0, []),
  (12, 13, 27, 0, 0, 0, []),
  (13, 14, 0, 0, 0, 0, []),
  (14, 17, 5, 4, 4, 0, []),
  (17, 18, 27, 0, 0, 0, []),
  (18, 19, 0, 0, 0, 0, []),
  (19, 22, 5, 5, 4, 0, []),
  (22, 23, 27, 0, 0, 0, []),
  (23, 24, 0, 0, 0, 0, []),
  (24, 27, 5, 6, 4, 0, []),
  (27, 28, 27, 0, 0, 0, []),
  (28, 29, 27, 0, 0, 0, []),
  (29, 32, 4, 0, 4, 0, []),
  (32, 35, 36, 31, 1, 2, []),
  (35, 38, 36, 68, 2, 4, []),
  (38, 39, 2, 1, 0, 0, []),
  (39, 40, 1, 1, 0, 0, []),
  (40, 41, 0, 0, 0, (-1), []),
  (41, 44, 31, 46, 1, 0, []),
  (44, 45, 0, 0, 0, 1, []),
  (45, 46, 33, 0, 0, 0, []),
  (46, 47, 1, 1, 0, 0, []),
  (47, 49, 0, 0, 0, (-2), []),
  (49, 52, 31, 54, 1, 0, []),
  (52, 53, 0, 0, 0, 2, []),
  (53, 54, 33, 0, 0, 0, []),
  (54, 55, 27, 0, 0, 0, []),
  (55, 58, 4, 1, 4, 0, []),
  (58, 59, 1, 1, 0, 0, []),
  (59, 62, 36, 95, 2, 5, []),
  (62, 63, 0, 0, 0, 0, []),
  (63, 64, 33, 0, 0, 0, [])]
/-- Ev.stepsMade ()I -/
def zc_65 : List zm_q := [
  (0, 1, 27, 0, 0, 0, []),
  (1, 4, 4, 6, 4, 0, []),
  (4, 5, 33, 0, 0, 0, [])]
/-- Ev.shapeAt (I)I -/
def zc_66 : List zm_q := [
  (0, 1, 27, 0, 0, 0, []),
  (1, 4, 4, 1, 4, 0, []),
  (4, 5, 1, 1, 0, 0, []),
  (5, 8, 36, 97, 2, 5, []),
  (8, 9, 33, 0, 0, 0, [])]
/-- Ev.numberAt (I)I -/
def zc_67 : List zm_q := [
  (0, 1, 27, 0, 0, 0, []),
  (1, 4, 4, 1, 4, 0, []),
  (4, 5, 1, 1, 0, 0, []),
  (5, 8, 36, 98, 2, 5, []),
  (8, 9, 33, 0, 0, 0, [])]
/-- Ev.run (I)I -/
def zc_68 : List zm_q := [
  (0, 1, 27, 0, 0, 0, []),
  (1, 4, 4, 6, 4, 0, []),
  (4, 7, 0, 0, 0, 600, []),
  (7, 10, 31, 12, 2, 0, []),
  (10, 11, 0, 0, 0, (-1), []),
  (11, 12, 33, 0, 0, 0, []),
  (12, 13, 27, 0, 0, 0, []),
  (13, 14, 16, 0, 0, 0, []),
  (14, 17, 4, 6, 4, 0, []),
  (17, 18, 0, 0, 0, 1, []),
  (18, 19, 10, 0, 0, 0, []),
  (19, 22, 5, 6, 4, 0, []),
  (22, 23, 27, 0, 0, 0, []),
  (23, 26, 4, 0, 4, 0, []),
  (26, 27, 1, 1, 0, 0, []),
  (27, 30, 36, 32, 2, 2, []),
  (30, 31, 2, 2, 0, 0, []),
  (31, 32, 1, 2, 0, 0, []),
  (32, 120, 32, 220, 0, 0, [(0, 120), (1, 136), (2, 161), (3, 174), (4, 174), (5, 180), (6, 220), (7, 186), (8, 193), (9, 200), (10, 206), (11, 220), (12, 220), (13, 220), (14, 220), (15, 220), (16, 220), (17, 214)]),
  (120, 121, 27, 0, 0, 0, []),
  (121, 124, 4, 1, 4, 0, []),
  (124, 125, 27, 0, 0, 0, []),
  (125, 128, 4, 0, 4, 0, []),
  (128, 129, 1, 1, 0, 0, []),
  (129, 132, 36, 33, 2, 2, []),
  (132, 135, 36, 81, 2, 5, []),
  (135, 136, 33, 0, 0, 0, []),
  (136, 137, 27, 0, 0, 0, []),
  (137, 140, 4, 1, 4, 0, []),
  (140, 141, 27, 0, 0, 0, []),
  (141, 144, 4, 0, 4, 0, []),
  (144, 145, 1, 1, 0, 0, []),
  (145, 148, 36, 33, 2, 2, []),
  (148, 149, 0, 0, 0, 1, []),
  (149, 152, 31, 156, 1, 0, []),
  (152, 153, 0, 0, 0, 1, []),
  (153, 156, 19, 157, 0, 0, []),
  (156, 157, 0, 0, 0, 0, []),
  (157, 160, 36, 82, 2, 5, []),
  (160, 161, 33, 0, 0, 0, []),
  (161, 162, 27, 0, 0, 0, []),
  (162, 163, 27, 0, 0, 0, []),
  (163, 166, 4, 0, 4, 0, []),
  (166, 167, 1, 1, 0, 0, []),
  (167, 170, 36, 33, 2, 2, []),
  (170, 173, 36, 72, 2, 4, []),
  (173, 174, 33, 0, 0, 0, []),
  (174, 175, 27, 0, 0, 0, []),
  (175, 176, 1, 1, 0, 0, []),
  (176, 179, 36, 73, 2, 4, []),
  (179, 180, 33, 0, 0, 0, []),
  (180, 181, 27, 0, 0, 0, []),
  (181, 182, 1, 1, 0, 0, []),
  (182, 185, 36, 74, 2, 4, []),
  (185, 186, 33, 0, 0, 0, []),
  (186, 187, 27, 0, 0, 0, []),
  (187, 188, 1, 1, 0, 0, []),
  (188, 189, 0, 0, 0, 0, []),
  (189, 192, 36, 75, 3, 4, []),
  (192, 193, 33, 0, 0, 0, []),
  (193, 194, 27, 0, 0, 0, []),
  (194, 195, 1, 1, 0, 0, []),
  (195, 196, 0, 0, 0, 1, []),
  (196, 199, 36, 75, 3, 4, []),
  (199, 200, 33, 0, 0, 0, []),
  (200, 201, 27, 0, 0, 0, []),
  (201, 202, 1, 1, 0, 0, []),
  (202, 205, 36, 77, 2, 4, []),
  (205, 206, 33, 0, 0, 0, []),
  (206, 207, 27, 0, 0, 0, []),
  (207, 208, 1, 1, 0, 0, []),
  (208, 209, 0, 0, 0, 0, []),
  (209, 210, 0, 0, 0, 0, []),
  (210, 213, 36, 71, 4, 4, []),
  (213, 214, 33, 0, 0, 0, []),
  (214, 215, 27, 0, 0, 0, []),
  (215, 216, 1, 1, 0, 0, []),
  (216, 219, 36, 78, 2, 4, []),
  (219, 220, 33, 0, 0, 0, []),
  (220, 221, 1, 2, 0, 0, []),
  (221, 223, 0, 0, 0, 6, []),
  (223, 226, 31, 233, 0, 0, []),
  (226, 227, 1, 2, 0, 0, []),
  (227, 230, 35, 13, 1, 0, []),
  (230, 233, 30, 245, 0, 0, []),
  (233, 234, 27, 0, 0, 0, []),
  (234, 235, 1, 1, 0, 0, []),
  (235, 236, 1, 2, 0, 0, []),
  (236, 239, 35, 69, 1, 0, []),
  (239, 242, 36, 76, 3, 4, []),
  (242, 245, 19, 247, 0, 0, []),
  (245, 247, 0, 0, 0, (-2), []),
  (247, 248, 33, 0, 0, 0, [])]
/-- Ev.wantedBy (I)I -/
def zc_69 : List zm_q := [
  (0, 1, 1, 0, 0, 0, []),
  (1, 36, 32, 42, 0, 0, [(6, 36), (11, 38), (12, 40)]),
  (36, 37, 0, 0, 0, 0, []),
  (37, 38, 33, 0, 0, 0, []),
  (38, 39, 0, 0, 0, 1, []),
  (39, 40, 33, 0, 0, 0, []),
  (40, 41, 0, 0, 0, 2, []),
  (41, 42, 33, 0, 0, 0, []),
  (42, 43, 0, 0, 0, 4, []),
  (43, 44, 33, 0, 0, 0, [])]
/-- Ev.isWanted (II)Z -/
def zc_70 : List zm_q := [
  (0, 1, 1, 2, 0, 0, []),
  (1, 32, 32, 68, 0, 0, [(1, 32), (2, 41), (3, 50), (4, 59)]),
  (32, 33, 27, 0, 0, 0, []),
  (33, 36, 4, 1, 4, 0, []),
  (36, 37, 1, 1, 0, 0, []),
  (37, 40, 36, 85, 2, 5, []),
  (40, 41, 37, 0, 0, 0, []),
  (41, 42, 27, 0, 0, 0, []),
  (42, 45, 4, 1, 4, 0, []),
  (45, 46, 1, 1, 0, 0, []),
  (46, 49, 36, 86, 2, 5, []),
  (49, 50, 37, 0, 0, 0, []),
  (50, 51, 27, 0, 0, 0, []),
  (51, 54, 4, 1, 4, 0, []),
  (54, 55, 1, 1, 0, 0, []),
  (55, 58, 36, 88, 2, 5, []),
  (58, 59, 37, 0, 0, 0, []),
  (59, 60, 27, 0, 0, 0, []),
  (60, 63, 4, 1, 4, 0, []),
  (63, 64, 1, 1, 0, 0, []),
  (64, 67, 36, 89, 2, 5, []),
  (67, 68, 37, 0, 0, 0, []),
  (68, 69, 0, 0, 0, 1, []),
  (69, 70, 37, 0, 0, 0, [])]
/-- Ev.runPart (III)I -/
def zc_71 : List zm_q := [
  (0, 1, 27, 0, 0, 0, []),
  (1, 2, 27, 0, 0, 0, []),
  (2, 5, 4, 0, 4, 0, []),
  (5, 6, 1, 1, 0, 0, []),
  (6, 7, 1, 2, 0, 0, []),
  (7, 10, 36, 34, 3, 2, []),
  (10, 13, 36, 68, 2, 4, []),
  (13, 15, 2, 4, 0, 0, []),
  (15, 17, 1, 4, 0, 0, []),
  (17, 20, 30, 30, 2, 0, []),
  (20, 21, 27, 0, 0, 0, []),
  (21, 23, 1, 4, 0, 0, []),
  (23, 24, 1, 3, 0, 0, []),
  (24, 27, 36, 70, 3, 4, []),
  (27, 30, 30, 35, 0, 0, []),
  (30, 32, 1, 4, 0, 0, []),
  (32, 35, 19, 37, 0, 0, []),
  (35, 37, 0, 0, 0, (-2), []),
  (37, 38, 33, 0, 0, 0, [])]
/-- Ev.runVariable (I)I -/
def zc_72 : List zm_q := [
  (0, 1, 1, 1, 0, 0, []),
  (1, 4, 30, 31, 2, 0, []),
  (4, 5, 1, 1, 0, 0, []),
  (5, 6, 27, 0, 0, 0, []),
  (6, 9, 4, 4, 4, 0, []),
  (9, 10, 27, 0, 0, 0, []),
  (10, 13, 4, 3, 4, 0, []),
  (13, 14, 11, 0, 0, 0, []),
  (14, 17, 31, 31, 3, 0, []),
  (17, 18, 27, 0, 0, 0, []),
  (18, 21, 4, 2, 4, 0, []),
  (21, 22, 27, 0, 0, 0, []),
  (22, 25, 4, 3, 4, 0, []),
  (25, 26, 1, 1, 0, 0, []),
  (26, 27, 10, 0, 0, 0, []),
  (27, 28, 6, 0, 0, 0, []),
  (28, 31, 19, 33, 0, 0, []),
  (31, 33, 0, 0, 0, (-2), []),
  (33, 34, 33, 0, 0, 0, [])]
/-- Ev.runNumbers (I)I -/
def zc_73 : List zm_q := [
  (0, 1, 27, 0, 0, 0, []),
  (1, 2, 1, 1, 0, 0, []),
  (2, 3, 0, 0, 0, 0, []),
  (3, 4, 0, 0, 0, 1, []),
  (4, 7, 36, 71, 4, 4, []),
  (7, 8, 2, 2, 0, 0, []),
  (8, 9, 1, 2, 0, 0, []),
  (9, 12, 30, 14, 3, 0, []),
  (12, 13, 1, 2, 0, 0, []),
  (13, 14, 33, 0, 0, 0, []),
  (14, 15, 27, 0, 0, 0, []),
  (15, 16, 1, 1, 0, 0, []),
  (16, 17, 0, 0, 0, 1, []),
  (17, 18, 0, 0, 0, 1, []),
  (18, 21, 36, 71, 4, 4, []),
  (21, 22, 2, 3, 0, 0, []),
  (22, 23, 1, 3, 0, 0, []),
  (23, 26, 30, 28, 3, 0, []),
  (26, 27, 1, 3, 0, 0, []),
  (27, 28, 33, 0, 0, 0, []),
  (28, 29, 27, 0, 0, 0, []),
  (29, 32, 4, 1, 4, 0, []),
  (32, 33, 1, 2, 0, 0, []),
  (33, 36, 36, 91, 2, 5, []),
  (36, 38, 2, 4, 0, 0, []),
  (38, 39, 27, 0, 0, 0, []),
  (39, 42, 4, 1, 4, 0, []),
  (42, 43, 1, 3, 0, 0, []),
  (43, 46, 36, 91, 2, 5, []),
  (46, 48, 2, 5, 0, 0, []),
  (48, 49, 27, 0, 0, 0, []),
  (49, 52, 4, 0, 4, 0, []),
  (52, 53, 1, 1, 0, 0, []),
  (53, 56, 36, 32, 2, 2, []),
  (56, 57, 0, 0, 0, 3, []),
  (57, 60, 31, 75, 1, 0, []),
  (60, 61, 27, 0, 0, 0, []),
  (61, 64, 4, 1, 4, 0, []),
  (64, 66, 1, 4, 0, 0, []),
  (66, 68, 1, 5, 0, 0, []),
  (68, 69, 10, 0, 0, 0, []),
  (69, 72, 36, 81, 2, 5, []),
  (72, 75, 19, 94, 0, 0, []),
  (75, 76, 27, 0, 0, 0, []),
  (76, 79, 4, 1, 4, 0, []),
  (79, 81, 1, 4, 0, 0, []),
  (81, 83, 1, 5, 0, 0, []),
  (83, 86, 31, 90, 3, 0, []),
  (86, 87, 0, 0, 0, 1, []),
  (87, 90, 19, 91, 0, 0, []),
  (90, 91, 0, 0, 0, 0, []),
  (91, 94, 36, 82, 2, 5, []),
  (94, 95, 33, 0, 0, 0, [])]
/-- Ev.runIf (I)I -/
def zc_74 : List zm_q := [
  (0, 1, 27, 0, 0, 0, []),
  (1, 2, 1, 1, 0, 0, []),
  (2, 3, 0, 0, 0, 0, []),
  (3, 4, 0, 0, 0, 2, []),
  (4, 7, 36, 71, 4, 4, []),
  (7, 8, 2, 2, 0, 0, []),
  (8, 9, 1, 2, 0, 0, []),
  (9, 12, 30, 14, 3, 0, []),
  (12, 13, 1, 2, 0, 0, []),
  (13, 14, 33, 0, 0, 0, []),
  (14, 15, 27, 0, 0, 0, []),
  (15, 16, 1, 1, 0, 0, []),
  (16, 17, 27, 0, 0, 0, []),
  (17, 20, 4, 1, 4, 0, []),
  (20, 21, 1, 2, 0, 0, []),
  (21, 24, 36, 87, 2, 5, []),
  (24, 27, 30, 31, 0, 0, []),
  (27, 28, 0, 0, 0, 1, []),
  (28, 31, 19, 32, 0, 0, []),
  (31, 32, 0, 0, 0, 2, []),
  (32, 33, 0, 0, 0, 0, []),
  (33, 36, 36, 71, 4, 4, []),
  (36, 37, 33, 0, 0, 0, [])]
/-- Ev.runPartOfPair (II)I -/
def zc_75 : List zm_q := [
  (0, 1, 27, 0, 0, 0, []),
  (1, 2, 1, 1, 0, 0, []),
  (2, 3, 0, 0, 0, 0, []),
  (3, 4, 0, 0, 0, 3, []),
  (4, 7, 36, 71, 4, 4, []),
  (7, 8, 2, 3, 0, 0, []),
  (8, 9, 1, 3, 0, 0, []),
  (9, 12, 30, 16, 3, 0, []),
  (12, 13, 1, 3, 0, 0, []),
  (13, 16, 19, 25, 0, 0, []),
  (16, 17, 27, 0, 0, 0, []),
  (17, 20, 4, 1, 4, 0, []),
  (20, 21, 1, 3, 0, 0, []),
  (21, 22, 1, 2, 0, 0, []),
  (22, 25, 36, 93, 3, 5, []),
  (25, 26, 33, 0, 0, 0, [])]
/-- Ev.runParts (II)I -/
def zc_76 : List zm_q := [
  (0, 1, 27, 0, 0, 0, []),
  (1, 4, 4, 0, 4, 0, []),
  (4, 5, 1, 1, 0, 0, []),
  (5, 8, 36, 32, 2, 2, []),
  (8, 9, 2, 3, 0, 0, []),
  (9, 10, 1, 3, 0, 0, []),
  (10, 11, 0, 0, 0, 0, []),
  (11, 14, 35, 12, 2, 0, []),
  (14, 16, 2, 4, 0, 0, []),
  (16, 17, 27, 0, 0, 0, []),
  (17, 18, 1, 1, 0, 0, []),
  (18, 19, 0, 0, 0, 0, []),
  (19, 20, 1, 2, 0, 0, []),
  (20, 23, 36, 71, 4, 4, []),
  (23, 25, 2, 5, 0, 0, []),
  (25, 27, 1, 5, 0, 0, []),
  (27, 30, 30, 36, 2, 0, []),
  (30, 32, 1, 4, 0, 0, []),
  (32, 33, 0, 0, 0, 1, []),
  (33, 36, 31, 59, 1, 0, []),
  (36, 38, 1, 5, 0, 0, []),
  (38, 41, 30, 46, 3, 0, []),
  (41, 43, 1, 5, 0, 0, []),
  (43, 46, 19, 58, 0, 0, []),
  (46, 47, 27, 0, 0, 0, []),
  (47, 50, 4, 1, 4, 0, []),
  (50, 51, 1, 3, 0, 0, []),
  (51, 53, 1, 5, 0, 0, []),
  (53, 54, 0, 0, 0, (-1), []),
  (54, 55, 0, 0, 0, (-1), []),
  (55, 58, 36, 83, 5, 5, []),
  (58, 59, 33, 0, 0, 0, []),
  (59, 60, 27, 0, 0, 0, []),
  (60, 61, 1, 1, 0, 0, []),
  (61, 62, 0, 0, 0, 1, []),
  (62, 63, 1, 2, 0, 0, []),
  (63, 66, 36, 71, 4, 4, []),
  (66, 68, 2, 6, 0, 0, []),
  (68, 70, 1, 6, 0, 0, []),
  (70, 73, 30, 79, 2, 0, []),
  (73, 75, 1, 4, 0, 0, []),
  (75, 76, 0, 0, 0, 2, []),
  (76, 79, 31, 103, 1, 0, []),
  (79, 81, 1, 6, 0, 0, []),
  (81, 84, 30, 89, 3, 0, []),
  (84, 86, 1, 6, 0, 0, []),
  (86, 89, 19, 102, 0, 0, []),
  (89, 90, 27, 0, 0, 0, []),
  (90, 93, 4, 1, 4, 0, []),
  (93, 94, 1, 3, 0, 0, []),
  (94, 96, 1, 5, 0, 0, []),
  (96, 98, 1, 6, 0, 0, []),
  (98, 99, 0, 0, 0, (-1), []),
  (99, 102, 36, 83, 5, 5, []),
  (102, 103, 33, 0, 0, 0, []),
  (103, 104, 27, 0, 0, 0, []),
  (104, 105, 1, 1, 0, 0, []),
  (105, 106, 0, 0, 0, 2, []),
  (106, 107, 1, 2, 0, 0, []),
  (107, 110, 36, 71, 4, 4, []),
  (110, 112, 2, 7, 0, 0, []),
  (112, 114, 1, 7, 0, 0, []),
  (114, 117, 30, 122, 3, 0, []),
  (117, 119, 1, 7, 0, 0, []),
  (119, 122, 19, 136, 0, 0, []),
  (122, 123, 27, 0, 0, 0, []),
  (123, 126, 4, 1, 4, 0, []),
  (126, 127, 1, 3, 0, 0, []),
  (127, 129, 1, 5, 0, 0, []),
  (129, 131, 1, 6, 0, 0, []),
  (131, 133, 1, 7, 0, 0, []),
  (133, 136, 36, 83, 5, 5, []),
  (136, 137, 33, 0, 0, 0, [])]
/-- Ev.runCall (I)I -/
def zc_77 : List zm_q := [
  (0, 1, 27, 0, 0, 0, []),
  (1, 2, 1, 1, 0, 0, []),
  (2, 3, 0, 0, 0, 0, []),
  (3, 4, 0, 0, 0, 0, []),
  (4, 7, 36, 71, 4, 4, []),
  (7, 8, 2, 2, 0, 0, []),
  (8, 9, 1, 2, 0, 0, []),
  (9, 12, 30, 14, 3, 0, []),
  (12, 13, 1, 2, 0, 0, []),
  (13, 14, 33, 0, 0, 0, []),
  (14, 15, 27, 0, 0, 0, []),
  (15, 18, 4, 5, 4, 0, []),
  (18, 19, 0, 0, 0, 4, []),
  (19, 22, 31, 24, 2, 0, []),
  (22, 23, 0, 0, 0, (-1), []),
  (23, 24, 33, 0, 0, 0, []),
  (24, 25, 27, 0, 0, 0, []),
  (25, 28, 4, 3, 4, 0, []),
  (28, 29, 2, 3, 0, 0, []),
  (29, 30, 27, 0, 0, 0, []),
  (30, 33, 4, 4, 4, 0, []),
  (33, 35, 2, 4, 0, 0, []),
  (35, 36, 27, 0, 0, 0, []),
  (36, 37, 27, 0, 0, 0, []),
  (37, 40, 4, 4, 4, 0, []),
  (40, 43, 5, 3, 4, 0, []),
  (43, 44, 27, 0, 0, 0, []),
  (44, 45, 1, 2, 0, 0, []),
  (45, 48, 36, 79, 2, 4, []),
  (48, 49, 27, 0, 0, 0, []),
  (49, 50, 16, 0, 0, 0, []),
  (50, 53, 4, 5, 4, 0, []),
  (53, 54, 0, 0, 0, 1, []),
  (54, 55, 10, 0, 0, 0, []),
  (55, 58, 5, 5, 4, 0, []),
  (58, 59, 27, 0, 0, 0, []),
  (59, 60, 27, 0, 0, 0, []),
  (60, 63, 4, 0, 4, 0, []),
  (63, 66, 36, 30, 1, 2, []),
  (66, 69, 36, 68, 2, 4, []),
  (69, 71, 2, 5, 0, 0, []),
  (71, 72, 27, 0, 0, 0, []),
  (72, 73, 16, 0, 0, 0, []),
  (73, 76, 4, 5, 4, 0, []),
  (76, 77, 0, 0, 0, 1, []),
  (77, 78, 11, 0, 0, 0, []),
  (78, 81, 5, 5, 4, 0, []),
  (81, 82, 27, 0, 0, 0, []),
  (82, 83, 1, 3, 0, 0, []),
  (83, 86, 5, 3, 4, 0, []),
  (86, 87, 27, 0, 0, 0, []),
  (87, 89, 1, 4, 0, 0, []),
  (89, 92, 5, 4, 4, 0, []),
  (92, 94, 1, 5, 0, 0, []),
  (94, 95, 33, 0, 0, 0, [])]
/-- Ev.runCases (I)I -/
def zc_78 : List zm_q := [
  (0, 1, 27, 0, 0, 0, []),
  (1, 2, 1, 1, 0, 0, []),
  (2, 3, 0, 0, 0, 0, []),
  (3, 4, 0, 0, 0, 4, []),
  (4, 7, 36, 71, 4, 4, []),
  (7, 8, 2, 2, 0, 0, []),
  (8, 9, 1, 2, 0, 0, []),
  (9, 12, 30, 14, 3, 0, []),
  (12, 13, 1, 2, 0, 0, []),
  (13, 14, 33, 0, 0, 0, []),
  (14, 15, 27, 0, 0, 0, []),
  (15, 18, 4, 0, 4, 0, []),
  (18, 19, 1, 1, 0, 0, []),
  (19, 20, 27, 0, 0, 0, []),
  (20, 23, 4, 1, 4, 0, []),
  (23, 24, 1, 2, 0, 0, []),
  (24, 27, 36, 90, 2, 5, []),
  (27, 30, 36, 35, 3, 2, []),
  (30, 31, 2, 3, 0, 0, []),
  (31, 32, 1, 3, 0, 0, []),
  (32, 33, 0, 0, 0, (-1), []),
  (33, 36, 31, 39, 1, 0, []),
  (36, 38, 0, 0, 0, (-2), []),
  (38, 39, 33, 0, 0, 0, []),
  (39, 40, 27, 0, 0, 0, []),
  (40, 43, 4, 4, 4, 0, []),
  (43, 45, 2, 4, 0, 0, []),
  (45, 46, 0, 0, 0, 0, []),
  (46, 48, 2, 5, 0, 0, []),
  (48, 50, 1, 5, 0, 0, []),
  (50, 51, 27, 0, 0, 0, []),
  (51, 54, 4, 1, 4, 0, []),
  (54, 55, 1, 2, 0, 0, []),
  (55, 58, 36, 92, 2, 5, []),
  (58, 61, 31, 81, 3, 0, []),
  (61, 62, 27, 0, 0, 0, []),
  (62, 63, 27, 0, 0, 0, []),
  (63, 66, 4, 1, 4, 0, []),
  (66, 67, 1, 2, 0, 0, []),
  (67, 69, 1, 5, 0, 0, []),
  (69, 72, 36, 93, 3, 5, []),
  (72, 75, 36, 79, 2, 4, []),
  (75, 78, 3, 5, 0, 1, []),
  (78, 81, 19, 48, 0, 0, []),
  (81, 82, 27, 0, 0, 0, []),
  (82, 83, 1, 3, 0, 0, []),
  (83, 86, 36, 68, 2, 4, []),
  (86, 88, 2, 5, 0, 0, []),
  (88, 89, 27, 0, 0, 0, []),
  (89, 91, 1, 4, 0, 0, []),
  (91, 94, 5, 4, 4, 0, []),
  (94, 96, 1, 5, 0, 0, []),
  (96, 97, 33, 0, 0, 0, [])]
/-- Ev.addVariable (I)V -/
def zc_79 : List zm_q := [
  (0, 1, 27, 0, 0, 0, []),
  (1, 4, 4, 4, 4, 0, []),
  (4, 6, 0, 0, 0, 79, []),
  (6, 9, 31, 29, 3, 0, []),
  (9, 10, 27, 0, 0, 0, []),
  (10, 13, 4, 2, 4, 0, []),
  (13, 14, 27, 0, 0, 0, []),
  (14, 17, 4, 4, 4, 0, []),
  (17, 18, 1, 1, 0, 0, []),
  (18, 19, 7, 0, 0, 0, []),
  (19, 20, 27, 0, 0, 0, []),
  (20, 21, 16, 0, 0, 0, []),
  (21, 24, 4, 4, 4, 0, []),
  (24, 25, 0, 0, 0, 1, []),
  (25, 26, 10, 0, 0, 0, []),
  (26, 29, 5, 4, 4, 0, []),
  (29, 30, 34, 0, 0, 0, [])]
/-- Va.clear ()V -/
def zc_80 : List zm_q := [
  (0, 1, 27, 0, 0, 0, []),
  (1, 2, 0, 0, 0, 0, []),
  (2, 5, 5, 6, 5, 0, []),
  (5, 6, 27, 0, 0, 0, []),
  (6, 7, 0, 0, 0, 0, []),
  (7, 10, 5, 7, 5, 0, []),
  (10, 11, 34, 0, 0, 0, [])]
/-- Va.ofNumber (I)I -/
def zc_81 : List zm_q := [
  (0, 1, 27, 0, 0, 0, []),
  (1, 4, 0, 0, 0, 1000, []),
  (4, 5, 1, 1, 0, 0, []),
  (5, 6, 0, 0, 0, (-1), []),
  (6, 7, 0, 0, 0, (-1), []),
  (7, 10, 36, 84, 5, 5, []),
  (10, 11, 33, 0, 0, 0, [])]
/-- Va.ofTruth (Z)I -/
def zc_82 : List zm_q := [
  (0, 1, 27, 0, 0, 0, []),
  (1, 2, 1, 1, 0, 0, []),
  (2, 5, 30, 11, 0, 0, []),
  (5, 8, 0, 0, 0, 1001, []),
  (8, 11, 19, 14, 0, 0, []),
  (11, 14, 0, 0, 0, 1002, []),
  (14, 15, 0, 0, 0, (-1), []),
  (15, 16, 0, 0, 0, (-1), []),
  (16, 17, 0, 0, 0, (-1), []),
  (17, 20, 36, 84, 5, 5, []),
  (20, 21, 33, 0, 0, 0, [])]
/-- Va.ofParts (IIII)I -/
def zc_83 : List zm_q := [
  (0, 1, 27, 0, 0, 0, []),
  (1, 2, 1, 1, 0, 0, []),
  (2, 4, 0, 0, 0, 6, []),
  (4, 7, 31, 13, 1, 0, []),
  (7, 10, 0, 0, 0, 1003, []),
  (10, 13, 19, 18, 0, 0, []),
  (13, 16, 0, 0, 0, 1000, []),
  (16, 17, 1, 1, 0, 0, []),
  (17, 18, 10, 0, 0, 0, []),
  (18, 19, 1, 2, 0, 0, []),
  (19, 20, 1, 3, 0, 0, []),
  (20, 22, 1, 4, 0, 0, []),
  (22, 25, 36, 84, 5, 5, []),
  (25, 26, 33, 0, 0, 0, [])]
/-- Va.put (IIII)I -/
def zc_84 : List zm_q := [
  (0, 1, 27, 0, 0, 0, []),
  (1, 4, 4, 6, 5, 0, []),
  (4, 7, 0, 0, 0, 600, []),
  (7, 10, 31, 12, 2, 0, []),
  (10, 11, 0, 0, 0, (-1), []),
  (11, 12, 33, 0, 0, 0, []),
  (12, 13, 27, 0, 0, 0, []),
  (13, 16, 4, 0, 5, 0, []),
  (16, 17, 27, 0, 0, 0, []),
  (17, 20, 4, 6, 5, 0, []),
  (20, 21, 1, 1, 0, 0, []),
  (21, 22, 7, 0, 0, 0, []),
  (22, 23, 27, 0, 0, 0, []),
  (23, 26, 4, 1, 5, 0, []),
  (26, 27, 27, 0, 0, 0, []),
  (27, 30, 4, 6, 5, 0, []),
  (30, 31, 1, 2, 0, 0, []),
  (31, 32, 7, 0, 0, 0, []),
  (32, 33, 27, 0, 0, 0, []),
  (33, 36, 4, 2, 5, 0, []),
  (36, 37, 27, 0, 0, 0, []),
  (37, 40, 4, 6, 5, 0, []),
  (40, 41, 1, 3, 0, 0, []),
  (41, 42, 7, 0, 0, 0, []),
  (42, 43, 27, 0, 0, 0, []),
  (43, 46, 4, 3, 5, 0, []),
  (46, 47, 27, 0, 0, 0, []),
  (47, 50, 4, 6, 5, 0, []),
  (50, 52, 1, 4, 0, 0, []),
  (52, 53, 7, 0, 0, 0, []),
  (53, 54, 27, 0, 0, 0, []),
  (54, 55, 16, 0, 0, 0, []),
  (55, 58, 4, 6, 5, 0, []),
  (58, 59, 0, 0, 0, 1, []),
  (59, 60, 10, 0, 0, 0, []),
  (60, 63, 5, 6, 5, 0, []),
  (63, 64, 27, 0, 0, 0, []),
  (64, 67, 4, 6, 5, 0, []),
  (67, 68, 0, 0, 0, 1, []),
  (68, 69, 11, 0, 0, 0, []),
  (69, 70, 33, 0, 0, 0, [])]
/-- Va.isNumber (I)Z -/
def zc_85 : List zm_q := [
  (0, 1, 27, 0, 0, 0, []),
  (1, 2, 1, 1, 0, 0, []),
  (2, 5, 36, 94, 2, 5, []),
  (5, 8, 0, 0, 0, 1000, []),
  (8, 11, 31, 15, 1, 0, []),
  (11, 12, 0, 0, 0, 1, []),
  (12, 15, 19, 16, 0, 0, []),
  (15, 16, 0, 0, 0, 0, []),
  (16, 17, 37, 0, 0, 0, [])]
/-- Va.isTruth (I)Z -/
def zc_86 : List zm_q := [
  (0, 1, 27, 0, 0, 0, []),
  (1, 2, 1, 1, 0, 0, []),
  (2, 5, 36, 94, 2, 5, []),
  (5, 8, 0, 0, 0, 1001, []),
  (8, 11, 31, 22, 0, 0, []),
  (11, 12, 27, 0, 0, 0, []),
  (12, 13, 1, 1, 0, 0, []),
  (13, 16, 36, 94, 2, 5, []),
  (16, 19, 0, 0, 0, 1002, []),
  (19, 22, 31, 26, 1, 0, []),
  (22, 23, 0, 0, 0, 1, []),
  (23, 26, 19, 27, 0, 0, []),
  (26, 27, 0, 0, 0, 0, []),
  (27, 28, 37, 0, 0, 0, [])]
/-- Va.isTrue (I)Z -/
def zc_87 : List zm_q := [
  (0, 1, 27, 0, 0, 0, []),
  (1, 2, 1, 1, 0, 0, []),
  (2, 5, 36, 94, 2, 5, []),
  (5, 8, 0, 0, 0, 1001, []),
  (8, 11, 31, 15, 1, 0, []),
  (11, 12, 0, 0, 0, 1, []),
  (12, 15, 19, 16, 0, 0, []),
  (15, 16, 0, 0, 0, 0, []),
  (16, 17, 37, 0, 0, 0, [])]
/-- Va.isPair (I)Z -/
def zc_88 : List zm_q := [
  (0, 1, 27, 0, 0, 0, []),
  (1, 2, 1, 1, 0, 0, []),
  (2, 5, 36, 94, 2, 5, []),
  (5, 8, 0, 0, 0, 1003, []),
  (8, 11, 31, 15, 1, 0, []),
  (11, 12, 0, 0, 0, 1, []),
  (12, 15, 19, 16, 0, 0, []),
  (15, 16, 0, 0, 0, 0, []),
  (16, 17, 37, 0, 0, 0, [])]
/-- Va.isMade (I)Z -/
def zc_89 : List zm_q := [
  (0, 1, 27, 0, 0, 0, []),
  (1, 2, 1, 1, 0, 0, []),
  (2, 5, 36, 94, 2, 5, []),
  (5, 8, 0, 0, 0, 1000, []),
  (8, 9, 11, 0, 0, 0, []),
  (9, 12, 35, 13, 1, 0, []),
  (12, 13, 37, 0, 0, 0, [])]
/-- Va.makerOf (I)I -/
def zc_90 : List zm_q := [
  (0, 1, 27, 0, 0, 0, []),
  (1, 2, 1, 1, 0, 0, []),
  (2, 5, 36, 94, 2, 5, []),
  (5, 8, 0, 0, 0, 1000, []),
  (8, 9, 11, 0, 0, 0, []),
  (9, 10, 33, 0, 0, 0, [])]
/-- Va.numberOf (I)I -/
def zc_91 : List zm_q := [
  (0, 1, 27, 0, 0, 0, []),
  (1, 2, 1, 1, 0, 0, []),
  (2, 5, 36, 85, 2, 5, []),
  (5, 8, 30, 17, 0, 0, []),
  (8, 9, 27, 0, 0, 0, []),
  (9, 12, 4, 1, 5, 0, []),
  (12, 13, 1, 1, 0, 0, []),
  (13, 14, 6, 0, 0, 0, []),
  (14, 17, 19, 18, 0, 0, []),
  (17, 18, 0, 0, 0, 0, []),
  (18, 19, 33, 0, 0, 0, [])]
/-- Va.partCount (I)I -/
def zc_92 : List zm_q := [
  (0, 1, 27, 0, 0, 0, []),
  (1, 2, 1, 1, 0, 0, []),
  (2, 5, 36, 88, 2, 5, []),
  (5, 8, 30, 10, 0, 0, []),
  (8, 9, 0, 0, 0, 2, []),
  (9, 10, 33, 0, 0, 0, []),
  (10, 11, 27, 0, 0, 0, []),
  (11, 12, 1, 1, 0, 0, []),
  (12, 15, 36, 89, 2, 5, []),
  (15, 18, 30, 30, 0, 0, []),
  (18, 21, 21, 0, 0, 0, []),
  (21, 22, 27, 0, 0, 0, []),
  (22, 23, 1, 1, 0, 0, []),
  (23, 26, 36, 90, 2, 5, []),
  (26, 27, 20, 0, 0, 0, []),
  (27, 30, 19, 31, 0, 0, []),
  (30, 31, 0, 0, 0, 0, []),
  (31, 32, 33, 0, 0, 0, [])]
/-- Va.part (II)I -/
def zc_93 : List zm_q := [
  (0, 1, 1, 2, 0, 0, []),
  (1, 2, 27, 0, 0, 0, []),
  (2, 3, 1, 1, 0, 0, []),
  (3, 6, 36, 92, 2, 5, []),
  (6, 9, 31, 11, 2, 0, []),
  (9, 10, 0, 0, 0, (-1), []),
  (10, 11, 33, 0, 0, 0, []),
  (11, 12, 1, 2, 0, 0, []),
  (12, 15, 30, 24, 1, 0, []),
  (15, 16, 27, 0, 0, 0, []),
  (16, 19, 4, 1, 5, 0, []),
  (19, 20, 1, 1, 0, 0, []),
  (20, 21, 6, 0, 0, 0, []),
  (21, 24, 19, 44, 0, 0, []),
  (24, 25, 1, 2, 0, 0, []),
  (25, 26, 0, 0, 0, 1, []),
  (26, 29, 31, 38, 1, 0, []),
  (29, 30, 27, 0, 0, 0, []),
  (30, 33, 4, 2, 5, 0, []),
  (33, 34, 1, 1, 0, 0, []),
  (34, 35, 6, 0, 0, 0, []),
  (35, 38, 19, 44, 0, 0, []),
  (38, 39, 27, 0, 0, 0, []),
  (39, 42, 4, 3, 5, 0, []),
  (42, 43, 1, 1, 0, 0, []),
  (43, 44, 6, 0, 0, 0, []),
  (44, 45, 33, 0, 0, 0, [])]
/-- Va.shapeOf (I)I -/
def zc_94 : List zm_q := [
  (0, 1, 1, 1, 0, 0, []),
  (1, 4, 30, 21, 2, 0, []),
  (4, 5, 1, 1, 0, 0, []),
  (5, 6, 27, 0, 0, 0, []),
  (6, 9, 4, 6, 5, 0, []),
  (9, 12, 31, 21, 3, 0, []),
  (12, 13, 27, 0, 0, 0, []),
  (13, 16, 4, 0, 5, 0, []),
  (16, 17, 1, 1, 0, 0, []),
  (17, 18, 6, 0, 0, 0, []),
  (18, 21, 19, 22, 0, 0, []),
  (21, 22, 0, 0, 0, (-1), []),
  (22, 23, 33, 0, 0, 0, [])]
/-- Va.write (I)V -/
def zc_95 : List zm_q := [
  (0, 1, 27, 0, 0, 0, []),
  (1, 2, 0, 0, 0, 0, []),
  (2, 5, 5, 7, 5, 0, []),
  (5, 6, 27, 0, 0, 0, []),
  (6, 7, 0, 0, 0, 0, []),
  (7, 10, 5, 8, 5, 0, []),
  (10, 11, 27, 0, 0, 0, []),
  (11, 12, 1, 1, 0, 0, []),
  (12, 15, 36, 96, 2, 5, []),
  (15, 16, 27, 0, 0, 0, []),
  (16, 19, 4, 8, 5, 0, []),
  (19, 22, 30, 103, 5, 0, []),
  (22, 23, 27, 0, 0, 0, []),
  (23, 26, 4, 7, 5, 0, []),
  (26, 29, 0, 0, 0, 200, []),
  (29, 32, 31, 103, 3, 0, []),
  (32, 33, 27, 0, 0, 0, []),
  (33, 34, 16, 0, 0, 0, []),
  (34, 37, 4, 8, 5, 0, []),
  (37, 38, 0, 0, 0, 1, []),
  (38, 39, 11, 0, 0, 0, []),
  (39, 42, 5, 8, 5, 0, []),
  (42, 43, 27, 0, 0, 0, []),
  (43, 46, 4, 5, 5, 0, []),
  (46, 47, 27, 0, 0, 0, []),
  (47, 50, 4, 8, 5, 0, []),
  (50, 51, 6, 0, 0, 0, []),
  (51, 52, 2, 2, 0, 0, []),
  (52, 53, 27, 0, 0, 0, []),
  (53, 56, 4, 4, 5, 0, []),
  (56, 57, 27, 0, 0, 0, []),
  (57, 60, 4, 7, 5, 0, []),
  (60, 61, 1, 2, 0, 0, []),
  (61, 62, 7, 0, 0, 0, []),
  (62, 63, 27, 0, 0, 0, []),
  (63, 64, 16, 0, 0, 0, []),
  (64, 67, 4, 7, 5, 0, []),
  (67, 68, 0, 0, 0, 1, []),
  (68, 69, 10, 0, 0, 0, []),
  (69, 72, 5, 7, 5, 0, []),
  (72, 73, 27, 0, 0, 0, []),
  (73, 74, 1, 2, 0, 0, []),
  (74, 77, 36, 92, 2, 5, []),
  (77, 78, 0, 0, 0, 1, []),
  (78, 79, 11, 0, 0, 0, []),
  (79, 80, 2, 3, 0, 0, []),
  (80, 81, 1, 3, 0, 0, []),
  (81, 84, 30, 100, 2, 0, []),
  (84, 85, 27, 0, 0, 0, []),
  (85, 86, 27, 0, 0, 0, []),
  (86, 87, 1, 2, 0, 0, []),
  (87, 88, 1, 3, 0, 0, []),
  (88, 91, 36, 93, 3, 5, []),
  (91, 94, 36, 96, 2, 5, []),
  (94, 97, 3, 3, 0, (-1), []),
  (97, 100, 19, 80, 0, 0, []),
  (100, 103, 19, 15, 0, 0, []),
  (103, 104, 34, 0, 0, 0, [])]
/-- Va.await (I)V -/
def zc_96 : List zm_q := [
  (0, 1, 27, 0, 0, 0, []),
  (1, 4, 4, 8, 5, 0, []),
  (4, 7, 0, 0, 0, 401, []),
  (7, 10, 31, 30, 3, 0, []),
  (10, 11, 27, 0, 0, 0, []),
  (11, 14, 4, 5, 5, 0, []),
  (14, 15, 27, 0, 0, 0, []),
  (15, 18, 4, 8, 5, 0, []),
  (18, 19, 1, 1, 0, 0, []),
  (19, 20, 7, 0, 0, 0, []),
  (20, 21, 27, 0, 0, 0, []),
  (21, 22, 16, 0, 0, 0, []),
  (22, 25, 4, 8, 5, 0, []),
  (25, 26, 0, 0, 0, 1, []),
  (26, 27, 10, 0, 0, 0, []),
  (27, 30, 5, 8, 5, 0, []),
  (30, 31, 34, 0, 0, 0, [])]
/-- Va.shapeAt (I)I -/
def zc_97 : List zm_q := [
  (0, 1, 1, 1, 0, 0, []),
  (1, 4, 30, 25, 2, 0, []),
  (4, 5, 1, 1, 0, 0, []),
  (5, 6, 27, 0, 0, 0, []),
  (6, 9, 4, 7, 5, 0, []),
  (9, 12, 31, 25, 3, 0, []),
  (12, 13, 27, 0, 0, 0, []),
  (13, 14, 27, 0, 0, 0, []),
  (14, 17, 4, 4, 5, 0, []),
  (17, 18, 1, 1, 0, 0, []),
  (18, 19, 6, 0, 0, 0, []),
  (19, 22, 36, 94, 2, 5, []),
  (22, 25, 19, 26, 0, 0, []),
  (25, 26, 0, 0, 0, (-1), []),
  (26, 27, 33, 0, 0, 0, [])]
/-- Va.numberAt (I)I -/
def zc_98 : List zm_q := [
  (0, 1, 1, 1, 0, 0, []),
  (1, 4, 30, 25, 2, 0, []),
  (4, 5, 1, 1, 0, 0, []),
  (5, 6, 27, 0, 0, 0, []),
  (6, 9, 4, 7, 5, 0, []),
  (9, 12, 31, 25, 3, 0, []),
  (12, 13, 27, 0, 0, 0, []),
  (13, 14, 27, 0, 0, 0, []),
  (14, 17, 4, 4, 5, 0, []),
  (17, 18, 1, 1, 0, 0, []),
  (18, 19, 6, 0, 0, 0, []),
  (19, 22, 36, 91, 2, 5, []),
  (22, 25, 19, 26, 0, 0, []),
  (25, 26, 0, 0, 0, 0, []),
  (26, 27, 33, 0, 0, 0, [])]
/-- Mo.define (IIII)I -/
def zc_99 : List zm_q := [
  (0, 1, 27, 0, 0, 0, []),
  (1, 4, 4, 2, 6, 0, []),
  (4, 5, 27, 0, 0, 0, []),
  (5, 8, 4, 1, 6, 0, []),
  (8, 9, 1, 1, 0, 0, []),
  (9, 10, 7, 0, 0, 0, []),
  (10, 11, 27, 0, 0, 0, []),
  (11, 14, 4, 3, 6, 0, []),
  (14, 15, 27, 0, 0, 0, []),
  (15, 18, 4, 1, 6, 0, []),
  (18, 19, 1, 2, 0, 0, []),
  (19, 20, 7, 0, 0, 0, []),
  (20, 21, 27, 0, 0, 0, []),
  (21, 24, 4, 4, 6, 0, []),
  (24, 25, 27, 0, 0, 0, []),
  (25, 28, 4, 1, 6, 0, []),
  (28, 29, 1, 3, 0, 0, []),
  (29, 30, 7, 0, 0, 0, []),
  (30, 31, 27, 0, 0, 0, []),
  (31, 34, 4, 5, 6, 0, []),
  (34, 35, 27, 0, 0, 0, []),
  (35, 38, 4, 1, 6, 0, []),
  (38, 40, 1, 4, 0, 0, []),
  (40, 41, 7, 0, 0, 0, []),
  (41, 42, 27, 0, 0, 0, []),
  (42, 43, 16, 0, 0, 0, []),
  (43, 46, 4, 1, 6, 0, []),
  (46, 47, 0, 0, 0, 1, []),
  (47, 48, 10, 0, 0, 0, []),
  (48, 51, 5, 1, 6, 0, []),
  (51, 52, 27, 0, 0, 0, []),
  (52, 55, 4, 1, 6, 0, []),
  (55, 56, 0, 0, 0, 1, []),
  (56, 57, 11, 0, 0, 0, []),
  (57, 58, 33, 0, 0, 0, [])]
/-- Mo.seek (III)I -/
def zc_100 : List zm_q := [
  (0, 1, 0, 0, 0, (-1), []),
  (1, 3, 2, 4, 0, 0, []),
  (3, 4, 0, 0, 0, 0, []),
  (4, 6, 2, 5, 0, 0, []),
  (6, 8, 1, 5, 0, 0, []),
  (8, 9, 27, 0, 0, 0, []),
  (9, 12, 4, 1, 6, 0, []),
  (12, 15, 31, 68, 3, 0, []),
  (15, 17, 1, 4, 0, 0, []),
  (17, 20, 30, 68, 3, 0, []),
  (20, 21, 27, 0, 0, 0, []),
  (21, 24, 4, 2, 6, 0, []),
  (24, 26, 1, 5, 0, 0, []),
  (26, 27, 6, 0, 0, 0, []),
  (27, 28, 1, 1, 0, 0, []),
  (28, 31, 31, 58, 1, 0, []),
  (31, 32, 27, 0, 0, 0, []),
  (32, 35, 4, 3, 6, 0, []),
  (35, 37, 1, 5, 0, 0, []),
  (37, 38, 6, 0, 0, 0, []),
  (38, 39, 1, 2, 0, 0, []),
  (39, 42, 31, 58, 1, 0, []),
  (42, 43, 27, 0, 0, 0, []),
  (43, 46, 4, 4, 6, 0, []),
  (46, 48, 1, 5, 0, 0, []),
  (48, 49, 6, 0, 0, 0, []),
  (49, 50, 1, 3, 0, 0, []),
  (50, 53, 31, 58, 1, 0, []),
  (53, 55, 1, 5, 0, 0, []),
  (55, 58, 19, 60, 0, 0, []),
  (58, 60, 1, 4, 0, 0, []),
  (60, 62, 2, 4, 0, 0, []),
  (62, 65, 3, 5, 0, 1, []),
  (65, 68, 19, 6, 0, 0, []),
  (68, 70, 1, 4, 0, 0, []),
  (70, 71, 33, 0, 0, 0, [])]
/-- Mo.typeOf (III)I -/
def zc_101 : List zm_q := [
  (0, 1, 27, 0, 0, 0, []),
  (1, 2, 1, 1, 0, 0, []),
  (2, 3, 1, 2, 0, 0, []),
  (3, 4, 1, 3, 0, 0, []),
  (4, 7, 36, 100, 4, 6, []),
  (7, 9, 2, 4, 0, 0, []),
  (9, 11, 1, 4, 0, 0, []),
  (11, 14, 30, 24, 3, 0, []),
  (14, 15, 27, 0, 0, 0, []),
  (15, 18, 4, 1, 6, 0, []),
  (18, 21, 0, 0, 0, 600, []),
  (21, 24, 31, 29, 1, 0, []),
  (24, 26, 1, 4, 0, 0, []),
  (26, 29, 19, 37, 0, 0, []),
  (29, 30, 27, 0, 0, 0, []),
  (30, 31, 1, 1, 0, 0, []),
  (31, 32, 1, 2, 0, 0, []),
  (32, 33, 1, 3, 0, 0, []),
  (33, 34, 0, 0, 0, 0, []),
  (34, 37, 36, 99, 5, 6, []),
  (37, 38, 33, 0, 0, 0, [])]
/-- Mo.exp (I)I -/
def zc_102 : List zm_q := [
  (0, 1, 27, 0, 0, 0, []),
  (1, 2, 0, 0, 0, 3, []),
  (2, 3, 1, 1, 0, 0, []),
  (3, 4, 0, 0, 0, 0, []),
  (4, 7, 36, 101, 4, 6, []),
  (7, 8, 33, 0, 0, 0, [])]
/-- Mo.isType (I)Z -/
def zc_103 : List zm_q := [
  (0, 1, 1, 1, 0, 0, []),
  (1, 4, 30, 16, 2, 0, []),
  (4, 5, 1, 1, 0, 0, []),
  (5, 6, 27, 0, 0, 0, []),
  (6, 9, 4, 0, 6, 0, []),
  (9, 12, 31, 16, 3, 0, []),
  (12, 13, 0, 0, 0, 1, []),
  (13, 16, 19, 17, 0, 0, []),
  (16, 17, 0, 0, 0, 0, []),
  (17, 18, 37, 0, 0, 0, [])]
/-- Mo.type (III)I -/
def zc_104 : List zm_q := [
  (0, 1, 1, 1, 0, 0, []),
  (1, 4, 30, 28, 1, 0, []),
  (4, 5, 27, 0, 0, 0, []),
  (5, 6, 1, 2, 0, 0, []),
  (6, 9, 36, 103, 2, 6, []),
  (9, 12, 30, 24, 0, 0, []),
  (12, 13, 27, 0, 0, 0, []),
  (13, 14, 1, 3, 0, 0, []),
  (14, 17, 36, 103, 2, 6, []),
  (17, 20, 30, 24, 0, 0, []),
  (20, 21, 0, 0, 0, 1, []),
  (21, 24, 19, 60, 0, 0, []),
  (24, 25, 0, 0, 0, 0, []),
  (25, 28, 19, 60, 0, 0, []),
  (28, 29, 1, 1, 0, 0, []),
  (29, 30, 0, 0, 0, 1, []),
  (30, 33, 31, 41, 1, 0, []),
  (33, 34, 27, 0, 0, 0, []),
  (34, 35, 1, 2, 0, 0, []),
  (35, 38, 36, 103, 2, 6, []),
  (38, 41, 19, 60, 0, 0, []),
  (41, 42, 1, 1, 0, 0, []),
  (42, 43, 0, 0, 0, 2, []),
  (43, 46, 31, 59, 1, 0, []),
  (46, 47, 1, 2, 0, 0, []),
  (47, 50, 30, 59, 2, 0, []),
  (50, 51, 1, 2, 0, 0, []),
  (51, 52, 0, 0, 0, 2, []),
  (52, 55, 31, 59, 4, 0, []),
  (55, 56, 0, 0, 0, 1, []),
  (56, 59, 19, 60, 0, 0, []),
  (59, 60, 0, 0, 0, 0, []),
  (60, 62, 2, 4, 0, 0, []),
  (62, 64, 1, 4, 0, 0, []),
  (64, 67, 30, 69, 1, 0, []),
  (67, 68, 0, 0, 0, (-1), []),
  (68, 69, 33, 0, 0, 0, []),
  (69, 70, 27, 0, 0, 0, []),
  (70, 71, 27, 0, 0, 0, []),
  (71, 74, 4, 0, 6, 0, []),
  (74, 77, 5, 1, 6, 0, []),
  (77, 78, 1, 1, 0, 0, []),
  (78, 81, 30, 85, 1, 0, []),
  (81, 82, 0, 0, 0, 2, []),
  (82, 85, 19, 95, 0, 0, []),
  (85, 86, 1, 1, 0, 0, []),
  (86, 87, 0, 0, 0, 1, []),
  (87, 90, 31, 94, 1, 0, []),
  (90, 91, 0, 0, 0, 3, []),
  (91, 94, 19, 95, 0, 0, []),
  (94, 95, 0, 0, 0, 4, []),
  (95, 97, 2, 5, 0, 0, []),
  (97, 98, 1, 1, 0, 0, []),
  (98, 101, 30, 105, 1, 0, []),
  (101, 102, 1, 3, 0, 0, []),
  (102, 105, 19, 106, 0, 0, []),
  (105, 106, 0, 0, 0, 0, []),
  (106, 108, 2, 6, 0, 0, []),
  (108, 109, 27, 0, 0, 0, []),
  (109, 111, 1, 5, 0, 0, []),
  (111, 112, 1, 2, 0, 0, []),
  (112, 114, 1, 6, 0, 0, []),
  (114, 117, 36, 100, 4, 6, []),
  (117, 119, 2, 7, 0, 0, []),
  (119, 121, 1, 7, 0, 0, []),
  (121, 124, 30, 127, 2, 0, []),
  (124, 126, 1, 7, 0, 0, []),
  (126, 127, 33, 0, 0, 0, []),
  (127, 128, 1, 1, 0, 0, []),
  (128, 129, 0, 0, 0, 2, []),
  (129, 132, 31, 136, 1, 0, []),
  (132, 133, 0, 0, 0, 1, []),
  (133, 136, 19, 172, 0, 0, []),
  (136, 137, 0, 0, 0, 1, []),
  (137, 138, 1, 1, 0, 0, []),
  (138, 141, 30, 165, 1, 0, []),
  (141, 142, 27, 0, 0, 0, []),
  (142, 145, 4, 5, 6, 0, []),
  (145, 146, 1, 3, 0, 0, []),
  (146, 147, 6, 0, 0, 0, []),
  (147, 148, 27, 0, 0, 0, []),
  (148, 151, 4, 5, 6, 0, []),
  (151, 152, 1, 2, 0, 0, []),
  (152, 153, 6, 0, 0, 0, []),
  (153, 156, 31, 165, 5, 0, []),
  (156, 157, 27, 0, 0, 0, []),
  (157, 160, 4, 5, 6, 0, []),
  (160, 161, 1, 3, 0, 0, []),
  (161, 162, 6, 0, 0, 0, []),
  (162, 165, 19, 171, 0, 0, []),
  (165, 166, 27, 0, 0, 0, []),
  (166, 169, 4, 5, 6, 0, []),
  (169, 170, 1, 2, 0, 0, []),
  (170, 171, 6, 0, 0, 0, []),
  (171, 172, 10, 0, 0, 0, []),
  (172, 174, 2, 8, 0, 0, []),
  (174, 175, 27, 0, 0, 0, []),
  (175, 178, 4, 0, 6, 0, []),
  (178, 180, 0, 0, 0, 24, []),
  (180, 183, 31, 189, 0, 0, []),
  (183, 185, 1, 8, 0, 0, []),
  (185, 186, 0, 0, 0, 4, []),
  (186, 189, 31, 192, 5, 0, []),
  (189, 191, 0, 0, 0, (-2), []),
  (191, 192, 33, 0, 0, 0, []),
  (192, 193, 27, 0, 0, 0, []),
  (193, 195, 1, 5, 0, 0, []),
  (195, 196, 1, 2, 0, 0, []),
  (196, 198, 1, 6, 0, 0, []),
  (198, 200, 1, 8, 0, 0, []),
  (200, 203, 36, 99, 5, 6, []),
  (203, 205, 2, 7, 0, 0, []),
  (205, 206, 27, 0, 0, 0, []),
  (206, 207, 27, 0, 0, 0, []),
  (207, 210, 4, 1, 6, 0, []),
  (210, 213, 5, 0, 6, 0, []),
  (213, 215, 1, 7, 0, 0, []),
  (215, 216, 33, 0, 0, 0, [])]
/-- Mo.bits (I)I -/
def zc_105 : List zm_q := [
  (0, 1, 0, 0, 0, 0, []),
  (1, 2, 2, 1, 0, 0, []),
  (2, 3, 0, 0, 0, 0, []),
  (3, 4, 2, 2, 0, 0, []),
  (4, 5, 1, 2, 0, 0, []),
  (5, 7, 0, 0, 0, 6, []),
  (7, 10, 31, 24, 3, 0, []),
  (10, 11, 1, 1, 0, 0, []),
  (11, 12, 1, 0, 0, 0, []),
  (12, 13, 1, 2, 0, 0, []),
  (13, 14, 15, 0, 0, 0, []),
  (14, 15, 0, 0, 0, 1, []),
  (15, 16, 13, 0, 0, 0, []),
  (16, 17, 10, 0, 0, 0, []),
  (17, 18, 2, 1, 0, 0, []),
  (18, 21, 3, 2, 0, 1, []),
  (21, 24, 19, 4, 0, 0, []),
  (24, 25, 1, 1, 0, 0, []),
  (25, 26, 33, 0, 0, 0, [])]
/-- Mo.arity (II)I -/
def zc_106 : List zm_q := [
  (0, 1, 1, 0, 0, 0, []),
  (1, 76, 32, 97, 0, 0, [(3, 76), (4, 78), (5, 80), (6, 82), (7, 97), (8, 97), (9, 97), (10, 97), (11, 97), (12, 97), (13, 84), (14, 86), (15, 88), (16, 97), (17, 90)]),
  (76, 77, 0, 0, 0, 2, []),
  (77, 78, 33, 0, 0, 0, []),
  (78, 79, 0, 0, 0, 2, []),
  (79, 80, 33, 0, 0, 0, []),
  (80, 81, 0, 0, 0, 3, []),
  (81, 82, 33, 0, 0, 0, []),
  (82, 83, 0, 0, 0, 2, []),
  (83, 84, 33, 0, 0, 0, []),
  (84, 85, 0, 0, 0, 2, []),
  (85, 86, 33, 0, 0, 0, []),
  (86, 87, 0, 0, 0, 3, []),
  (87, 88, 33, 0, 0, 0, []),
  (88, 89, 0, 0, 0, 2, []),
  (89, 90, 33, 0, 0, 0, []),
  (90, 91, 0, 0, 0, 1, []),
  (91, 92, 1, 1, 0, 0, []),
  (92, 95, 35, 105, 1, 0, []),
  (95, 96, 10, 0, 0, 0, []),
  (96, 97, 33, 0, 0, 0, []),
  (97, 98, 1, 0, 0, 0, []),
  (98, 99, 0, 0, 0, 3, []),
  (99, 102, 31, 106, 3, 0, []),
  (102, 103, 0, 0, 0, 0, []),
  (103, 106, 19, 107, 0, 0, []),
  (106, 107, 0, 0, 0, 1, []),
  (107, 108, 33, 0, 0, 0, [])]
/-- Mo.fits (II)Z -/
def zc_107 : List zm_q := [
  (0, 1, 1, 1, 0, 0, []),
  (1, 4, 30, 10, 2, 0, []),
  (4, 5, 1, 1, 0, 0, []),
  (5, 7, 0, 0, 0, 17, []),
  (7, 10, 31, 12, 5, 0, []),
  (10, 11, 0, 0, 0, 0, []),
  (11, 12, 37, 0, 0, 0, []),
  (12, 13, 1, 1, 0, 0, []),
  (13, 14, 0, 0, 0, 1, []),
  (14, 17, 31, 34, 1, 0, []),
  (17, 18, 1, 2, 0, 0, []),
  (18, 21, 30, 26, 0, 0, []),
  (21, 22, 1, 2, 0, 0, []),
  (22, 23, 0, 0, 0, 1, []),
  (23, 26, 31, 30, 1, 0, []),
  (26, 27, 0, 0, 0, 1, []),
  (27, 30, 19, 93, 0, 0, []),
  (30, 31, 0, 0, 0, 0, []),
  (31, 34, 19, 93, 0, 0, []),
  (34, 35, 1, 1, 0, 0, []),
  (35, 36, 0, 0, 0, 2, []),
  (36, 39, 31, 57, 1, 0, []),
  (39, 40, 1, 2, 0, 0, []),
  (40, 43, 30, 53, 2, 0, []),
  (43, 44, 1, 2, 0, 0, []),
  (44, 46, 0, 0, 0, 11, []),
  (46, 49, 31, 53, 4, 0, []),
  (49, 50, 0, 0, 0, 1, []),
  (50, 53, 19, 93, 0, 0, []),
  (53, 54, 0, 0, 0, 0, []),
  (54, 57, 19, 93, 0, 0, []),
  (57, 58, 1, 1, 0, 0, []),
  (58, 60, 0, 0, 0, 10, []),
  (60, 63, 31, 71, 1, 0, []),
  (63, 64, 27, 0, 0, 0, []),
  (64, 65, 1, 2, 0, 0, []),
  (65, 68, 36, 103, 2, 6, []),
  (68, 71, 19, 93, 0, 0, []),
  (71, 72, 1, 1, 0, 0, []),
  (72, 74, 0, 0, 0, 17, []),
  (74, 77, 31, 88, 1, 0, []),
  (77, 78, 1, 2, 0, 0, []),
  (78, 79, 0, 0, 0, 1, []),
  (79, 82, 31, 92, 2, 0, []),
  (82, 83, 1, 2, 0, 0, []),
  (83, 85, 0, 0, 0, 63, []),
  (85, 88, 31, 92, 4, 0, []),
  (88, 89, 0, 0, 0, 1, []),
  (89, 92, 19, 93, 0, 0, []),
  (92, 93, 0, 0, 0, 0, []),
  (93, 94, 37, 0, 0, 0, [])]
/-- Mo.make (II)I -/
def zc_108 : List zm_q := [
  (0, 1, 27, 0, 0, 0, []),
  (1, 2, 1, 1, 0, 0, []),
  (2, 3, 1, 2, 0, 0, []),
  (3, 6, 36, 107, 3, 6, []),
  (6, 9, 30, 11, 1, 0, []),
  (9, 10, 0, 0, 0, (-1), []),
  (10, 11, 33, 0, 0, 0, []),
  (11, 12, 1, 1, 0, 0, []),
  (12, 13, 1, 2, 0, 0, []),
  (13, 16, 35, 106, 2, 0, []),
  (16, 17, 2, 3, 0, 0, []),
  (17, 18, 27, 0, 0, 0, []),
  (18, 21, 4, 10, 6, 0, []),
  (21, 22, 1, 3, 0, 0, []),
  (22, 25, 31, 27, 3, 0, []),
  (25, 26, 0, 0, 0, (-1), []),
  (26, 27, 33, 0, 0, 0, []),
  (27, 28, 0, 0, 0, 1, []),
  (28, 30, 2, 4, 0, 0, []),
  (30, 31, 0, 0, 0, 0, []),
  (31, 33, 2, 5, 0, 0, []),
  (33, 34, 27, 0, 0, 0, []),
  (34, 37, 4, 10, 6, 0, []),
  (37, 38, 1, 3, 0, 0, []),
  (38, 39, 11, 0, 0, 0, []),
  (39, 41, 2, 6, 0, 0, []),
  (41, 43, 1, 6, 0, 0, []),
  (43, 44, 27, 0, 0, 0, []),
  (44, 47, 4, 10, 6, 0, []),
  (47, 50, 31, 94, 3, 0, []),
  (50, 52, 1, 4, 0, 0, []),
  (52, 53, 27, 0, 0, 0, []),
  (53, 56, 4, 8, 6, 0, []),
  (56, 58, 1, 6, 0, 0, []),
  (58, 59, 6, 0, 0, 0, []),
  (59, 60, 10, 0, 0, 0, []),
  (60, 62, 2, 4, 0, 0, []),
  (62, 63, 27, 0, 0, 0, []),
  (63, 66, 4, 9, 6, 0, []),
  (66, 68, 1, 6, 0, 0, []),
  (68, 69, 6, 0, 0, 0, []),
  (69, 71, 1, 5, 0, 0, []),
  (71, 74, 31, 84, 5, 0, []),
  (74, 75, 27, 0, 0, 0, []),
  (75, 78, 4, 9, 6, 0, []),
  (78, 80, 1, 6, 0, 0, []),
  (80, 81, 6, 0, 0, 0, []),
  (81, 84, 19, 86, 0, 0, []),
  (84, 86, 1, 5, 0, 0, []),
  (86, 88, 2, 5, 0, 0, []),
  (88, 91, 3, 6, 0, 1, []),
  (91, 94, 19, 41, 0, 0, []),
  (94, 95, 27, 0, 0, 0, []),
  (95, 98, 4, 10, 6, 0, []),
  (98, 99, 1, 3, 0, 0, []),
  (99, 100, 11, 0, 0, 0, []),
  (100, 102, 0, 0, 0, 12, []),
  (102, 105, 31, 119, 0, 0, []),
  (105, 107, 1, 4, 0, 0, []),
  (107, 109, 0, 0, 0, 40, []),
  (109, 112, 31, 119, 4, 0, []),
  (112, 114, 1, 5, 0, 0, []),
  (114, 116, 0, 0, 0, 6, []),
  (116, 119, 31, 122, 1, 0, []),
  (119, 121, 0, 0, 0, (-2), []),
  (121, 122, 33, 0, 0, 0, []),
  (122, 123, 27, 0, 0, 0, []),
  (123, 126, 4, 13, 6, 0, []),
  (126, 127, 0, 0, 0, 0, []),
  (127, 128, 1, 1, 0, 0, []),
  (128, 129, 7, 0, 0, 0, []),
  (129, 130, 27, 0, 0, 0, []),
  (130, 133, 4, 14, 6, 0, []),
  (133, 134, 0, 0, 0, 0, []),
  (134, 135, 1, 2, 0, 0, []),
  (135, 136, 7, 0, 0, 0, []),
  (136, 137, 0, 0, 0, 1, []),
  (137, 139, 2, 6, 0, 0, []),
  (139, 140, 27, 0, 0, 0, []),
  (140, 143, 4, 10, 6, 0, []),
  (143, 144, 1, 3, 0, 0, []),
  (144, 145, 11, 0, 0, 0, []),
  (145, 147, 2, 7, 0, 0, []),
  (147, 149, 1, 7, 0, 0, []),
  (149, 150, 27, 0, 0, 0, []),
  (150, 153, 4, 10, 6, 0, []),
  (153, 156, 31, 226, 3, 0, []),
  (156, 157, 0, 0, 0, 0, []),
  (157, 159, 2, 8, 0, 0, []),
  (159, 161, 1, 8, 0, 0, []),
  (161, 162, 27, 0, 0, 0, []),
  (162, 165, 4, 8, 6, 0, []),
  (165, 167, 1, 7, 0, 0, []),
  (167, 168, 6, 0, 0, 0, []),
  (168, 171, 31, 220, 3, 0, []),
  (171, 172, 27, 0, 0, 0, []),
  (172, 175, 4, 13, 6, 0, []),
  (175, 177, 1, 6, 0, 0, []),
  (177, 178, 27, 0, 0, 0, []),
  (178, 181, 4, 6, 6, 0, []),
  (181, 183, 0, 0, 0, 40, []),
  (183, 185, 1, 7, 0, 0, []),
  (185, 186, 12, 0, 0, 0, []),
  (186, 188, 1, 8, 0, 0, []),
  (188, 189, 10, 0, 0, 0, []),
  (189, 190, 6, 0, 0, 0, []),
  (190, 191, 7, 0, 0, 0, []),
  (191, 192, 27, 0, 0, 0, []),
  (192, 195, 4, 14, 6, 0, []),
  (195, 197, 1, 6, 0, 0, []),
  (197, 198, 27, 0, 0, 0, []),
  (198, 201, 4, 7, 6, 0, []),
  (201, 203, 0, 0, 0, 40, []),
  (203, 205, 1, 7, 0, 0, []),
  (205, 206, 12, 0, 0, 0, []),
  (206, 208, 1, 8, 0, 0, []),
  (208, 209, 10, 0, 0, 0, []),
  (209, 210, 6, 0, 0, 0, []),
  (210, 211, 7, 0, 0, 0, []),
  (211, 214, 3, 6, 0, 1, []),
  (214, 217, 3, 8, 0, 1, []),
  (217, 220, 19, 159, 0, 0, []),
  (220, 223, 3, 7, 0, 1, []),
  (223, 226, 19, 147, 0, 0, []),
  (226, 227, 27, 0, 0, 0, []),
  (227, 228, 16, 0, 0, 0, []),
  (228, 231, 4, 10, 6, 0, []),
  (231, 232, 1, 3, 0, 0, []),
  (232, 233, 11, 0, 0, 0, []),
  (233, 236, 5, 10, 6, 0, []),
  (236, 237, 0, 0, 0, 0, []),
  (237, 239, 2, 7, 0, 0, []),
  (239, 241, 1, 7, 0, 0, []),
  (241, 243, 1, 4, 0, 0, []),
  (243, 246, 31, 296, 3, 0, []),
  (246, 247, 27, 0, 0, 0, []),
  (247, 250, 4, 6, 6, 0, []),
  (250, 252, 0, 0, 0, 40, []),
  (252, 253, 27, 0, 0, 0, []),
  (253, 256, 4, 10, 6, 0, []),
  (256, 257, 12, 0, 0, 0, []),
  (257, 259, 1, 7, 0, 0, []),
  (259, 260, 10, 0, 0, 0, []),
  (260, 261, 27, 0, 0, 0, []),
  (261, 264, 4, 13, 6, 0, []),
  (264, 266, 1, 7, 0, 0, []),
  (266, 267, 6, 0, 0, 0, []),
  (267, 268, 7, 0, 0, 0, []),
  (268, 269, 27, 0, 0, 0, []),
  (269, 272, 4, 7, 6, 0, []),
  (272, 274, 0, 0, 0, 40, []),
  (274, 275, 27, 0, 0, 0, []),
  (275, 278, 4, 10, 6, 0, []),
  (278, 279, 12, 0, 0, 0, []),
  (279, 281, 1, 7, 0, 0, []),
  (281, 282, 10, 0, 0, 0, []),
  (282, 283, 27, 0, 0, 0, []),
  (283, 286, 4, 14, 6, 0, []),
  (286, 288, 1, 7, 0, 0, []),
  (288, 289, 6, 0, 0, 0, []),
  (289, 290, 7, 0, 0, 0, []),
  (290, 293, 3, 7, 0, 1, []),
  (293, 296, 19, 239, 0, 0, []),
  (296, 297, 27, 0, 0, 0, []),
  (297, 300, 4, 8, 6, 0, []),
  (300, 301, 27, 0, 0, 0, []),
  (301, 304, 4, 10, 6, 0, []),
  (304, 306, 1, 4, 0, 0, []),
  (306, 307, 7, 0, 0, 0, []),
  (307, 308, 27, 0, 0, 0, []),
  (308, 311, 4, 9, 6, 0, []),
  (311, 312, 27, 0, 0, 0, []),
  (312, 315, 4, 10, 6, 0, []),
  (315, 317, 1, 5, 0, 0, []),
  (317, 318, 0, 0, 0, 1, []),
  (318, 319, 10, 0, 0, 0, []),
  (319, 320, 7, 0, 0, 0, []),
  (320, 321, 27, 0, 0, 0, []),
  (321, 322, 16, 0, 0, 0, []),
  (322, 325, 4, 10, 6, 0, []),
  (325, 326, 0, 0, 0, 1, []),
  (326, 327, 10, 0, 0, 0, []),
  (327, 330, 5, 10, 6, 0, []),
  (330, 332, 1, 4, 0, 0, []),
  (332, 333, 33, 0, 0, 0, [])]
/-- Mo.height ()I -/
def zc_109 : List zm_q := [
  (0, 1, 27, 0, 0, 0, []),
  (1, 4, 4, 10, 6, 0, []),
  (4, 5, 33, 0, 0, 0, [])]
/-- Mo.drop ()I -/
def zc_110 : List zm_q := [
  (0, 1, 27, 0, 0, 0, []),
  (1, 4, 4, 10, 6, 0, []),
  (4, 7, 30, 9, 1, 0, []),
  (7, 8, 0, 0, 0, (-1), []),
  (8, 9, 33, 0, 0, 0, []),
  (9, 10, 27, 0, 0, 0, []),
  (10, 11, 16, 0, 0, 0, []),
  (11, 14, 4, 10, 6, 0, []),
  (14, 15, 0, 0, 0, 1, []),
  (15, 16, 11, 0, 0, 0, []),
  (16, 19, 5, 10, 6, 0, []),
  (19, 20, 27, 0, 0, 0, []),
  (20, 23, 4, 10, 6, 0, []),
  (23, 24, 33, 0, 0, 0, [])]
/-- Mo.takeLast (I)V -/
def zc_111 : List zm_q := [
  (0, 1, 27, 0, 0, 0, []),
  (1, 2, 16, 0, 0, 0, []),
  (2, 5, 4, 10, 6, 0, []),
  (5, 6, 0, 0, 0, 1, []),
  (6, 7, 11, 0, 0, 0, []),
  (7, 10, 5, 10, 6, 0, []),
  (10, 11, 27, 0, 0, 0, []),
  (11, 14, 4, 8, 6, 0, []),
  (14, 15, 1, 1, 0, 0, []),
  (15, 16, 27, 0, 0, 0, []),
  (16, 19, 4, 8, 6, 0, []),
  (19, 20, 27, 0, 0, 0, []),
  (20, 23, 4, 10, 6, 0, []),
  (23, 24, 6, 0, 0, 0, []),
  (24, 25, 7, 0, 0, 0, []),
  (25, 26, 0, 0, 0, 0, []),
  (26, 27, 2, 2, 0, 0, []),
  (27, 28, 1, 2, 0, 0, []),
  (28, 29, 27, 0, 0, 0, []),
  (29, 32, 4, 8, 6, 0, []),
  (32, 33, 1, 1, 0, 0, []),
  (33, 34, 6, 0, 0, 0, []),
  (34, 37, 31, 93, 3, 0, []),
  (37, 38, 27, 0, 0, 0, []),
  (38, 41, 4, 6, 6, 0, []),
  (41, 43, 0, 0, 0, 40, []),
  (43, 44, 1, 1, 0, 0, []),
  (44, 45, 12, 0, 0, 0, []),
  (45, 46, 1, 2, 0, 0, []),
  (46, 47, 10, 0, 0, 0, []),
  (47, 48, 27, 0, 0, 0, []),
  (48, 51, 4, 6, 6, 0, []),
  (51, 53, 0, 0, 0, 40, []),
  (53, 54, 27, 0, 0, 0, []),
  (54, 57, 4, 10, 6, 0, []),
  (57, 58, 12, 0, 0, 0, []),
  (58, 59, 1, 2, 0, 0, []),
  (59, 60, 10, 0, 0, 0, []),
  (60, 61, 6, 0, 0, 0, []),
  (61, 62, 7, 0, 0, 0, []),
  (62, 63, 27, 0, 0, 0, []),
  (63, 66, 4, 7, 6, 0, []),
  (66, 68, 0, 0, 0, 40, []),
  (68, 69, 1, 1, 0, 0, []),
  (69, 70, 12, 0, 0, 0, []),
  (70, 71, 1, 2, 0, 0, []),
  (71, 72, 10, 0, 0, 0, []),
  (72, 73, 27, 0, 0, 0, []),
  (73, 76, 4, 7, 6, 0, []),
  (76, 78, 0, 0, 0, 40, []),
  (78, 79, 27, 0, 0, 0, []),
  (79, 82, 4, 10, 6, 0, []),
  (82, 83, 12, 0, 0, 0, []),
  (83, 84, 1, 2, 0, 0, []),
  (84, 85, 10, 0, 0, 0, []),
  (85, 86, 6, 0, 0, 0, []),
  (86, 87, 7, 0, 0, 0, []),
  (87, 90, 3, 2, 0, 1, []),
  (90, 93, 19, 27, 0, 0, []),
  (93, 94, 34, 0, 0, 0, [])]
/-- Mo.function (I)Z -/
def zc_112 : List zm_q := [
  (0, 1, 27, 0, 0, 0, []),
  (1, 4, 4, 10, 6, 0, []),
  (4, 7, 30, 15, 0, 0, []),
  (7, 8, 27, 0, 0, 0, []),
  (8, 9, 1, 1, 0, 0, []),
  (9, 12, 36, 103, 2, 6, []),
  (12, 15, 30, 17, 1, 0, []),
  (15, 16, 0, 0, 0, 0, []),
  (16, 17, 37, 0, 0, 0, []),
  (17, 18, 27, 0, 0, 0, []),
  (18, 20, 0, 0, 0, 12, []),
  (20, 23, 36, 111, 2, 6, []),
  (23, 24, 27, 0, 0, 0, []),
  (24, 25, 1, 1, 0, 0, []),
  (25, 28, 5, 11, 6, 0, []),
  (28, 29, 0, 0, 0, 1, []),
  (29, 30, 37, 0, 0, 0, [])]
/-- Mo.main (I)Z -/
def zc_113 : List zm_q := [
  (0, 1, 27, 0, 0, 0, []),
  (1, 4, 4, 10, 6, 0, []),
  (4, 7, 30, 15, 0, 0, []),
  (7, 8, 27, 0, 0, 0, []),
  (8, 9, 1, 1, 0, 0, []),
  (9, 12, 36, 103, 2, 6, []),
  (12, 15, 30, 17, 1, 0, []),
  (15, 16, 0, 0, 0, 0, []),
  (16, 17, 37, 0, 0, 0, []),
  (17, 18, 27, 0, 0, 0, []),
  (18, 20, 0, 0, 0, 13, []),
  (20, 23, 36, 111, 2, 6, []),
  (23, 24, 27, 0, 0, 0, []),
  (24, 25, 1, 1, 0, 0, []),
  (25, 28, 5, 12, 6, 0, []),
  (28, 29, 0, 0, 0, 1, []),
  (29, 30, 37, 0, 0, 0, [])]
/-- Mo.behind (I)I -/
def zc_114 : List zm_q := [
  (0, 1, 0, 0, 0, 1, []),
  (1, 2, 2, 2, 0, 0, []),
  (2, 3, 1, 1, 0, 0, []),
  (3, 4, 2, 3, 0, 0, []),
  (4, 5, 1, 2, 0, 0, []),
  (5, 8, 30, 34, 5, 0, []),
  (8, 9, 1, 2, 0, 0, []),
  (9, 10, 27, 0, 0, 0, []),
  (10, 13, 4, 6, 6, 0, []),
  (13, 14, 1, 3, 0, 0, []),
  (14, 15, 6, 0, 0, 0, []),
  (15, 16, 27, 0, 0, 0, []),
  (16, 19, 4, 7, 6, 0, []),
  (19, 20, 1, 3, 0, 0, []),
  (20, 21, 6, 0, 0, 0, []),
  (21, 24, 35, 106, 2, 0, []),
  (24, 25, 0, 0, 0, 1, []),
  (25, 26, 11, 0, 0, 0, []),
  (26, 27, 10, 0, 0, 0, []),
  (27, 28, 2, 2, 0, 0, []),
  (28, 31, 3, 3, 0, 1, []),
  (31, 34, 19, 4, 0, 0, []),
  (34, 35, 1, 3, 0, 0, []),
  (35, 36, 33, 0, 0, 0, [])]
/-- Mo.part (II)I -/
def zc_115 : List zm_q := [
  (0, 1, 1, 1, 0, 0, []),
  (1, 2, 0, 0, 0, 1, []),
  (2, 3, 10, 0, 0, 0, []),
  (3, 4, 2, 3, 0, 0, []),
  (4, 5, 0, 0, 0, 0, []),
  (5, 7, 2, 4, 0, 0, []),
  (7, 9, 1, 4, 0, 0, []),
  (9, 10, 1, 2, 0, 0, []),
  (10, 13, 31, 25, 3, 0, []),
  (13, 14, 27, 0, 0, 0, []),
  (14, 15, 1, 3, 0, 0, []),
  (15, 18, 36, 114, 2, 6, []),
  (18, 19, 2, 3, 0, 0, []),
  (19, 22, 3, 4, 0, 1, []),
  (22, 25, 19, 7, 0, 0, []),
  (25, 26, 1, 3, 0, 0, []),
  (26, 27, 33, 0, 0, 0, [])]
/-- Mo.top (I)I -/
def zc_116 : List zm_q := [
  (0, 1, 1, 1, 0, 0, []),
  (1, 2, 2, 2, 0, 0, []),
  (2, 3, 27, 0, 0, 0, []),
  (3, 6, 4, 30, 6, 0, []),
  (6, 7, 1, 2, 0, 0, []),
  (7, 8, 6, 0, 0, 0, []),
  (8, 9, 1, 2, 0, 0, []),
  (9, 12, 31, 22, 0, 0, []),
  (12, 13, 27, 0, 0, 0, []),
  (13, 16, 4, 30, 6, 0, []),
  (16, 17, 1, 2, 0, 0, []),
  (17, 18, 6, 0, 0, 0, []),
  (18, 19, 2, 2, 0, 0, []),
  (19, 22, 19, 2, 0, 0, []),
  (22, 23, 1, 2, 0, 0, []),
  (23, 24, 33, 0, 0, 0, [])]
/-- Mo.equate (II)V -/
def zc_117 : List zm_q := [
  (0, 1, 27, 0, 0, 0, []),
  (1, 4, 4, 32, 6, 0, []),
  (4, 5, 27, 0, 0, 0, []),
  (5, 8, 4, 34, 6, 0, []),
  (8, 9, 1, 1, 0, 0, []),
  (9, 10, 7, 0, 0, 0, []),
  (10, 11, 27, 0, 0, 0, []),
  (11, 14, 4, 33, 6, 0, []),
  (14, 15, 27, 0, 0, 0, []),
  (15, 18, 4, 34, 6, 0, []),
  (18, 19, 1, 2, 0, 0, []),
  (19, 20, 7, 0, 0, 0, []),
  (20, 21, 27, 0, 0, 0, []),
  (21, 22, 16, 0, 0, 0, []),
  (22, 25, 4, 34, 6, 0, []),
  (25, 26, 0, 0, 0, 1, []),
  (26, 27, 10, 0, 0, 0, []),
  (27, 30, 5, 34, 6, 0, []),
  (30, 31, 34, 0, 0, 0, [])]
/-- Mo.join (II)Z -/
def zc_118 : List zm_q := [
  (0, 1, 27, 0, 0, 0, []),
  (1, 2, 1, 1, 0, 0, []),
  (2, 5, 36, 116, 2, 6, []),
  (5, 6, 2, 3, 0, 0, []),
  (6, 7, 27, 0, 0, 0, []),
  (7, 8, 1, 2, 0, 0, []),
  (8, 11, 36, 116, 2, 6, []),
  (11, 13, 2, 4, 0, 0, []),
  (13, 14, 1, 3, 0, 0, []),
  (14, 16, 1, 4, 0, 0, []),
  (16, 19, 31, 21, 1, 0, []),
  (19, 20, 0, 0, 0, 1, []),
  (20, 21, 37, 0, 0, 0, []),
  (21, 22, 27, 0, 0, 0, []),
  (22, 25, 4, 31, 6, 0, []),
  (25, 26, 1, 3, 0, 0, []),
  (26, 27, 6, 0, 0, 0, []),
  (27, 29, 2, 5, 0, 0, []),
  (29, 30, 27, 0, 0, 0, []),
  (30, 33, 4, 31, 6, 0, []),
  (33, 35, 1, 4, 0, 0, []),
  (35, 36, 6, 0, 0, 0, []),
  (36, 38, 2, 6, 0, 0, []),
  (38, 39, 27, 0, 0, 0, []),
  (39, 42, 4, 30, 6, 0, []),
  (42, 43, 1, 3, 0, 0, []),
  (43, 45, 1, 4, 0, 0, []),
  (45, 46, 7, 0, 0, 0, []),
  (46, 47, 27, 0, 0, 0, []),
  (47, 50, 4, 31, 6, 0, []),
  (50, 52, 1, 4, 0, 0, []),
  (52, 54, 1, 6, 0, 0, []),
  (54, 57, 30, 62, 2, 0, []),
  (57, 59, 1, 6, 0, 0, []),
  (59, 62, 19, 64, 0, 0, []),
  (62, 64, 1, 5, 0, 0, []),
  (64, 65, 7, 0, 0, 0, []),
  (65, 67, 1, 5, 0, 0, []),
  (67, 70, 30, 75, 2, 0, []),
  (70, 72, 1, 6, 0, 0, []),
  (72, 75, 30, 77, 3, 0, []),
  (75, 76, 0, 0, 0, 1, []),
  (76, 77, 37, 0, 0, 0, []),
  (77, 78, 27, 0, 0, 0, []),
  (78, 81, 4, 2, 6, 0, []),
  (81, 83, 1, 5, 0, 0, []),
  (83, 84, 6, 0, 0, 0, []),
  (84, 85, 27, 0, 0, 0, []),
  (85, 88, 4, 2, 6, 0, []),
  (88, 90, 1, 6, 0, 0, []),
  (90, 91, 6, 0, 0, 0, []),
  (91, 94, 31, 96, 0, 0, []),
  (94, 95, 0, 0, 0, 0, []),
  (95, 96, 37, 0, 0, 0, []),
  (96, 97, 27, 0, 0, 0, []),
  (97, 100, 4, 2, 6, 0, []),
  (100, 102, 1, 5, 0, 0, []),
  (102, 103, 6, 0, 0, 0, []),
  (103, 104, 0, 0, 0, 2, []),
  (104, 107, 31, 118, 0, 0, []),
  (107, 108, 27, 0, 0, 0, []),
  (108, 111, 4, 2, 6, 0, []),
  (111, 113, 1, 5, 0, 0, []),
  (113, 114, 6, 0, 0, 0, []),
  (114, 115, 0, 0, 0, 3, []),
  (115, 118, 31, 136, 1, 0, []),
  (118, 119, 27, 0, 0, 0, []),
  (119, 120, 27, 0, 0, 0, []),
  (120, 123, 4, 3, 6, 0, []),
  (123, 125, 1, 5, 0, 0, []),
  (125, 126, 6, 0, 0, 0, []),
  (126, 127, 27, 0, 0, 0, []),
  (127, 130, 4, 3, 6, 0, []),
  (130, 132, 1, 6, 0, 0, []),
  (132, 133, 6, 0, 0, 0, []),
  (133, 136, 36, 117, 3, 6, []),
  (136, 137, 27, 0, 0, 0, []),
  (137, 140, 4, 2, 6, 0, []),
  (140, 142, 1, 5, 0, 0, []),
  (142, 143, 6, 0, 0, 0, []),
  (143, 144, 0, 0, 0, 2, []),
  (144, 147, 31, 165, 1, 0, []),
  (147, 148, 27, 0, 0, 0, []),
  (148, 149, 27, 0, 0, 0, []),
  (149, 152, 4, 4, 6, 0, []),
  (152, 154, 1, 5, 0, 0, []),
  (154, 155, 6, 0, 0, 0, []),
  (155, 156, 27, 0, 0, 0, []),
  (156, 159, 4, 4, 6, 0, []),
  (159, 161, 1, 6, 0, 0, []),
  (161, 162, 6, 0, 0, 0, []),
  (162, 165, 36, 117, 3, 6, []),
  (165, 166, 0, 0, 0, 1, []),
  (166, 167, 37, 0, 0, 0, [])]
/-- Mo.isBelow (I)Z -/
def zc_119 : List zm_q := [
  (0, 1, 27, 0, 0, 0, []),
  (1, 4, 4, 31, 6, 0, []),
  (4, 5, 1, 1, 0, 0, []),
  (5, 6, 6, 0, 0, 0, []),
  (6, 7, 2, 2, 0, 0, []),
  (7, 8, 1, 2, 0, 0, []),
  (8, 11, 30, 21, 2, 0, []),
  (11, 12, 27, 0, 0, 0, []),
  (12, 15, 4, 2, 6, 0, []),
  (15, 16, 1, 2, 0, 0, []),
  (16, 17, 6, 0, 0, 0, []),
  (17, 18, 0, 0, 0, 2, []),
  (18, 21, 31, 23, 3, 0, []),
  (21, 22, 0, 0, 0, 1, []),
  (22, 23, 37, 0, 0, 0, []),
  (23, 24, 27, 0, 0, 0, []),
  (24, 27, 4, 35, 6, 0, []),
  (27, 28, 27, 0, 0, 0, []),
  (28, 29, 27, 0, 0, 0, []),
  (29, 32, 4, 3, 6, 0, []),
  (32, 33, 1, 2, 0, 0, []),
  (33, 34, 6, 0, 0, 0, []),
  (34, 37, 36, 116, 2, 6, []),
  (37, 38, 8, 0, 0, 0, []),
  (38, 41, 30, 73, 0, 0, []),
  (41, 42, 27, 0, 0, 0, []),
  (42, 45, 4, 2, 6, 0, []),
  (45, 46, 1, 2, 0, 0, []),
  (46, 47, 6, 0, 0, 0, []),
  (47, 48, 0, 0, 0, 3, []),
  (48, 51, 31, 69, 0, 0, []),
  (51, 52, 27, 0, 0, 0, []),
  (52, 55, 4, 35, 6, 0, []),
  (55, 56, 27, 0, 0, 0, []),
  (56, 57, 27, 0, 0, 0, []),
  (57, 60, 4, 4, 6, 0, []),
  (60, 61, 1, 2, 0, 0, []),
  (61, 62, 6, 0, 0, 0, []),
  (62, 65, 36, 116, 2, 6, []),
  (65, 66, 8, 0, 0, 0, []),
  (66, 69, 30, 73, 0, 0, []),
  (69, 70, 0, 0, 0, 1, []),
  (70, 73, 19, 74, 0, 0, []),
  (73, 74, 0, 0, 0, 0, []),
  (74, 75, 37, 0, 0, 0, [])]
/-- Mo.isFinite ()Z -/
def zc_120 : List zm_q := [
  (0, 1, 0, 0, 0, 0, []),
  (1, 2, 2, 1, 0, 0, []),
  (2, 3, 1, 1, 0, 0, []),
  (3, 4, 27, 0, 0, 0, []),
  (4, 7, 4, 1, 6, 0, []),
  (7, 10, 31, 23, 3, 0, []),
  (10, 11, 27, 0, 0, 0, []),
  (11, 14, 4, 35, 6, 0, []),
  (14, 15, 1, 1, 0, 0, []),
  (15, 16, 0, 0, 0, 0, []),
  (16, 17, 9, 0, 0, 0, []),
  (17, 20, 3, 1, 0, 1, []),
  (20, 23, 19, 2, 0, 0, []),
  (23, 24, 0, 0, 0, 1, []),
  (24, 25, 2, 1, 0, 0, []),
  (25, 26, 0, 0, 0, 0, []),
  (26, 27, 2, 2, 0, 0, []),
  (27, 28, 1, 1, 0, 0, []),
  (28, 31, 30, 120, 0, 0, []),
  (31, 32, 0, 0, 0, 0, []),
  (32, 33, 2, 1, 0, 0, []),
  (33, 34, 0, 0, 0, 0, []),
  (34, 35, 2, 2, 0, 0, []),
  (35, 36, 0, 0, 0, 0, []),
  (36, 37, 2, 3, 0, 0, []),
  (37, 38, 1, 3, 0, 0, []),
  (38, 39, 27, 0, 0, 0, []),
  (39, 42, 4, 1, 6, 0, []),
  (42, 45, 31, 117, 3, 0, []),
  (45, 46, 27, 0, 0, 0, []),
  (46, 49, 4, 30, 6, 0, []),
  (49, 50, 1, 3, 0, 0, []),
  (50, 51, 6, 0, 0, 0, []),
  (51, 52, 1, 3, 0, 0, []),
  (52, 55, 31, 111, 1, 0, []),
  (55, 56, 27, 0, 0, 0, []),
  (56, 59, 4, 35, 6, 0, []),
  (59, 60, 1, 3, 0, 0, []),
  (60, 61, 8, 0, 0, 0, []),
  (61, 64, 30, 111, 1, 0, []),
  (64, 65, 27, 0, 0, 0, []),
  (65, 68, 4, 35, 6, 0, []),
  (68, 69, 1, 3, 0, 0, []),
  (69, 70, 27, 0, 0, 0, []),
  (70, 71, 1, 3, 0, 0, []),
  (71, 74, 36, 119, 2, 6, []),
  (74, 75, 9, 0, 0, 0, []),
  (75, 76, 1, 1, 0, 0, []),
  (76, 79, 30, 88, 1, 0, []),
  (79, 80, 27, 0, 0, 0, []),
  (80, 83, 4, 35, 6, 0, []),
  (83, 84, 1, 3, 0, 0, []),
  (84, 85, 8, 0, 0, 0, []),
  (85, 88, 30, 92, 0, 0, []),
  (88, 89, 0, 0, 0, 1, []),
  (89, 92, 19, 93, 0, 0, []),
  (92, 93, 0, 0, 0, 0, []),
  (93, 94, 2, 1, 0, 0, []),
  (94, 95, 1, 2, 0, 0, []),
  (95, 96, 27, 0, 0, 0, []),
  (96, 99, 4, 35, 6, 0, []),
  (99, 100, 1, 3, 0, 0, []),
  (100, 101, 8, 0, 0, 0, []),
  (101, 104, 30, 108, 0, 0, []),
  (104, 105, 0, 0, 0, 0, []),
  (105, 108, 19, 109, 0, 0, []),
  (108, 109, 0, 0, 0, 1, []),
  (109, 110, 10, 0, 0, 0, []),
  (110, 111, 2, 2, 0, 0, []),
  (111, 114, 3, 3, 0, 1, []),
  (114, 117, 19, 37, 0, 0, []),
  (117, 120, 19, 27, 0, 0, []),
  (120, 121, 1, 2, 0, 0, []),
  (121, 124, 30, 128, 1, 0, []),
  (124, 125, 0, 0, 0, 1, []),
  (125, 128, 19, 129, 0, 0, []),
  (128, 129, 0, 0, 0, 0, []),
  (129, 130, 37, 0, 0, 0, [])]
/-- Mo.solve ()Z -/
def zc_121 : List zm_q := [
  (0, 1, 0, 0, 0, 0, []),
  (1, 2, 2, 1, 0, 0, []),
  (2, 3, 1, 1, 0, 0, []),
  (3, 4, 27, 0, 0, 0, []),
  (4, 7, 4, 1, 6, 0, []),
  (7, 10, 31, 44, 3, 0, []),
  (10, 11, 27, 0, 0, 0, []),
  (11, 14, 4, 30, 6, 0, []),
  (14, 15, 1, 1, 0, 0, []),
  (15, 16, 1, 1, 0, 0, []),
  (16, 17, 7, 0, 0, 0, []),
  (17, 18, 27, 0, 0, 0, []),
  (18, 21, 4, 31, 6, 0, []),
  (21, 22, 1, 1, 0, 0, []),
  (22, 23, 27, 0, 0, 0, []),
  (23, 26, 4, 2, 6, 0, []),
  (26, 27, 1, 1, 0, 0, []),
  (27, 28, 6, 0, 0, 0, []),
  (28, 29, 0, 0, 0, 4, []),
  (29, 32, 31, 36, 1, 0, []),
  (32, 33, 0, 0, 0, (-1), []),
  (33, 36, 19, 37, 0, 0, []),
  (36, 37, 1, 1, 0, 0, []),
  (37, 38, 7, 0, 0, 0, []),
  (38, 41, 3, 1, 0, 1, []),
  (41, 44, 19, 2, 0, 0, []),
  (44, 45, 27, 0, 0, 0, []),
  (45, 46, 0, 0, 0, 0, []),
  (46, 49, 5, 34, 6, 0, []),
  (49, 50, 0, 0, 0, 0, []),
  (50, 51, 2, 1, 0, 0, []),
  (51, 52, 1, 1, 0, 0, []),
  (52, 53, 27, 0, 0, 0, []),
  (53, 56, 4, 17, 6, 0, []),
  (56, 59, 31, 81, 3, 0, []),
  (59, 60, 27, 0, 0, 0, []),
  (60, 61, 27, 0, 0, 0, []),
  (61, 64, 4, 15, 6, 0, []),
  (64, 65, 1, 1, 0, 0, []),
  (65, 66, 6, 0, 0, 0, []),
  (66, 67, 27, 0, 0, 0, []),
  (67, 70, 4, 16, 6, 0, []),
  (70, 71, 1, 1, 0, 0, []),
  (71, 72, 6, 0, 0, 0, []),
  (72, 75, 36, 117, 3, 6, []),
  (75, 78, 3, 1, 0, 1, []),
  (78, 81, 19, 51, 0, 0, []),
  (81, 82, 27, 0, 0, 0, []),
  (82, 85, 4, 34, 6, 0, []),
  (85, 88, 30, 125, 5, 0, []),
  (88, 89, 27, 0, 0, 0, []),
  (89, 90, 16, 0, 0, 0, []),
  (90, 93, 4, 34, 6, 0, []),
  (93, 94, 0, 0, 0, 1, []),
  (94, 95, 11, 0, 0, 0, []),
  (95, 98, 5, 34, 6, 0, []),
  (98, 99, 27, 0, 0, 0, []),
  (99, 100, 27, 0, 0, 0, []),
  (100, 103, 4, 32, 6, 0, []),
  (103, 104, 27, 0, 0, 0, []),
  (104, 107, 4, 34, 6, 0, []),
  (107, 108, 6, 0, 0, 0, []),
  (108, 109, 27, 0, 0, 0, []),
  (109, 112, 4, 33, 6, 0, []),
  (112, 113, 27, 0, 0, 0, []),
  (113, 116, 4, 34, 6, 0, []),
  (116, 117, 6, 0, 0, 0, []),
  (117, 120, 36, 118, 3, 6, []),
  (120, 123, 30, 81, 1, 0, []),
  (123, 124, 0, 0, 0, 0, []),
  (124, 125, 37, 0, 0, 0, []),
  (125, 126, 27, 0, 0, 0, []),
  (126, 129, 36, 120, 1, 6, []),
  (129, 130, 37, 0, 0, 0, [])]
/-- Mo.areEqual (II)Z -/
def zc_122 : List zm_q := [
  (0, 1, 27, 0, 0, 0, []),
  (1, 2, 0, 0, 0, 0, []),
  (2, 5, 5, 34, 6, 0, []),
  (5, 6, 27, 0, 0, 0, []),
  (6, 7, 1, 1, 0, 0, []),
  (7, 8, 1, 2, 0, 0, []),
  (8, 11, 36, 117, 3, 6, []),
  (11, 12, 27, 0, 0, 0, []),
  (12, 15, 4, 34, 6, 0, []),
  (15, 18, 30, 181, 5, 0, []),
  (18, 19, 27, 0, 0, 0, []),
  (19, 20, 16, 0, 0, 0, []),
  (20, 23, 4, 34, 6, 0, []),
  (23, 24, 0, 0, 0, 1, []),
  (24, 25, 11, 0, 0, 0, []),
  (25, 28, 5, 34, 6, 0, []),
  (28, 29, 27, 0, 0, 0, []),
  (29, 30, 27, 0, 0, 0, []),
  (30, 33, 4, 32, 6, 0, []),
  (33, 34, 27, 0, 0, 0, []),
  (34, 37, 4, 34, 6, 0, []),
  (37, 38, 6, 0, 0, 0, []),
  (38, 41, 36, 116, 2, 6, []),
  (41, 42, 2, 3, 0, 0, []),
  (42, 43, 27, 0, 0, 0, []),
  (43, 44, 27, 0, 0, 0, []),
  (44, 47, 4, 33, 6, 0, []),
  (47, 48, 27, 0, 0, 0, []),
  (48, 51, 4, 34, 6, 0, []),
  (51, 52, 6, 0, 0, 0, []),
  (52, 55, 36, 116, 2, 6, []),
  (55, 57, 2, 4, 0, 0, []),
  (57, 58, 1, 3, 0, 0, []),
  (58, 60, 1, 4, 0, 0, []),
  (60, 63, 31, 178, 0, 0, []),
  (63, 64, 27, 0, 0, 0, []),
  (64, 67, 4, 31, 6, 0, []),
  (67, 68, 1, 3, 0, 0, []),
  (68, 69, 6, 0, 0, 0, []),
  (69, 71, 2, 5, 0, 0, []),
  (71, 72, 27, 0, 0, 0, []),
  (72, 75, 4, 31, 6, 0, []),
  (75, 77, 1, 4, 0, 0, []),
  (77, 78, 6, 0, 0, 0, []),
  (78, 80, 2, 6, 0, 0, []),
  (80, 82, 1, 5, 0, 0, []),
  (82, 85, 30, 107, 2, 0, []),
  (85, 87, 1, 6, 0, 0, []),
  (87, 90, 30, 107, 2, 0, []),
  (90, 91, 27, 0, 0, 0, []),
  (91, 94, 4, 2, 6, 0, []),
  (94, 96, 1, 5, 0, 0, []),
  (96, 97, 6, 0, 0, 0, []),
  (97, 98, 27, 0, 0, 0, []),
  (98, 101, 4, 2, 6, 0, []),
  (101, 103, 1, 6, 0, 0, []),
  (103, 104, 6, 0, 0, 0, []),
  (104, 107, 31, 109, 0, 0, []),
  (107, 108, 0, 0, 0, 0, []),
  (108, 109, 37, 0, 0, 0, []),
  (109, 110, 27, 0, 0, 0, []),
  (110, 113, 4, 2, 6, 0, []),
  (113, 115, 1, 5, 0, 0, []),
  (115, 116, 6, 0, 0, 0, []),
  (116, 117, 0, 0, 0, 2, []),
  (117, 120, 31, 131, 0, 0, []),
  (120, 121, 27, 0, 0, 0, []),
  (121, 124, 4, 2, 6, 0, []),
  (124, 126, 1, 5, 0, 0, []),
  (126, 127, 6, 0, 0, 0, []),
  (127, 128, 0, 0, 0, 3, []),
  (128, 131, 31, 149, 1, 0, []),
  (131, 132, 27, 0, 0, 0, []),
  (132, 133, 27, 0, 0, 0, []),
  (133, 136, 4, 3, 6, 0, []),
  (136, 138, 1, 5, 0, 0, []),
  (138, 139, 6, 0, 0, 0, []),
  (139, 140, 27, 0, 0, 0, []),
  (140, 143, 4, 3, 6, 0, []),
  (143, 145, 1, 6, 0, 0, []),
  (145, 146, 6, 0, 0, 0, []),
  (146, 149, 36, 117, 3, 6, []),
  (149, 150, 27, 0, 0, 0, []),
  (150, 153, 4, 2, 6, 0, []),
  (153, 155, 1, 5, 0, 0, []),
  (155, 156, 6, 0, 0, 0, []),
  (156, 157, 0, 0, 0, 2, []),
  (157, 160, 31, 178, 1, 0, []),
  (160, 161, 27, 0, 0, 0, []),
  (161, 162, 27, 0, 0, 0, []),
  (162, 165, 4, 4, 6, 0, []),
  (165, 167, 1, 5, 0, 0, []),
  (167, 168, 6, 0, 0, 0, []),
  (168, 169, 27, 0, 0, 0, []),
  (169, 172, 4, 4, 6, 0, []),
  (172, 174, 1, 6, 0, 0, []),
  (174, 175, 6, 0, 0, 0, []),
  (175, 178, 36, 117, 3, 6, []),
  (178, 181, 19, 11, 0, 0, []),
  (181, 182, 0, 0, 0, 1, []),
  (182, 183, 37, 0, 0, 0, [])]
/-- Mo.form (II)I -/
def zc_123 : List zm_q := [
  (0, 1, 27, 0, 0, 0, []),
  (1, 4, 36, 121, 1, 6, []),
  (4, 5, 2, 3, 0, 0, []),
  (5, 6, 27, 0, 0, 0, []),
  (6, 9, 4, 31, 6, 0, []),
  (9, 10, 27, 0, 0, 0, []),
  (10, 11, 1, 1, 0, 0, []),
  (11, 14, 36, 116, 2, 6, []),
  (14, 15, 6, 0, 0, 0, []),
  (15, 17, 2, 4, 0, 0, []),
  (17, 19, 1, 4, 0, 0, []),
  (19, 22, 30, 36, 2, 0, []),
  (22, 23, 27, 0, 0, 0, []),
  (23, 26, 4, 2, 6, 0, []),
  (26, 28, 1, 4, 0, 0, []),
  (28, 29, 6, 0, 0, 0, []),
  (29, 30, 1, 2, 0, 0, []),
  (30, 33, 31, 36, 1, 0, []),
  (33, 35, 1, 4, 0, 0, []),
  (35, 36, 33, 0, 0, 0, []),
  (36, 37, 27, 0, 0, 0, []),
  (37, 38, 0, 0, 0, 1, []),
  (38, 41, 24, 29, 6, 0, []),
  (41, 42, 1, 3, 0, 0, []),
  (42, 45, 30, 49, 0, 0, []),
  (45, 46, 0, 0, 0, 0, []),
  (46, 49, 19, 50, 0, 0, []),
  (49, 50, 0, 0, 0, 1, []),
  (50, 51, 33, 0, 0, 0, [])]
/-- Mo.formExp (I)I -/
def zc_124 : List zm_q := [
  (0, 1, 27, 0, 0, 0, []),
  (1, 2, 1, 1, 0, 0, []),
  (2, 3, 0, 0, 0, 3, []),
  (3, 6, 36, 123, 3, 6, []),
  (6, 7, 2, 2, 0, 0, []),
  (7, 8, 27, 0, 0, 0, []),
  (8, 11, 4, 29, 6, 0, []),
  (11, 14, 30, 18, 0, 0, []),
  (14, 15, 0, 0, 0, 0, []),
  (15, 18, 19, 24, 0, 0, []),
  (18, 19, 27, 0, 0, 0, []),
  (19, 22, 4, 3, 6, 0, []),
  (22, 23, 1, 2, 0, 0, []),
  (23, 24, 6, 0, 0, 0, []),
  (24, 25, 33, 0, 0, 0, [])]
/-- Mo.begin (II)V -/
def zc_125 : List zm_q := [
  (0, 1, 27, 0, 0, 0, []),
  (1, 4, 4, 20, 6, 0, []),
  (4, 5, 27, 0, 0, 0, []),
  (5, 8, 4, 27, 6, 0, []),
  (8, 9, 1, 1, 0, 0, []),
  (9, 10, 7, 0, 0, 0, []),
  (10, 11, 27, 0, 0, 0, []),
  (11, 14, 4, 21, 6, 0, []),
  (14, 15, 27, 0, 0, 0, []),
  (15, 18, 4, 27, 6, 0, []),
  (18, 19, 1, 2, 0, 0, []),
  (19, 20, 7, 0, 0, 0, []),
  (20, 21, 27, 0, 0, 0, []),
  (21, 24, 4, 22, 6, 0, []),
  (24, 25, 27, 0, 0, 0, []),
  (25, 28, 4, 27, 6, 0, []),
  (28, 29, 0, 0, 0, 0, []),
  (29, 30, 7, 0, 0, 0, []),
  (30, 31, 27, 0, 0, 0, []),
  (31, 34, 4, 25, 6, 0, []),
  (34, 35, 27, 0, 0, 0, []),
  (35, 38, 4, 27, 6, 0, []),
  (38, 39, 27, 0, 0, 0, []),
  (39, 42, 4, 19, 6, 0, []),
  (42, 43, 7, 0, 0, 0, []),
  (43, 44, 27, 0, 0, 0, []),
  (44, 47, 4, 26, 6, 0, []),
  (47, 48, 27, 0, 0, 0, []),
  (48, 51, 4, 27, 6, 0, []),
  (51, 52, 27, 0, 0, 0, []),
  (52, 55, 4, 17, 6, 0, []),
  (55, 56, 7, 0, 0, 0, []),
  (56, 57, 27, 0, 0, 0, []),
  (57, 58, 16, 0, 0, 0, []),
  (58, 61, 4, 27, 6, 0, []),
  (61, 62, 0, 0, 0, 1, []),
  (62, 63, 10, 0, 0, 0, []),
  (63, 66, 5, 27, 6, 0, []),
  (66, 67, 34, 0, 0, 0, [])]
/-- Mo.end (I)V -/
def zc_126 : List zm_q := [
  (0, 1, 27, 0, 0, 0, []),
  (1, 4, 4, 27, 6, 0, []),
  (4, 5, 0, 0, 0, 1, []),
  (5, 6, 11, 0, 0, 0, []),
  (6, 7, 2, 2, 0, 0, []),
  (7, 8, 27, 0, 0, 0, []),
  (8, 11, 4, 29, 6, 0, []),
  (11, 14, 30, 15, 0, 0, []),
  (14, 15, 34, 0, 0, 0, []),
  (15, 16, 27, 0, 0, 0, []),
  (16, 19, 4, 21, 6, 0, []),
  (19, 20, 1, 2, 0, 0, []),
  (20, 21, 6, 0, 0, 0, []),
  (21, 24, 30, 56, 2, 0, []),
  (24, 25, 27, 0, 0, 0, []),
  (25, 28, 36, 121, 1, 6, []),
  (28, 29, 2, 3, 0, 0, []),
  (29, 30, 27, 0, 0, 0, []),
  (30, 31, 1, 3, 0, 0, []),
  (31, 34, 30, 48, 0, 0, []),
  (34, 35, 27, 0, 0, 0, []),
  (35, 36, 1, 1, 0, 0, []),
  (36, 37, 27, 0, 0, 0, []),
  (37, 40, 4, 21, 6, 0, []),
  (40, 41, 1, 2, 0, 0, []),
  (41, 42, 6, 0, 0, 0, []),
  (42, 45, 36, 122, 3, 6, []),
  (45, 48, 30, 52, 1, 0, []),
  (48, 49, 0, 0, 0, 1, []),
  (49, 52, 19, 53, 0, 0, []),
  (52, 53, 0, 0, 0, 0, []),
  (53, 56, 24, 29, 6, 0, []),
  (56, 57, 27, 0, 0, 0, []),
  (57, 58, 1, 1, 0, 0, []),
  (58, 61, 5, 28, 6, 0, []),
  (61, 62, 27, 0, 0, 0, []),
  (62, 63, 16, 0, 0, 0, []),
  (63, 66, 4, 27, 6, 0, []),
  (66, 67, 0, 0, 0, 1, []),
  (67, 68, 11, 0, 0, 0, []),
  (68, 71, 5, 27, 6, 0, []),
  (71, 72, 34, 0, 0, 0, [])]
/-- Mo.checkPart (III)V -/
def zc_127 : List zm_q := [
  (0, 1, 27, 0, 0, 0, []),
  (1, 2, 27, 0, 0, 0, []),
  (2, 3, 1, 1, 0, 0, []),
  (3, 4, 1, 2, 0, 0, []),
  (4, 7, 36, 115, 3, 6, []),
  (7, 8, 1, 3, 0, 0, []),
  (8, 11, 36, 125, 3, 6, []),
  (11, 12, 34, 0, 0, 0, [])]
/-- Mo.findPart (II)V -/
def zc_128 : List zm_q := [
  (0, 1, 27, 0, 0, 0, []),
  (1, 2, 27, 0, 0, 0, []),
  (2, 3, 1, 1, 0, 0, []),
  (3, 4, 1, 2, 0, 0, []),
  (4, 7, 36, 115, 3, 6, []),
  (7, 8, 0, 0, 0, (-1), []),
  (8, 11, 36, 125, 3, 6, []),
  (11, 12, 34, 0, 0, 0, [])]
/-- Mo.resultAt (I)I -/
def zc_129 : List zm_q := [
  (0, 1, 0, 0, 0, 0, []),
  (1, 2, 2, 2, 0, 0, []),
  (2, 3, 1, 2, 0, 0, []),
  (3, 4, 27, 0, 0, 0, []),
  (4, 7, 4, 11, 6, 0, []),
  (7, 10, 31, 35, 4, 0, []),
  (10, 11, 27, 0, 0, 0, []),
  (11, 14, 4, 36, 6, 0, []),
  (14, 15, 1, 2, 0, 0, []),
  (15, 16, 1, 2, 0, 0, []),
  (16, 17, 27, 0, 0, 0, []),
  (17, 20, 4, 11, 6, 0, []),
  (20, 23, 31, 27, 1, 0, []),
  (23, 24, 0, 0, 0, 1, []),
  (24, 27, 19, 28, 0, 0, []),
  (27, 28, 0, 0, 0, 0, []),
  (28, 29, 7, 0, 0, 0, []),
  (29, 32, 3, 2, 0, 1, []),
  (32, 35, 19, 2, 0, 0, []),
  (35, 36, 27, 0, 0, 0, []),
  (36, 39, 4, 11, 6, 0, []),
  (39, 40, 2, 2, 0, 0, []),
  (40, 41, 1, 2, 0, 0, []),
  (41, 44, 30, 114, 2, 0, []),
  (44, 45, 27, 0, 0, 0, []),
  (45, 48, 4, 36, 6, 0, []),
  (48, 49, 1, 2, 0, 0, []),
  (49, 50, 6, 0, 0, 0, []),
  (50, 51, 0, 0, 0, 1, []),
  (51, 54, 31, 108, 1, 0, []),
  (54, 55, 27, 0, 0, 0, []),
  (55, 58, 4, 2, 6, 0, []),
  (58, 59, 1, 2, 0, 0, []),
  (59, 60, 6, 0, 0, 0, []),
  (60, 61, 0, 0, 0, 2, []),
  (61, 64, 31, 74, 0, 0, []),
  (64, 65, 27, 0, 0, 0, []),
  (65, 68, 4, 2, 6, 0, []),
  (68, 69, 1, 2, 0, 0, []),
  (69, 70, 6, 0, 0, 0, []),
  (70, 71, 0, 0, 0, 3, []),
  (71, 74, 31, 108, 1, 0, []),
  (74, 75, 27, 0, 0, 0, []),
  (75, 78, 4, 36, 6, 0, []),
  (78, 79, 27, 0, 0, 0, []),
  (79, 82, 4, 3, 6, 0, []),
  (82, 83, 1, 2, 0, 0, []),
  (83, 84, 6, 0, 0, 0, []),
  (84, 85, 0, 0, 0, 1, []),
  (85, 86, 7, 0, 0, 0, []),
  (86, 87, 27, 0, 0, 0, []),
  (87, 90, 4, 2, 6, 0, []),
  (90, 91, 1, 2, 0, 0, []),
  (91, 92, 6, 0, 0, 0, []),
  (92, 93, 0, 0, 0, 2, []),
  (93, 96, 31, 108, 1, 0, []),
  (96, 97, 27, 0, 0, 0, []),
  (97, 100, 4, 36, 6, 0, []),
  (100, 101, 27, 0, 0, 0, []),
  (101, 104, 4, 4, 6, 0, []),
  (104, 105, 1, 2, 0, 0, []),
  (105, 106, 6, 0, 0, 0, []),
  (106, 107, 0, 0, 0, 1, []),
  (107, 108, 7, 0, 0, 0, []),
  (108, 111, 3, 2, 0, (-1), []),
  (111, 114, 19, 40, 0, 0, []),
  (114, 115, 0, 0, 0, 0, []),
  (115, 116, 2, 2, 0, 0, []),
  (116, 117, 1, 2, 0, 0, []),
  (117, 118, 27, 0, 0, 0, []),
  (118, 121, 4, 11, 6, 0, []),
  (121, 124, 31, 146, 4, 0, []),
  (124, 125, 27, 0, 0, 0, []),
  (125, 128, 4, 36, 6, 0, []),
  (128, 129, 1, 2, 0, 0, []),
  (129, 130, 6, 0, 0, 0, []),
  (130, 131, 0, 0, 0, 1, []),
  (131, 134, 31, 140, 1, 0, []),
  (134, 135, 27, 0, 0, 0, []),
  (135, 136, 1, 2, 0, 0, []),
  (136, 137, 1, 1, 0, 0, []),
  (137, 140, 36, 130, 3, 6, []),
  (140, 143, 3, 2, 0, 1, []),
  (143, 146, 19, 116, 0, 0, []),
  (146, 147, 27, 0, 0, 0, []),
  (147, 150, 4, 36, 6, 0, []),
  (150, 151, 27, 0, 0, 0, []),
  (151, 154, 4, 11, 6, 0, []),
  (154, 155, 6, 0, 0, 0, []),
  (155, 156, 33, 0, 0, 0, [])]
/-- Mo.settle (II)V -/
def zc_130 : List zm_q := [
  (0, 1, 27, 0, 0, 0, []),
  (1, 4, 4, 2, 6, 0, []),
  (4, 5, 1, 1, 0, 0, []),
  (5, 6, 6, 0, 0, 0, []),
  (6, 7, 0, 0, 0, 2, []),
  (7, 10, 31, 20, 0, 0, []),
  (10, 11, 27, 0, 0, 0, []),
  (11, 14, 4, 2, 6, 0, []),
  (14, 15, 1, 1, 0, 0, []),
  (15, 16, 6, 0, 0, 0, []),
  (16, 17, 0, 0, 0, 3, []),
  (17, 20, 31, 34, 1, 0, []),
  (20, 21, 27, 0, 0, 0, []),
  (21, 24, 4, 36, 6, 0, []),
  (24, 25, 27, 0, 0, 0, []),
  (25, 28, 4, 3, 6, 0, []),
  (28, 29, 1, 1, 0, 0, []),
  (29, 30, 6, 0, 0, 0, []),
  (30, 31, 6, 0, 0, 0, []),
  (31, 34, 19, 35, 0, 0, []),
  (34, 35, 0, 0, 0, 0, []),
  (35, 36, 2, 3, 0, 0, []),
  (36, 37, 27, 0, 0, 0, []),
  (37, 40, 4, 36, 6, 0, []),
  (40, 41, 1, 1, 0, 0, []),
  (41, 42, 27, 0, 0, 0, []),
  (42, 45, 4, 2, 6, 0, []),
  (45, 46, 1, 1, 0, 0, []),
  (46, 47, 6, 0, 0, 0, []),
  (47, 48, 0, 0, 0, 4, []),
  (48, 51, 31, 68, 1, 0, []),
  (51, 52, 27, 0, 0, 0, []),
  (52, 55, 4, 3, 6, 0, []),
  (55, 56, 1, 1, 0, 0, []),
  (56, 57, 6, 0, 0, 0, []),
  (57, 60, 30, 64, 1, 0, []),
  (60, 61, 1, 2, 0, 0, []),
  (61, 64, 19, 117, 0, 0, []),
  (64, 65, 1, 1, 0, 0, []),
  (65, 68, 19, 117, 0, 0, []),
  (68, 69, 27, 0, 0, 0, []),
  (69, 72, 4, 2, 6, 0, []),
  (72, 73, 1, 1, 0, 0, []),
  (73, 74, 6, 0, 0, 0, []),
  (74, 75, 0, 0, 0, 2, []),
  (75, 78, 31, 98, 1, 0, []),
  (78, 79, 27, 0, 0, 0, []),
  (79, 80, 0, 0, 0, 2, []),
  (80, 81, 1, 3, 0, 0, []),
  (81, 82, 27, 0, 0, 0, []),
  (82, 85, 4, 36, 6, 0, []),
  (85, 86, 27, 0, 0, 0, []),
  (86, 89, 4, 4, 6, 0, []),
  (89, 90, 1, 1, 0, 0, []),
  (90, 91, 6, 0, 0, 0, []),
  (91, 92, 6, 0, 0, 0, []),
  (92, 95, 36, 101, 4, 6, []),
  (95, 98, 19, 117, 0, 0, []),
  (98, 99, 27, 0, 0, 0, []),
  (99, 102, 4, 2, 6, 0, []),
  (102, 103, 1, 1, 0, 0, []),
  (103, 104, 6, 0, 0, 0, []),
  (104, 105, 0, 0, 0, 3, []),
  (105, 108, 31, 116, 1, 0, []),
  (108, 109, 27, 0, 0, 0, []),
  (109, 110, 1, 3, 0, 0, []),
  (110, 113, 36, 102, 2, 6, []),
  (113, 116, 19, 117, 0, 0, []),
  (116, 117, 1, 1, 0, 0, []),
  (117, 118, 7, 0, 0, 0, []),
  (118, 119, 34, 0, 0, 0, [])]
/-- Mo.newName ()I -/
def zc_131 : List zm_q := [
  (0, 1, 27, 0, 0, 0, []),
  (1, 2, 0, 0, 0, 4, []),
  (2, 4, 0, 0, 0, 100, []),
  (4, 5, 27, 0, 0, 0, []),
  (5, 8, 4, 1, 6, 0, []),
  (8, 9, 10, 0, 0, 0, []),
  (9, 10, 0, 0, 0, 0, []),
  (10, 11, 0, 0, 0, 0, []),
  (11, 14, 36, 99, 5, 6, []),
  (14, 15, 33, 0, 0, 0, [])]
/-- Mo.addEquation (II)V -/
def zc_132 : List zm_q := [
  (0, 1, 27, 0, 0, 0, []),
  (1, 4, 4, 15, 6, 0, []),
  (4, 5, 27, 0, 0, 0, []),
  (5, 8, 4, 17, 6, 0, []),
  (8, 9, 1, 1, 0, 0, []),
  (9, 10, 7, 0, 0, 0, []),
  (10, 11, 27, 0, 0, 0, []),
  (11, 14, 4, 16, 6, 0, []),
  (14, 15, 27, 0, 0, 0, []),
  (15, 18, 4, 17, 6, 0, []),
  (18, 19, 1, 2, 0, 0, []),
  (19, 20, 7, 0, 0, 0, []),
  (20, 21, 27, 0, 0, 0, []),
  (21, 22, 16, 0, 0, 0, []),
  (22, 25, 4, 17, 6, 0, []),
  (25, 26, 0, 0, 0, 1, []),
  (26, 27, 10, 0, 0, 0, []),
  (27, 30, 5, 17, 6, 0, []),
  (30, 31, 34, 0, 0, 0, [])]
/-- Mo.bind (I)V -/
def zc_133 : List zm_q := [
  (0, 1, 27, 0, 0, 0, []),
  (1, 4, 4, 18, 6, 0, []),
  (4, 5, 27, 0, 0, 0, []),
  (5, 8, 4, 19, 6, 0, []),
  (8, 9, 1, 1, 0, 0, []),
  (9, 10, 7, 0, 0, 0, []),
  (10, 11, 27, 0, 0, 0, []),
  (11, 12, 16, 0, 0, 0, []),
  (12, 15, 4, 19, 6, 0, []),
  (15, 16, 0, 0, 0, 1, []),
  (16, 17, 10, 0, 0, 0, []),
  (17, 20, 5, 19, 6, 0, []),
  (20, 21, 34, 0, 0, 0, [])]
/-- Mo.nextCase (II)V -/
def zc_134 : List zm_q := [
  (0, 1, 0, 0, 0, 0, []),
  (1, 2, 2, 3, 0, 0, []),
  (2, 3, 1, 3, 0, 0, []),
  (3, 6, 30, 169, 1, 0, []),
  (6, 7, 27, 0, 0, 0, []),
  (7, 10, 4, 24, 6, 0, []),
  (10, 11, 1, 1, 0, 0, []),
  (11, 12, 6, 0, 0, 0, []),
  (12, 14, 0, 0, 0, 16, []),
  (14, 17, 31, 169, 4, 0, []),
  (17, 18, 27, 0, 0, 0, []),
  (18, 21, 4, 29, 6, 0, []),
  (21, 24, 30, 169, 1, 0, []),
  (24, 25, 27, 0, 0, 0, []),
  (25, 26, 27, 0, 0, 0, []),
  (26, 29, 4, 25, 6, 0, []),
  (29, 30, 1, 1, 0, 0, []),
  (30, 31, 6, 0, 0, 0, []),
  (31, 34, 5, 19, 6, 0, []),
  (34, 35, 27, 0, 0, 0, []),
  (35, 36, 27, 0, 0, 0, []),
  (36, 39, 4, 26, 6, 0, []),
  (39, 40, 1, 1, 0, 0, []),
  (40, 41, 6, 0, 0, 0, []),
  (41, 44, 5, 17, 6, 0, []),
  (44, 45, 27, 0, 0, 0, []),
  (45, 48, 4, 24, 6, 0, []),
  (48, 49, 1, 1, 0, 0, []),
  (49, 50, 6, 0, 0, 0, []),
  (50, 52, 2, 4, 0, 0, []),
  (52, 53, 27, 0, 0, 0, []),
  (53, 56, 4, 24, 6, 0, []),
  (56, 57, 1, 1, 0, 0, []),
  (57, 58, 17, 0, 0, 0, []),
  (58, 59, 6, 0, 0, 0, []),
  (59, 60, 0, 0, 0, 1, []),
  (60, 61, 10, 0, 0, 0, []),
  (61, 62, 7, 0, 0, 0, []),
  (62, 63, 27, 0, 0, 0, []),
  (63, 65, 1, 4, 0, 0, []),
  (65, 66, 27, 0, 0, 0, []),
  (66, 69, 4, 23, 6, 0, []),
  (69, 70, 1, 1, 0, 0, []),
  (70, 71, 6, 0, 0, 0, []),
  (71, 74, 36, 135, 3, 6, []),
  (74, 75, 2, 3, 0, 0, []),
  (75, 76, 27, 0, 0, 0, []),
  (76, 79, 4, 7, 6, 0, []),
  (79, 80, 1, 2, 0, 0, []),
  (80, 81, 6, 0, 0, 0, []),
  (81, 83, 1, 4, 0, 0, []),
  (83, 85, 0, 0, 0, 11, []),
  (85, 86, 11, 0, 0, 0, []),
  (86, 87, 15, 0, 0, 0, []),
  (87, 88, 0, 0, 0, 1, []),
  (88, 89, 13, 0, 0, 0, []),
  (89, 90, 0, 0, 0, 1, []),
  (90, 93, 31, 97, 1, 0, []),
  (93, 94, 0, 0, 0, 1, []),
  (94, 97, 19, 98, 0, 0, []),
  (97, 98, 0, 0, 0, 0, []),
  (98, 100, 2, 5, 0, 0, []),
  (100, 101, 27, 0, 0, 0, []),
  (101, 102, 27, 0, 0, 0, []),
  (102, 105, 4, 29, 6, 0, []),
  (105, 108, 30, 117, 1, 0, []),
  (108, 109, 1, 3, 0, 0, []),
  (109, 112, 30, 121, 0, 0, []),
  (112, 114, 1, 5, 0, 0, []),
  (114, 117, 30, 121, 1, 0, []),
  (117, 118, 0, 0, 0, 1, []),
  (118, 121, 19, 122, 0, 0, []),
  (121, 122, 0, 0, 0, 0, []),
  (122, 125, 24, 29, 6, 0, []),
  (125, 126, 1, 3, 0, 0, []),
  (126, 129, 30, 166, 0, 0, []),
  (129, 131, 1, 5, 0, 0, []),
  (131, 134, 30, 166, 0, 0, []),
  (134, 135, 27, 0, 0, 0, []),
  (135, 136, 1, 2, 0, 0, []),
  (136, 137, 0, 0, 0, 1, []),
  (137, 138, 27, 0, 0, 0, []),
  (138, 141, 4, 7, 6, 0, []),
  (141, 142, 1, 2, 0, 0, []),
  (142, 143, 6, 0, 0, 0, []),
  (143, 144, 0, 0, 0, 1, []),
  (144, 146, 1, 4, 0, 0, []),
  (146, 148, 0, 0, 0, 11, []),
  (148, 149, 11, 0, 0, 0, []),
  (149, 150, 14, 0, 0, 0, []),
  (150, 151, 0, 0, 0, 1, []),
  (151, 152, 11, 0, 0, 0, []),
  (152, 153, 13, 0, 0, 0, []),
  (153, 156, 35, 105, 1, 0, []),
  (156, 157, 10, 0, 0, 0, []),
  (157, 158, 27, 0, 0, 0, []),
  (158, 161, 4, 21, 6, 0, []),
  (161, 162, 1, 1, 0, 0, []),
  (162, 163, 6, 0, 0, 0, []),
  (163, 166, 36, 127, 4, 6, []),
  (166, 169, 19, 2, 0, 0, []),
  (169, 170, 1, 3, 0, 0, []),
  (170, 173, 30, 180, 1, 0, []),
  (173, 174, 27, 0, 0, 0, []),
  (174, 177, 4, 29, 6, 0, []),
  (177, 180, 30, 181, 0, 0, []),
  (180, 181, 34, 0, 0, 0, []),
  (181, 182, 27, 0, 0, 0, []),
  (182, 183, 27, 0, 0, 0, []),
  (183, 186, 4, 25, 6, 0, []),
  (186, 187, 1, 1, 0, 0, []),
  (187, 188, 6, 0, 0, 0, []),
  (188, 191, 5, 19, 6, 0, []),
  (191, 192, 27, 0, 0, 0, []),
  (192, 193, 27, 0, 0, 0, []),
  (193, 196, 4, 26, 6, 0, []),
  (196, 197, 1, 1, 0, 0, []),
  (197, 198, 6, 0, 0, 0, []),
  (198, 201, 5, 17, 6, 0, []),
  (201, 202, 27, 0, 0, 0, []),
  (202, 203, 27, 0, 0, 0, []),
  (203, 206, 4, 21, 6, 0, []),
  (206, 207, 1, 1, 0, 0, []),
  (207, 208, 6, 0, 0, 0, []),
  (208, 211, 5, 28, 6, 0, []),
  (211, 212, 27, 0, 0, 0, []),
  (212, 213, 16, 0, 0, 0, []),
  (213, 216, 4, 27, 6, 0, []),
  (216, 217, 0, 0, 0, 1, []),
  (217, 218, 11, 0, 0, 0, []),
  (218, 221, 5, 27, 6, 0, []),
  (221, 222, 34, 0, 0, 0, [])]
/-- Mo.caseOf (II)Z -/
def zc_135 : List zm_q := [
  (0, 1, 1, 1, 0, 0, []),
  (1, 3, 0, 0, 0, 15, []),
  (3, 6, 31, 12, 0, 0, []),
  (6, 7, 1, 1, 0, 0, []),
  (7, 9, 0, 0, 0, 16, []),
  (9, 12, 31, 19, 1, 0, []),
  (12, 13, 27, 0, 0, 0, []),
  (13, 16, 36, 131, 1, 6, []),
  (16, 19, 19, 20, 0, 0, []),
  (19, 20, 0, 0, 0, 0, []),
  (20, 21, 2, 3, 0, 0, []),
  (21, 22, 1, 1, 0, 0, []),
  (22, 24, 0, 0, 0, 15, []),
  (24, 27, 31, 34, 1, 0, []),
  (27, 28, 27, 0, 0, 0, []),
  (28, 31, 36, 131, 1, 6, []),
  (31, 34, 19, 35, 0, 0, []),
  (34, 35, 0, 0, 0, 0, []),
  (35, 37, 2, 4, 0, 0, []),
  (37, 38, 1, 1, 0, 0, []),
  (38, 40, 0, 0, 0, 11, []),
  (40, 43, 31, 49, 0, 0, []),
  (43, 44, 1, 1, 0, 0, []),
  (44, 46, 0, 0, 0, 13, []),
  (46, 49, 31, 55, 1, 0, []),
  (49, 50, 27, 0, 0, 0, []),
  (50, 51, 1, 2, 0, 0, []),
  (51, 52, 0, 0, 0, 0, []),
  (52, 55, 36, 132, 3, 6, []),
  (55, 56, 1, 1, 0, 0, []),
  (56, 58, 0, 0, 0, 12, []),
  (58, 61, 31, 67, 1, 0, []),
  (61, 62, 27, 0, 0, 0, []),
  (62, 63, 1, 2, 0, 0, []),
  (63, 64, 0, 0, 0, 1, []),
  (64, 67, 36, 132, 3, 6, []),
  (67, 68, 1, 1, 0, 0, []),
  (68, 70, 0, 0, 0, 15, []),
  (70, 73, 31, 86, 1, 0, []),
  (73, 74, 27, 0, 0, 0, []),
  (74, 75, 1, 2, 0, 0, []),
  (75, 76, 27, 0, 0, 0, []),
  (76, 77, 0, 0, 0, 2, []),
  (77, 78, 1, 3, 0, 0, []),
  (78, 80, 1, 4, 0, 0, []),
  (80, 83, 36, 101, 4, 6, []),
  (83, 86, 36, 132, 3, 6, []),
  (86, 87, 27, 0, 0, 0, []),
  (87, 90, 36, 121, 1, 6, []),
  (90, 93, 30, 95, 1, 0, []),
  (93, 94, 0, 0, 0, 0, []),
  (94, 95, 37, 0, 0, 0, []),
  (95, 96, 1, 1, 0, 0, []),
  (96, 98, 0, 0, 0, 11, []),
  (98, 101, 31, 105, 1, 0, []),
  (101, 102, 0, 0, 0, 0, []),
  (102, 105, 19, 168, 0, 0, []),
  (105, 106, 1, 1, 0, 0, []),
  (106, 108, 0, 0, 0, 12, []),
  (108, 111, 31, 115, 1, 0, []),
  (111, 112, 0, 0, 0, 1, []),
  (112, 115, 19, 168, 0, 0, []),
  (115, 116, 1, 1, 0, 0, []),
  (116, 118, 0, 0, 0, 13, []),
  (118, 121, 31, 129, 1, 0, []),
  (121, 122, 27, 0, 0, 0, []),
  (122, 123, 0, 0, 0, 0, []),
  (123, 126, 36, 102, 2, 6, []),
  (126, 129, 19, 168, 0, 0, []),
  (129, 130, 1, 1, 0, 0, []),
  (130, 132, 0, 0, 0, 14, []),
  (132, 135, 31, 143, 1, 0, []),
  (135, 136, 27, 0, 0, 0, []),
  (136, 137, 0, 0, 0, 1, []),
  (137, 140, 36, 102, 2, 6, []),
  (140, 143, 19, 168, 0, 0, []),
  (143, 144, 1, 1, 0, 0, []),
  (144, 146, 0, 0, 0, 15, []),
  (146, 149, 31, 157, 1, 0, []),
  (149, 150, 27, 0, 0, 0, []),
  (150, 151, 1, 3, 0, 0, []),
  (151, 154, 36, 102, 2, 6, []),
  (154, 157, 19, 168, 0, 0, []),
  (157, 158, 27, 0, 0, 0, []),
  (158, 159, 27, 0, 0, 0, []),
  (159, 160, 0, 0, 0, 2, []),
  (160, 161, 1, 2, 0, 0, []),
  (161, 162, 1, 3, 0, 0, []),
  (162, 165, 36, 101, 4, 6, []),
  (165, 168, 36, 102, 2, 6, []),
  (168, 170, 2, 5, 0, 0, []),
  (170, 171, 27, 0, 0, 0, []),
  (171, 173, 1, 5, 0, 0, []),
  (173, 176, 36, 133, 2, 6, []),
  (176, 177, 1, 1, 0, 0, []),
  (177, 179, 0, 0, 0, 13, []),
  (179, 182, 31, 191, 1, 0, []),
  (182, 183, 27, 0, 0, 0, []),
  (183, 184, 27, 0, 0, 0, []),
  (184, 185, 0, 0, 0, 0, []),
  (185, 188, 36, 102, 2, 6, []),
  (188, 191, 36, 133, 2, 6, []),
  (191, 192, 1, 1, 0, 0, []),
  (192, 194, 0, 0, 0, 15, []),
  (194, 197, 31, 207, 1, 0, []),
  (197, 198, 27, 0, 0, 0, []),
  (198, 199, 27, 0, 0, 0, []),
  (199, 201, 1, 4, 0, 0, []),
  (201, 204, 36, 102, 2, 6, []),
  (204, 207, 36, 133, 2, 6, []),
  (207, 208, 1, 1, 0, 0, []),
  (208, 210, 0, 0, 0, 14, []),
  (210, 213, 31, 231, 1, 0, []),
  (213, 214, 27, 0, 0, 0, []),
  (214, 215, 27, 0, 0, 0, []),
  (215, 216, 1, 2, 0, 0, []),
  (216, 219, 36, 102, 2, 6, []),
  (219, 222, 36, 133, 2, 6, []),
  (222, 223, 27, 0, 0, 0, []),
  (223, 224, 27, 0, 0, 0, []),
  (224, 225, 1, 2, 0, 0, []),
  (225, 228, 36, 102, 2, 6, []),
  (228, 231, 36, 133, 2, 6, []),
  (231, 232, 0, 0, 0, 1, []),
  (232, 233, 37, 0, 0, 0, [])]
/-- Mo.goOn ()V -/
def zc_136 : List zm_q := [
  (0, 1, 27, 0, 0, 0, []),
  (1, 4, 4, 27, 6, 0, []),
  (4, 5, 0, 0, 0, 1, []),
  (5, 6, 11, 0, 0, 0, []),
  (6, 7, 2, 1, 0, 0, []),
  (7, 8, 27, 0, 0, 0, []),
  (8, 11, 4, 20, 6, 0, []),
  (11, 12, 1, 1, 0, 0, []),
  (12, 13, 6, 0, 0, 0, []),
  (13, 14, 2, 2, 0, 0, []),
  (14, 15, 27, 0, 0, 0, []),
  (15, 18, 4, 6, 6, 0, []),
  (18, 19, 1, 2, 0, 0, []),
  (19, 20, 6, 0, 0, 0, []),
  (20, 21, 2, 3, 0, 0, []),
  (21, 22, 27, 0, 0, 0, []),
  (22, 25, 4, 22, 6, 0, []),
  (25, 26, 1, 1, 0, 0, []),
  (26, 27, 6, 0, 0, 0, []),
  (27, 29, 2, 4, 0, 0, []),
  (29, 30, 27, 0, 0, 0, []),
  (30, 33, 4, 22, 6, 0, []),
  (33, 34, 1, 1, 0, 0, []),
  (34, 35, 17, 0, 0, 0, []),
  (35, 36, 6, 0, 0, 0, []),
  (36, 37, 0, 0, 0, 1, []),
  (37, 38, 10, 0, 0, 0, []),
  (38, 39, 7, 0, 0, 0, []),
  (39, 40, 1, 3, 0, 0, []),
  (40, 128, 32, 406, 0, 0, [(0, 128), (1, 136), (2, 144), (3, 191), (4, 203), (5, 215), (6, 406), (7, 406), (8, 406), (9, 406), (10, 277), (11, 310), (12, 337), (13, 364), (14, 384), (15, 406), (16, 406), (17, 395)]),
  (128, 129, 27, 0, 0, 0, []),
  (129, 130, 0, 0, 0, 0, []),
  (130, 133, 36, 126, 2, 6, []),
  (133, 136, 19, 415, 0, 0, []),
  (136, 137, 27, 0, 0, 0, []),
  (137, 138, 0, 0, 0, 1, []),
  (138, 141, 36, 126, 2, 6, []),
  (141, 144, 19, 415, 0, 0, []),
  (144, 145, 27, 0, 0, 0, []),
  (145, 146, 27, 0, 0, 0, []),
  (146, 149, 4, 7, 6, 0, []),
  (149, 150, 1, 2, 0, 0, []),
  (150, 151, 6, 0, 0, 0, []),
  (151, 152, 27, 0, 0, 0, []),
  (152, 155, 4, 19, 6, 0, []),
  (155, 158, 31, 162, 2, 0, []),
  (158, 159, 0, 0, 0, 1, []),
  (159, 162, 19, 163, 0, 0, []),
  (162, 163, 0, 0, 0, 0, []),
  (163, 166, 24, 29, 6, 0, []),
  (166, 167, 27, 0, 0, 0, []),
  (167, 170, 4, 29, 6, 0, []),
  (170, 173, 30, 415, 1, 0, []),
  (173, 174, 27, 0, 0, 0, []),
  (174, 175, 27, 0, 0, 0, []),
  (175, 178, 4, 18, 6, 0, []),
  (178, 179, 27, 0, 0, 0, []),
  (179, 182, 4, 7, 6, 0, []),
  (182, 183, 1, 2, 0, 0, []),
  (183, 184, 6, 0, 0, 0, []),
  (184, 185, 6, 0, 0, 0, []),
  (185, 188, 36, 126, 2, 6, []),
  (188, 191, 19, 415, 0, 0, []),
  (191, 192, 27, 0, 0, 0, []),
  (192, 193, 1, 2, 0, 0, []),
  (193, 195, 1, 4, 0, 0, []),
  (195, 196, 0, 0, 0, 0, []),
  (196, 197, 0, 0, 0, 0, []),
  (197, 200, 36, 137, 5, 6, []),
  (200, 203, 19, 415, 0, 0, []),
  (203, 204, 27, 0, 0, 0, []),
  (204, 205, 1, 2, 0, 0, []),
  (205, 207, 1, 4, 0, 0, []),
  (207, 208, 0, 0, 0, 0, []),
  (208, 209, 0, 0, 0, 1, []),
  (209, 212, 36, 137, 5, 6, []),
  (212, 215, 19, 415, 0, 0, []),
  (215, 216, 27, 0, 0, 0, []),
  (216, 217, 27, 0, 0, 0, []),
  (217, 220, 4, 21, 6, 0, []),
  (220, 221, 1, 1, 0, 0, []),
  (221, 222, 6, 0, 0, 0, []),
  (222, 225, 30, 229, 3, 0, []),
  (225, 226, 0, 0, 0, 1, []),
  (226, 229, 19, 230, 0, 0, []),
  (229, 230, 0, 0, 0, 0, []),
  (230, 233, 24, 29, 6, 0, []),
  (233, 235, 1, 4, 0, 0, []),
  (235, 236, 0, 0, 0, 3, []),
  (236, 239, 31, 264, 3, 0, []),
  (239, 240, 27, 0, 0, 0, []),
  (240, 241, 1, 2, 0, 0, []),
  (241, 243, 1, 4, 0, 0, []),
  (243, 245, 1, 4, 0, 0, []),
  (245, 248, 30, 252, 1, 0, []),
  (248, 249, 0, 0, 0, 1, []),
  (249, 252, 19, 258, 0, 0, []),
  (252, 253, 27, 0, 0, 0, []),
  (253, 256, 4, 21, 6, 0, []),
  (256, 257, 1, 1, 0, 0, []),
  (257, 258, 6, 0, 0, 0, []),
  (258, 261, 36, 127, 4, 6, []),
  (261, 264, 19, 415, 0, 0, []),
  (264, 265, 27, 0, 0, 0, []),
  (265, 266, 27, 0, 0, 0, []),
  (266, 269, 4, 21, 6, 0, []),
  (269, 270, 1, 1, 0, 0, []),
  (270, 271, 6, 0, 0, 0, []),
  (271, 274, 36, 126, 2, 6, []),
  (274, 277, 19, 415, 0, 0, []),
  (277, 279, 1, 4, 0, 0, []),
  (279, 282, 30, 297, 1, 0, []),
  (282, 283, 27, 0, 0, 0, []),
  (283, 284, 1, 2, 0, 0, []),
  (284, 285, 0, 0, 0, 0, []),
  (285, 286, 27, 0, 0, 0, []),
  (286, 289, 4, 7, 6, 0, []),
  (289, 290, 1, 2, 0, 0, []),
  (290, 291, 6, 0, 0, 0, []),
  (291, 294, 36, 127, 4, 6, []),
  (294, 297, 19, 415, 0, 0, []),
  (297, 298, 27, 0, 0, 0, []),
  (298, 299, 27, 0, 0, 0, []),
  (299, 302, 4, 7, 6, 0, []),
  (302, 303, 1, 2, 0, 0, []),
  (303, 304, 6, 0, 0, 0, []),
  (304, 307, 36, 126, 2, 6, []),
  (307, 310, 19, 415, 0, 0, []),
  (310, 312, 1, 4, 0, 0, []),
  (312, 315, 30, 325, 1, 0, []),
  (315, 316, 27, 0, 0, 0, []),
  (316, 317, 1, 2, 0, 0, []),
  (317, 318, 0, 0, 0, 0, []),
  (318, 319, 0, 0, 0, 0, []),
  (319, 322, 36, 127, 4, 6, []),
  (322, 325, 19, 415, 0, 0, []),
  (325, 326, 27, 0, 0, 0, []),
  (326, 327, 27, 0, 0, 0, []),
  (327, 328, 0, 0, 0, 0, []),
  (328, 331, 36, 102, 2, 6, []),
  (331, 334, 36, 126, 2, 6, []),
  (334, 337, 19, 415, 0, 0, []),
  (337, 339, 1, 4, 0, 0, []),
  (339, 342, 30, 352, 1, 0, []),
  (342, 343, 27, 0, 0, 0, []),
  (343, 344, 1, 2, 0, 0, []),
  (344, 345, 0, 0, 0, 0, []),
  (345, 346, 0, 0, 0, 1, []),
  (346, 349, 36, 127, 4, 6, []),
  (349, 352, 19, 415, 0, 0, []),
  (352, 353, 27, 0, 0, 0, []),
  (353, 354, 27, 0, 0, 0, []),
  (354, 355, 0, 0, 0, 1, []),
  (355, 358, 36, 102, 2, 6, []),
  (358, 361, 36, 126, 2, 6, []),
  (361, 364, 19, 415, 0, 0, []),
  (364, 365, 27, 0, 0, 0, []),
  (365, 366, 1, 2, 0, 0, []),
  (366, 368, 1, 4, 0, 0, []),
  (368, 369, 27, 0, 0, 0, []),
  (369, 370, 0, 0, 0, 0, []),
  (370, 373, 36, 102, 2, 6, []),
  (373, 374, 27, 0, 0, 0, []),
  (374, 375, 0, 0, 0, 0, []),
  (375, 378, 36, 102, 2, 6, []),
  (378, 381, 36, 137, 5, 6, []),
  (381, 384, 19, 415, 0, 0, []),
  (384, 385, 27, 0, 0, 0, []),
  (385, 386, 1, 1, 0, 0, []),
  (386, 387, 1, 2, 0, 0, []),
  (387, 389, 1, 4, 0, 0, []),
  (389, 392, 36, 138, 4, 6, []),
  (392, 395, 19, 415, 0, 0, []),
  (395, 396, 27, 0, 0, 0, []),
  (396, 397, 1, 1, 0, 0, []),
  (397, 398, 1, 2, 0, 0, []),
  (398, 400, 1, 4, 0, 0, []),
  (400, 403, 36, 139, 4, 6, []),
  (403, 406, 19, 415, 0, 0, []),
  (406, 407, 27, 0, 0, 0, []),
  (407, 408, 1, 1, 0, 0, []),
  (408, 409, 1, 2, 0, 0, []),
  (409, 410, 1, 3, 0, 0, []),
  (410, 412, 1, 4, 0, 0, []),
  (412, 415, 36, 140, 5, 6, []),
  (415, 416, 34, 0, 0, 0, [])]
/-- Mo.twice (IIII)V -/
def zc_137 : List zm_q := [
  (0, 1, 1, 2, 0, 0, []),
  (1, 2, 0, 0, 0, 2, []),
  (2, 5, 31, 15, 3, 0, []),
  (5, 6, 27, 0, 0, 0, []),
  (6, 7, 1, 1, 0, 0, []),
  (7, 8, 1, 2, 0, 0, []),
  (8, 9, 1, 3, 0, 0, []),
  (9, 12, 36, 127, 4, 6, []),
  (12, 15, 19, 21, 0, 0, []),
  (15, 16, 27, 0, 0, 0, []),
  (16, 18, 1, 4, 0, 0, []),
  (18, 21, 36, 126, 2, 6, []),
  (21, 22, 34, 0, 0, 0, [])]
/-- Mo.when (III)V -/
def zc_138 : List zm_q := [
  (0, 1, 1, 3, 0, 0, []),
  (1, 4, 30, 13, 1, 0, []),
  (4, 5, 27, 0, 0, 0, []),
  (5, 6, 1, 2, 0, 0, []),
  (6, 7, 0, 0, 0, 1, []),
  (7, 10, 36, 128, 3, 6, []),
  (10, 13, 19, 84, 0, 0, []),
  (13, 14, 1, 3, 0, 0, []),
  (14, 15, 0, 0, 0, 1, []),
  (15, 18, 31, 46, 1, 0, []),
  (18, 19, 27, 0, 0, 0, []),
  (19, 22, 4, 23, 6, 0, []),
  (22, 23, 1, 1, 0, 0, []),
  (23, 24, 27, 0, 0, 0, []),
  (24, 25, 27, 0, 0, 0, []),
  (25, 28, 4, 28, 6, 0, []),
  (28, 31, 36, 124, 2, 6, []),
  (31, 32, 7, 0, 0, 0, []),
  (32, 33, 27, 0, 0, 0, []),
  (33, 34, 1, 2, 0, 0, []),
  (34, 35, 0, 0, 0, 0, []),
  (35, 36, 27, 0, 0, 0, []),
  (36, 37, 0, 0, 0, 1, []),
  (37, 40, 36, 102, 2, 6, []),
  (40, 43, 36, 127, 4, 6, []),
  (43, 46, 19, 84, 0, 0, []),
  (46, 47, 1, 3, 0, 0, []),
  (47, 48, 0, 0, 0, 2, []),
  (48, 51, 31, 70, 1, 0, []),
  (51, 52, 27, 0, 0, 0, []),
  (52, 53, 1, 2, 0, 0, []),
  (53, 54, 0, 0, 0, 2, []),
  (54, 55, 27, 0, 0, 0, []),
  (55, 56, 27, 0, 0, 0, []),
  (56, 59, 4, 23, 6, 0, []),
  (59, 60, 1, 1, 0, 0, []),
  (60, 61, 6, 0, 0, 0, []),
  (61, 64, 36, 102, 2, 6, []),
  (64, 67, 36, 127, 4, 6, []),
  (67, 70, 19, 84, 0, 0, []),
  (70, 71, 27, 0, 0, 0, []),
  (71, 72, 27, 0, 0, 0, []),
  (72, 73, 27, 0, 0, 0, []),
  (73, 76, 4, 23, 6, 0, []),
  (76, 77, 1, 1, 0, 0, []),
  (77, 78, 6, 0, 0, 0, []),
  (78, 81, 36, 102, 2, 6, []),
  (81, 84, 36, 126, 2, 6, []),
  (84, 85, 34, 0, 0, 0, [])]
/-- Mo.cases (III)V -/
def zc_139 : List zm_q := [
  (0, 1, 27, 0, 0, 0, []),
  (1, 4, 4, 21, 6, 0, []),
  (4, 5, 1, 1, 0, 0, []),
  (5, 6, 6, 0, 0, 0, []),
  (6, 9, 30, 17, 3, 0, []),
  (9, 10, 27, 0, 0, 0, []),
  (10, 11, 0, 0, 0, 1, []),
  (11, 14, 24, 29, 6, 0, []),
  (14, 17, 19, 70, 0, 0, []),
  (17, 18, 1, 3, 0, 0, []),
  (18, 21, 30, 30, 1, 0, []),
  (21, 22, 27, 0, 0, 0, []),
  (22, 23, 1, 2, 0, 0, []),
  (23, 24, 0, 0, 0, 0, []),
  (24, 27, 36, 128, 3, 6, []),
  (27, 30, 19, 70, 0, 0, []),
  (30, 31, 1, 3, 0, 0, []),
  (31, 32, 0, 0, 0, 1, []),
  (32, 35, 31, 57, 1, 0, []),
  (35, 36, 27, 0, 0, 0, []),
  (36, 39, 4, 23, 6, 0, []),
  (39, 40, 1, 1, 0, 0, []),
  (40, 41, 27, 0, 0, 0, []),
  (41, 42, 27, 0, 0, 0, []),
  (42, 45, 4, 28, 6, 0, []),
  (45, 48, 36, 124, 2, 6, []),
  (48, 49, 7, 0, 0, 0, []),
  (49, 50, 27, 0, 0, 0, []),
  (50, 53, 4, 24, 6, 0, []),
  (53, 54, 1, 1, 0, 0, []),
  (54, 56, 0, 0, 0, 11, []),
  (56, 57, 7, 0, 0, 0, []),
  (57, 58, 27, 0, 0, 0, []),
  (58, 61, 4, 29, 6, 0, []),
  (61, 64, 30, 70, 1, 0, []),
  (64, 65, 27, 0, 0, 0, []),
  (65, 66, 1, 1, 0, 0, []),
  (66, 67, 1, 2, 0, 0, []),
  (67, 70, 36, 134, 3, 6, []),
  (70, 71, 34, 0, 0, 0, [])]
/-- Mo.overFound (IIII)V -/
def zc_140 : List zm_q := [
  (0, 1, 1, 3, 0, 0, []),
  (1, 3, 0, 0, 0, 6, []),
  (3, 6, 31, 12, 0, 0, []),
  (6, 7, 1, 3, 0, 0, []),
  (7, 9, 0, 0, 0, 15, []),
  (9, 12, 31, 16, 1, 0, []),
  (12, 13, 0, 0, 0, 1, []),
  (13, 16, 19, 17, 0, 0, []),
  (16, 17, 0, 0, 0, 0, []),
  (17, 19, 2, 5, 0, 0, []),
  (19, 21, 1, 4, 0, 0, []),
  (21, 24, 30, 33, 1, 0, []),
  (24, 25, 27, 0, 0, 0, []),
  (25, 26, 1, 2, 0, 0, []),
  (26, 27, 0, 0, 0, 0, []),
  (27, 30, 36, 128, 3, 6, []),
  (30, 33, 19, 295, 0, 0, []),
  (33, 35, 1, 4, 0, 0, []),
  (35, 36, 0, 0, 0, 1, []),
  (36, 39, 31, 87, 1, 0, []),
  (39, 41, 1, 5, 0, 0, []),
  (41, 44, 30, 87, 0, 0, []),
  (44, 45, 27, 0, 0, 0, []),
  (45, 48, 4, 23, 6, 0, []),
  (48, 49, 1, 1, 0, 0, []),
  (49, 50, 1, 3, 0, 0, []),
  (50, 52, 0, 0, 0, 15, []),
  (52, 55, 31, 66, 1, 0, []),
  (55, 56, 27, 0, 0, 0, []),
  (56, 57, 27, 0, 0, 0, []),
  (57, 60, 4, 28, 6, 0, []),
  (60, 63, 36, 124, 2, 6, []),
  (63, 66, 19, 70, 0, 0, []),
  (66, 67, 27, 0, 0, 0, []),
  (67, 70, 4, 28, 6, 0, []),
  (70, 71, 7, 0, 0, 0, []),
  (71, 72, 27, 0, 0, 0, []),
  (72, 75, 4, 29, 6, 0, []),
  (75, 78, 30, 295, 1, 0, []),
  (78, 79, 27, 0, 0, 0, []),
  (79, 80, 1, 2, 0, 0, []),
  (80, 81, 0, 0, 0, 1, []),
  (81, 84, 36, 128, 3, 6, []),
  (84, 87, 19, 295, 0, 0, []),
  (87, 88, 1, 3, 0, 0, []),
  (88, 90, 0, 0, 0, 6, []),
  (90, 93, 31, 115, 1, 0, []),
  (93, 94, 27, 0, 0, 0, []),
  (94, 95, 27, 0, 0, 0, []),
  (95, 96, 0, 0, 0, 2, []),
  (96, 97, 27, 0, 0, 0, []),
  (97, 100, 4, 23, 6, 0, []),
  (100, 101, 1, 1, 0, 0, []),
  (101, 102, 6, 0, 0, 0, []),
  (102, 103, 27, 0, 0, 0, []),
  (103, 106, 4, 28, 6, 0, []),
  (106, 109, 36, 101, 4, 6, []),
  (109, 112, 36, 126, 2, 6, []),
  (112, 115, 19, 295, 0, 0, []),
  (115, 116, 1, 3, 0, 0, []),
  (116, 118, 0, 0, 0, 15, []),
  (118, 121, 31, 162, 1, 0, []),
  (121, 122, 27, 0, 0, 0, []),
  (122, 123, 27, 0, 0, 0, []),
  (123, 126, 4, 28, 6, 0, []),
  (126, 129, 36, 124, 2, 6, []),
  (129, 131, 2, 6, 0, 0, []),
  (131, 132, 27, 0, 0, 0, []),
  (132, 135, 4, 29, 6, 0, []),
  (135, 138, 30, 159, 1, 0, []),
  (138, 139, 27, 0, 0, 0, []),
  (139, 140, 27, 0, 0, 0, []),
  (140, 141, 27, 0, 0, 0, []),
  (141, 142, 0, 0, 0, 2, []),
  (142, 143, 27, 0, 0, 0, []),
  (143, 146, 4, 23, 6, 0, []),
  (146, 147, 1, 1, 0, 0, []),
  (147, 148, 6, 0, 0, 0, []),
  (148, 150, 1, 6, 0, 0, []),
  (150, 153, 36, 101, 4, 6, []),
  (153, 156, 36, 102, 2, 6, []),
  (156, 159, 36, 126, 2, 6, []),
  (159, 162, 19, 295, 0, 0, []),
  (162, 163, 1, 3, 0, 0, []),
  (163, 165, 0, 0, 0, 9, []),
  (165, 168, 31, 198, 1, 0, []),
  (168, 169, 27, 0, 0, 0, []),
  (169, 170, 27, 0, 0, 0, []),
  (170, 173, 4, 28, 6, 0, []),
  (173, 176, 36, 124, 2, 6, []),
  (176, 178, 2, 6, 0, 0, []),
  (178, 179, 27, 0, 0, 0, []),
  (179, 182, 4, 29, 6, 0, []),
  (182, 185, 30, 195, 1, 0, []),
  (185, 186, 27, 0, 0, 0, []),
  (186, 187, 27, 0, 0, 0, []),
  (187, 189, 1, 6, 0, 0, []),
  (189, 192, 36, 129, 2, 6, []),
  (192, 195, 36, 126, 2, 6, []),
  (195, 198, 19, 295, 0, 0, []),
  (198, 199, 1, 3, 0, 0, []),
  (199, 201, 0, 0, 0, 16, []),
  (201, 204, 31, 215, 1, 0, []),
  (204, 205, 27, 0, 0, 0, []),
  (205, 206, 27, 0, 0, 0, []),
  (206, 209, 4, 28, 6, 0, []),
  (209, 212, 36, 124, 2, 6, []),
  (212, 215, 19, 219, 0, 0, []),
  (215, 216, 27, 0, 0, 0, []),
  (216, 219, 4, 28, 6, 0, []),
  (219, 221, 2, 6, 0, 0, []),
  (221, 222, 27, 0, 0, 0, []),
  (222, 225, 4, 29, 6, 0, []),
  (225, 228, 30, 232, 0, 0, []),
  (228, 229, 0, 0, 0, 0, []),
  (229, 232, 19, 239, 0, 0, []),
  (232, 233, 27, 0, 0, 0, []),
  (233, 235, 1, 6, 0, 0, []),
  (235, 236, 0, 0, 0, 2, []),
  (236, 239, 36, 123, 3, 6, []),
  (239, 241, 2, 7, 0, 0, []),
  (241, 242, 27, 0, 0, 0, []),
  (242, 245, 4, 29, 6, 0, []),
  (245, 248, 30, 295, 1, 0, []),
  (248, 249, 27, 0, 0, 0, []),
  (249, 250, 1, 3, 0, 0, []),
  (250, 252, 0, 0, 0, 7, []),
  (252, 255, 31, 265, 1, 0, []),
  (255, 256, 27, 0, 0, 0, []),
  (256, 259, 4, 3, 6, 0, []),
  (259, 261, 1, 7, 0, 0, []),
  (261, 262, 6, 0, 0, 0, []),
  (262, 265, 19, 292, 0, 0, []),
  (265, 266, 1, 3, 0, 0, []),
  (266, 268, 0, 0, 0, 8, []),
  (268, 271, 31, 281, 1, 0, []),
  (271, 272, 27, 0, 0, 0, []),
  (272, 275, 4, 4, 6, 0, []),
  (275, 277, 1, 7, 0, 0, []),
  (277, 278, 6, 0, 0, 0, []),
  (278, 281, 19, 292, 0, 0, []),
  (281, 282, 27, 0, 0, 0, []),
  (282, 283, 27, 0, 0, 0, []),
  (283, 286, 4, 3, 6, 0, []),
  (286, 288, 1, 7, 0, 0, []),
  (288, 289, 6, 0, 0, 0, []),
  (289, 292, 36, 102, 2, 6, []),
  (292, 295, 36, 126, 2, 6, []),
  (295, 296, 34, 0, 0, 0, [])]
/-- Mo.isTyped (II)Z -/
def zc_141 : List zm_q := [
  (0, 1, 27, 0, 0, 0, []),
  (1, 2, 27, 0, 0, 0, []),
  (2, 5, 4, 0, 6, 0, []),
  (5, 8, 5, 1, 6, 0, []),
  (8, 9, 27, 0, 0, 0, []),
  (9, 10, 27, 0, 0, 0, []),
  (10, 11, 0, 0, 0, 4, []),
  (11, 12, 0, 0, 0, 0, []),
  (12, 13, 0, 0, 0, 0, []),
  (13, 16, 36, 101, 4, 6, []),
  (16, 19, 36, 102, 2, 6, []),
  (19, 20, 2, 3, 0, 0, []),
  (20, 21, 27, 0, 0, 0, []),
  (21, 22, 0, 0, 0, 0, []),
  (22, 25, 5, 17, 6, 0, []),
  (25, 26, 27, 0, 0, 0, []),
  (26, 27, 0, 0, 0, 0, []),
  (27, 30, 5, 19, 6, 0, []),
  (30, 31, 27, 0, 0, 0, []),
  (31, 32, 0, 0, 0, 0, []),
  (32, 35, 5, 27, 6, 0, []),
  (35, 36, 27, 0, 0, 0, []),
  (36, 37, 0, 0, 0, 0, []),
  (37, 40, 24, 29, 6, 0, []),
  (40, 41, 1, 1, 0, 0, []),
  (41, 43, 0, 0, 0, 12, []),
  (43, 46, 31, 51, 1, 0, []),
  (46, 47, 27, 0, 0, 0, []),
  (47, 48, 1, 3, 0, 0, []),
  (48, 51, 36, 133, 2, 6, []),
  (51, 52, 27, 0, 0, 0, []),
  (52, 54, 0, 0, 0, 40, []),
  (54, 55, 1, 1, 0, 0, []),
  (55, 56, 12, 0, 0, 0, []),
  (56, 57, 1, 2, 0, 0, []),
  (57, 60, 36, 125, 3, 6, []),
  (60, 61, 27, 0, 0, 0, []),
  (61, 64, 4, 27, 6, 0, []),
  (64, 67, 30, 81, 5, 0, []),
  (67, 68, 27, 0, 0, 0, []),
  (68, 71, 4, 29, 6, 0, []),
  (71, 74, 30, 81, 1, 0, []),
  (74, 75, 27, 0, 0, 0, []),
  (75, 78, 36, 136, 1, 6, []),
  (78, 81, 19, 60, 0, 0, []),
  (81, 82, 27, 0, 0, 0, []),
  (82, 85, 4, 29, 6, 0, []),
  (85, 88, 30, 92, 1, 0, []),
  (88, 89, 0, 0, 0, 1, []),
  (89, 92, 19, 93, 0, 0, []),
  (92, 93, 0, 0, 0, 0, []),
  (93, 94, 37, 0, 0, 0, [])]
/-- Mo.check ()I -/
def zc_142 : List zm_q := [
  (0, 1, 27, 0, 0, 0, []),
  (1, 3, 0, 0, 0, 12, []),
  (3, 4, 27, 0, 0, 0, []),
  (4, 7, 4, 11, 6, 0, []),
  (7, 10, 36, 141, 3, 6, []),
  (10, 13, 30, 15, 1, 0, []),
  (13, 14, 0, 0, 0, 1, []),
  (14, 15, 33, 0, 0, 0, []),
  (15, 16, 27, 0, 0, 0, []),
  (16, 18, 0, 0, 0, 13, []),
  (18, 19, 27, 0, 0, 0, []),
  (19, 22, 4, 12, 6, 0, []),
  (22, 25, 36, 141, 3, 6, []),
  (25, 28, 30, 32, 0, 0, []),
  (28, 29, 0, 0, 0, 0, []),
  (29, 32, 19, 33, 0, 0, []),
  (32, 33, 0, 0, 0, 2, []),
  (33, 34, 33, 0, 0, 0, [])]
/-- Mo.newValue (IIIII)I -/
def zc_143 : List zm_q := [
  (0, 1, 27, 0, 0, 0, []),
  (1, 4, 4, 38, 6, 0, []),
  (4, 5, 27, 0, 0, 0, []),
  (5, 8, 4, 37, 6, 0, []),
  (8, 9, 1, 1, 0, 0, []),
  (9, 10, 7, 0, 0, 0, []),
  (10, 11, 27, 0, 0, 0, []),
  (11, 14, 4, 39, 6, 0, []),
  (14, 15, 27, 0, 0, 0, []),
  (15, 18, 4, 37, 6, 0, []),
  (18, 19, 1, 2, 0, 0, []),
  (19, 20, 7, 0, 0, 0, []),
  (20, 21, 27, 0, 0, 0, []),
  (21, 24, 4, 40, 6, 0, []),
  (24, 25, 0, 0, 0, 3, []),
  (25, 26, 27, 0, 0, 0, []),
  (26, 29, 4, 37, 6, 0, []),
  (29, 30, 12, 0, 0, 0, []),
  (30, 31, 1, 3, 0, 0, []),
  (31, 32, 7, 0, 0, 0, []),
  (32, 33, 27, 0, 0, 0, []),
  (33, 36, 4, 40, 6, 0, []),
  (36, 37, 0, 0, 0, 3, []),
  (37, 38, 27, 0, 0, 0, []),
  (38, 41, 4, 37, 6, 0, []),
  (41, 42, 12, 0, 0, 0, []),
  (42, 43, 0, 0, 0, 1, []),
  (43, 44, 10, 0, 0, 0, []),
  (44, 46, 1, 4, 0, 0, []),
  (46, 47, 7, 0, 0, 0, []),
  (47, 48, 27, 0, 0, 0, []),
  (48, 51, 4, 40, 6, 0, []),
  (51, 52, 0, 0, 0, 3, []),
  (52, 53, 27, 0, 0, 0, []),
  (53, 56, 4, 37, 6, 0, []),
  (56, 57, 12, 0, 0, 0, []),
  (57, 58, 0, 0, 0, 2, []),
  (58, 59, 10, 0, 0, 0, []),
  (59, 61, 1, 5, 0, 0, []),
  (61, 62, 7, 0, 0, 0, []),
  (62, 63, 27, 0, 0, 0, []),
  (63, 64, 16, 0, 0, 0, []),
  (64, 67, 4, 37, 6, 0, []),
  (67, 68, 0, 0, 0, 1, []),
  (68, 69, 10, 0, 0, 0, []),
  (69, 72, 5, 37, 6, 0, []),
  (72, 73, 27, 0, 0, 0, []),
  (73, 76, 4, 37, 6, 0, []),
  (76, 77, 0, 0, 0, 1, []),
  (77, 78, 11, 0, 0, 0, []),
  (78, 79, 33, 0, 0, 0, [])]
/-- Mo.truth (Z)I -/
def zc_144 : List zm_q := [
  (0, 1, 27, 0, 0, 0, []),
  (1, 2, 1, 1, 0, 0, []),
  (2, 5, 30, 11, 0, 0, []),
  (5, 8, 0, 0, 0, 1001, []),
  (8, 11, 19, 14, 0, 0, []),
  (11, 14, 0, 0, 0, 1002, []),
  (14, 15, 0, 0, 0, 0, []),
  (15, 16, 0, 0, 0, (-1), []),
  (16, 17, 0, 0, 0, (-1), []),
  (17, 18, 0, 0, 0, (-1), []),
  (18, 21, 36, 143, 6, 6, []),
  (21, 22, 33, 0, 0, 0, [])]
/-- Mo.start (I)V -/
def zc_145 : List zm_q := [
  (0, 1, 27, 0, 0, 0, []),
  (1, 4, 4, 43, 6, 0, []),
  (4, 7, 0, 0, 0, 600, []),
  (7, 10, 31, 16, 1, 0, []),
  (10, 11, 27, 0, 0, 0, []),
  (11, 12, 0, 0, 0, 1, []),
  (12, 15, 24, 55, 6, 0, []),
  (15, 16, 34, 0, 0, 0, []),
  (16, 17, 27, 0, 0, 0, []),
  (17, 18, 16, 0, 0, 0, []),
  (18, 21, 4, 43, 6, 0, []),
  (21, 22, 0, 0, 0, 1, []),
  (22, 23, 10, 0, 0, 0, []),
  (23, 26, 5, 43, 6, 0, []),
  (26, 27, 27, 0, 0, 0, []),
  (27, 30, 4, 45, 6, 0, []),
  (30, 31, 27, 0, 0, 0, []),
  (31, 34, 4, 27, 6, 0, []),
  (34, 35, 1, 1, 0, 0, []),
  (35, 36, 7, 0, 0, 0, []),
  (36, 37, 27, 0, 0, 0, []),
  (37, 40, 4, 44, 6, 0, []),
  (40, 41, 27, 0, 0, 0, []),
  (41, 44, 4, 27, 6, 0, []),
  (44, 45, 0, 0, 0, 0, []),
  (45, 46, 7, 0, 0, 0, []),
  (46, 47, 27, 0, 0, 0, []),
  (47, 50, 4, 46, 6, 0, []),
  (50, 51, 27, 0, 0, 0, []),
  (51, 54, 4, 27, 6, 0, []),
  (54, 55, 27, 0, 0, 0, []),
  (55, 58, 4, 50, 6, 0, []),
  (58, 59, 7, 0, 0, 0, []),
  (59, 60, 27, 0, 0, 0, []),
  (60, 63, 4, 47, 6, 0, []),
  (63, 64, 27, 0, 0, 0, []),
  (64, 67, 4, 27, 6, 0, []),
  (67, 68, 27, 0, 0, 0, []),
  (68, 71, 4, 51, 6, 0, []),
  (71, 72, 7, 0, 0, 0, []),
  (72, 73, 27, 0, 0, 0, []),
  (73, 74, 16, 0, 0, 0, []),
  (74, 77, 4, 27, 6, 0, []),
  (77, 78, 0, 0, 0, 1, []),
  (78, 79, 10, 0, 0, 0, []),
  (79, 82, 5, 27, 6, 0, []),
  (82, 83, 34, 0, 0, 0, [])]
/-- Mo.give (I)V -/
def zc_146 : List zm_q := [
  (0, 1, 27, 0, 0, 0, []),
  (1, 2, 16, 0, 0, 0, []),
  (2, 5, 4, 27, 6, 0, []),
  (5, 6, 0, 0, 0, 1, []),
  (6, 7, 11, 0, 0, 0, []),
  (7, 10, 5, 27, 6, 0, []),
  (10, 11, 27, 0, 0, 0, []),
  (11, 12, 27, 0, 0, 0, []),
  (12, 15, 4, 46, 6, 0, []),
  (15, 16, 27, 0, 0, 0, []),
  (16, 19, 4, 27, 6, 0, []),
  (19, 20, 6, 0, 0, 0, []),
  (20, 23, 5, 50, 6, 0, []),
  (23, 24, 27, 0, 0, 0, []),
  (24, 25, 27, 0, 0, 0, []),
  (25, 28, 4, 47, 6, 0, []),
  (28, 29, 27, 0, 0, 0, []),
  (29, 32, 4, 27, 6, 0, []),
  (32, 33, 6, 0, 0, 0, []),
  (33, 36, 5, 51, 6, 0, []),
  (36, 37, 27, 0, 0, 0, []),
  (37, 38, 1, 1, 0, 0, []),
  (38, 41, 5, 53, 6, 0, []),
  (41, 42, 34, 0, 0, 0, [])]
/-- Mo.isMade (I)Z -/
def zc_147 : List zm_q := [
  (0, 1, 1, 0, 0, 0, []),
  (1, 4, 0, 0, 0, 1010, []),
  (4, 7, 31, 11, 5, 0, []),
  (7, 8, 0, 0, 0, 1, []),
  (8, 11, 19, 12, 0, 0, []),
  (11, 12, 0, 0, 0, 0, []),
  (12, 13, 37, 0, 0, 0, [])]
/-- Mo.suits (II)Z -/
def zc_148 : List zm_q := [
  (0, 1, 27, 0, 0, 0, []),
  (1, 4, 4, 38, 6, 0, []),
  (4, 5, 27, 0, 0, 0, []),
  (5, 8, 4, 53, 6, 0, []),
  (8, 9, 6, 0, 0, 0, []),
  (9, 10, 2, 3, 0, 0, []),
  (10, 11, 1, 1, 0, 0, []),
  (11, 64, 32, 180, 0, 0, [(3, 64), (4, 77), (5, 103), (6, 174), (7, 148), (8, 161), (9, 176), (10, 178), (11, 90), (12, 128)]),
  (64, 65, 1, 3, 0, 0, []),
  (65, 68, 0, 0, 0, 1000, []),
  (68, 71, 31, 75, 1, 0, []),
  (71, 72, 0, 0, 0, 1, []),
  (72, 75, 19, 76, 0, 0, []),
  (75, 76, 0, 0, 0, 0, []),
  (76, 77, 37, 0, 0, 0, []),
  (77, 78, 1, 3, 0, 0, []),
  (78, 81, 0, 0, 0, 1000, []),
  (81, 84, 31, 88, 1, 0, []),
  (84, 85, 0, 0, 0, 1, []),
  (85, 88, 19, 89, 0, 0, []),
  (88, 89, 0, 0, 0, 0, []),
  (89, 90, 37, 0, 0, 0, []),
  (90, 91, 1, 3, 0, 0, []),
  (91, 94, 0, 0, 0, 1000, []),
  (94, 97, 31, 101, 1, 0, []),
  (97, 98, 0, 0, 0, 1, []),
  (98, 101, 19, 102, 0, 0, []),
  (101, 102, 0, 0, 0, 0, []),
  (102, 103, 37, 0, 0, 0, []),
  (103, 104, 1, 2, 0, 0, []),
  (104, 105, 0, 0, 0, 1, []),
  (105, 108, 31, 122, 4, 0, []),
  (108, 109, 1, 3, 0, 0, []),
  (109, 112, 0, 0, 0, 1001, []),
  (112, 115, 31, 122, 0, 0, []),
  (115, 116, 1, 3, 0, 0, []),
  (116, 119, 0, 0, 0, 1002, []),
  (119, 122, 31, 126, 1, 0, []),
  (122, 123, 0, 0, 0, 1, []),
  (123, 126, 19, 127, 0, 0, []),
  (126, 127, 0, 0, 0, 0, []),
  (127, 128, 37, 0, 0, 0, []),
  (128, 129, 1, 3, 0, 0, []),
  (129, 132, 0, 0, 0, 1001, []),
  (132, 135, 31, 142, 0, 0, []),
  (135, 136, 1, 3, 0, 0, []),
  (136, 139, 0, 0, 0, 1002, []),
  (139, 142, 31, 146, 1, 0, []),
  (142, 143, 0, 0, 0, 1, []),
  (143, 146, 19, 147, 0, 0, []),
  (146, 147, 0, 0, 0, 0, []),
  (147, 148, 37, 0, 0, 0, []),
  (148, 149, 1, 3, 0, 0, []),
  (149, 152, 0, 0, 0, 1003, []),
  (152, 155, 31, 159, 1, 0, []),
  (155, 156, 0, 0, 0, 1, []),
  (156, 159, 19, 160, 0, 0, []),
  (159, 160, 0, 0, 0, 0, []),
  (160, 161, 37, 0, 0, 0, []),
  (161, 162, 1, 3, 0, 0, []),
  (162, 165, 0, 0, 0, 1003, []),
  (165, 168, 31, 172, 1, 0, []),
  (168, 169, 0, 0, 0, 1, []),
  (169, 172, 19, 173, 0, 0, []),
  (172, 173, 0, 0, 0, 0, []),
  (173, 174, 37, 0, 0, 0, []),
  (174, 175, 0, 0, 0, 1, []),
  (175, 176, 37, 0, 0, 0, []),
  (176, 177, 0, 0, 0, 1, []),
  (177, 178, 37, 0, 0, 0, []),
  (178, 179, 0, 0, 0, 1, []),
  (179, 180, 37, 0, 0, 0, []),
  (180, 181, 1, 3, 0, 0, []),
  (181, 184, 35, 147, 1, 0, []),
  (184, 187, 30, 198, 1, 0, []),
  (187, 188, 1, 1, 0, 0, []),
  (188, 190, 0, 0, 0, 17, []),
  (190, 193, 31, 202, 1, 0, []),
  (193, 194, 1, 2, 0, 0, []),
  (194, 195, 0, 0, 0, 1, []),
  (195, 198, 31, 202, 5, 0, []),
  (198, 199, 0, 0, 0, 1, []),
  (199, 202, 19, 203, 0, 0, []),
  (202, 203, 0, 0, 0, 0, []),
  (203, 204, 37, 0, 0, 0, [])]
/-- Mo.evaluateOne ()V -/
def zc_149 : List zm_q := [
  (0, 1, 27, 0, 0, 0, []),
  (1, 4, 4, 27, 6, 0, []),
  (4, 5, 0, 0, 0, 1, []),
  (5, 6, 11, 0, 0, 0, []),
  (6, 7, 2, 1, 0, 0, []),
  (7, 8, 27, 0, 0, 0, []),
  (8, 11, 4, 45, 6, 0, []),
  (11, 12, 1, 1, 0, 0, []),
  (12, 13, 6, 0, 0, 0, []),
  (13, 14, 2, 2, 0, 0, []),
  (14, 15, 27, 0, 0, 0, []),
  (15, 18, 4, 6, 6, 0, []),
  (18, 19, 1, 2, 0, 0, []),
  (19, 20, 6, 0, 0, 0, []),
  (20, 21, 2, 3, 0, 0, []),
  (21, 22, 27, 0, 0, 0, []),
  (22, 25, 4, 44, 6, 0, []),
  (25, 26, 1, 1, 0, 0, []),
  (26, 27, 6, 0, 0, 0, []),
  (27, 29, 2, 4, 0, 0, []),
  (29, 30, 27, 0, 0, 0, []),
  (30, 33, 4, 44, 6, 0, []),
  (33, 34, 1, 1, 0, 0, []),
  (34, 35, 17, 0, 0, 0, []),
  (35, 36, 6, 0, 0, 0, []),
  (36, 37, 0, 0, 0, 1, []),
  (37, 38, 10, 0, 0, 0, []),
  (38, 39, 7, 0, 0, 0, []),
  (39, 41, 1, 4, 0, 0, []),
  (41, 44, 30, 60, 5, 0, []),
  (44, 45, 27, 0, 0, 0, []),
  (45, 46, 1, 3, 0, 0, []),
  (46, 48, 1, 4, 0, 0, []),
  (48, 51, 36, 148, 3, 6, []),
  (51, 54, 30, 60, 1, 0, []),
  (54, 55, 27, 0, 0, 0, []),
  (55, 56, 0, 0, 0, 1, []),
  (56, 59, 24, 54, 6, 0, []),
  (59, 60, 34, 0, 0, 0, []),
  (60, 62, 1, 4, 0, 0, []),
  (62, 65, 30, 88, 5, 0, []),
  (65, 67, 1, 4, 0, 0, []),
  (67, 68, 0, 0, 0, 4, []),
  (68, 71, 31, 88, 3, 0, []),
  (71, 72, 27, 0, 0, 0, []),
  (72, 75, 4, 48, 6, 0, []),
  (75, 76, 0, 0, 0, 3, []),
  (76, 77, 1, 1, 0, 0, []),
  (77, 78, 12, 0, 0, 0, []),
  (78, 80, 1, 4, 0, 0, []),
  (80, 81, 10, 0, 0, 0, []),
  (81, 82, 0, 0, 0, 1, []),
  (82, 83, 11, 0, 0, 0, []),
  (83, 84, 27, 0, 0, 0, []),
  (84, 87, 4, 53, 6, 0, []),
  (87, 88, 7, 0, 0, 0, []),
  (88, 89, 1, 3, 0, 0, []),
  (89, 90, 0, 0, 0, 3, []),
  (90, 93, 31, 102, 3, 0, []),
  (93, 94, 27, 0, 0, 0, []),
  (94, 95, 1, 2, 0, 0, []),
  (95, 96, 1, 3, 0, 0, []),
  (96, 99, 36, 150, 3, 6, []),
  (99, 102, 19, 185, 0, 0, []),
  (102, 103, 1, 3, 0, 0, []),
  (103, 104, 0, 0, 0, 5, []),
  (104, 107, 31, 118, 1, 0, []),
  (107, 108, 27, 0, 0, 0, []),
  (108, 109, 1, 1, 0, 0, []),
  (109, 110, 1, 2, 0, 0, []),
  (110, 112, 1, 4, 0, 0, []),
  (112, 115, 36, 151, 4, 6, []),
  (115, 118, 19, 185, 0, 0, []),
  (118, 119, 1, 3, 0, 0, []),
  (119, 121, 0, 0, 0, 9, []),
  (121, 124, 31, 134, 1, 0, []),
  (124, 125, 27, 0, 0, 0, []),
  (125, 126, 1, 2, 0, 0, []),
  (126, 128, 1, 4, 0, 0, []),
  (128, 131, 36, 152, 3, 6, []),
  (131, 134, 19, 185, 0, 0, []),
  (134, 135, 1, 3, 0, 0, []),
  (135, 137, 0, 0, 0, 17, []),
  (137, 140, 31, 150, 1, 0, []),
  (140, 141, 27, 0, 0, 0, []),
  (141, 142, 1, 2, 0, 0, []),
  (142, 144, 1, 4, 0, 0, []),
  (144, 147, 36, 153, 3, 6, []),
  (147, 150, 19, 185, 0, 0, []),
  (150, 152, 1, 4, 0, 0, []),
  (152, 153, 1, 3, 0, 0, []),
  (153, 154, 27, 0, 0, 0, []),
  (154, 157, 4, 7, 6, 0, []),
  (157, 158, 1, 2, 0, 0, []),
  (158, 159, 6, 0, 0, 0, []),
  (159, 162, 35, 106, 2, 0, []),
  (162, 165, 31, 179, 3, 0, []),
  (165, 166, 27, 0, 0, 0, []),
  (166, 167, 27, 0, 0, 0, []),
  (167, 168, 1, 2, 0, 0, []),
  (168, 170, 1, 4, 0, 0, []),
  (170, 173, 36, 115, 3, 6, []),
  (173, 176, 36, 145, 2, 6, []),
  (176, 179, 19, 185, 0, 0, []),
  (179, 180, 27, 0, 0, 0, []),
  (180, 181, 1, 1, 0, 0, []),
  (181, 182, 1, 3, 0, 0, []),
  (182, 185, 36, 154, 3, 6, []),
  (185, 186, 34, 0, 0, 0, [])]
/-- Mo.simple (II)V -/
def zc_150 : List zm_q := [
  (0, 1, 1, 2, 0, 0, []),
  (1, 2, 0, 0, 0, 2, []),
  (2, 5, 31, 31, 1, 0, []),
  (5, 6, 27, 0, 0, 0, []),
  (6, 9, 4, 7, 6, 0, []),
  (9, 10, 1, 1, 0, 0, []),
  (10, 11, 6, 0, 0, 0, []),
  (11, 12, 27, 0, 0, 0, []),
  (12, 15, 4, 51, 6, 0, []),
  (15, 16, 27, 0, 0, 0, []),
  (16, 19, 4, 50, 6, 0, []),
  (19, 20, 11, 0, 0, 0, []),
  (20, 23, 31, 31, 2, 0, []),
  (23, 24, 27, 0, 0, 0, []),
  (24, 25, 0, 0, 0, 1, []),
  (25, 28, 24, 54, 6, 0, []),
  (28, 31, 19, 101, 0, 0, []),
  (31, 32, 27, 0, 0, 0, []),
  (32, 33, 1, 2, 0, 0, []),
  (33, 36, 30, 55, 1, 0, []),
  (36, 37, 27, 0, 0, 0, []),
  (37, 40, 0, 0, 0, 1000, []),
  (40, 41, 27, 0, 0, 0, []),
  (41, 44, 4, 7, 6, 0, []),
  (44, 45, 1, 1, 0, 0, []),
  (45, 46, 6, 0, 0, 0, []),
  (46, 47, 0, 0, 0, (-1), []),
  (47, 48, 0, 0, 0, (-1), []),
  (48, 49, 0, 0, 0, (-1), []),
  (49, 52, 36, 143, 6, 6, []),
  (52, 55, 19, 98, 0, 0, []),
  (55, 56, 1, 2, 0, 0, []),
  (56, 57, 0, 0, 0, 1, []),
  (57, 60, 31, 82, 1, 0, []),
  (60, 61, 27, 0, 0, 0, []),
  (61, 62, 27, 0, 0, 0, []),
  (62, 65, 4, 7, 6, 0, []),
  (65, 66, 1, 1, 0, 0, []),
  (66, 67, 6, 0, 0, 0, []),
  (67, 68, 0, 0, 0, 1, []),
  (68, 71, 31, 75, 1, 0, []),
  (71, 72, 0, 0, 0, 1, []),
  (72, 75, 19, 76, 0, 0, []),
  (75, 76, 0, 0, 0, 0, []),
  (76, 79, 36, 144, 2, 6, []),
  (79, 82, 19, 98, 0, 0, []),
  (82, 83, 27, 0, 0, 0, []),
  (83, 86, 4, 49, 6, 0, []),
  (86, 87, 27, 0, 0, 0, []),
  (87, 90, 4, 50, 6, 0, []),
  (90, 91, 27, 0, 0, 0, []),
  (91, 94, 4, 7, 6, 0, []),
  (94, 95, 1, 1, 0, 0, []),
  (95, 96, 6, 0, 0, 0, []),
  (96, 97, 10, 0, 0, 0, []),
  (97, 98, 6, 0, 0, 0, []),
  (98, 101, 36, 146, 2, 6, []),
  (101, 102, 34, 0, 0, 0, [])]
/-- Mo.branch (III)V -/
def zc_151 : List zm_q := [
  (0, 1, 1, 3, 0, 0, []),
  (1, 4, 30, 17, 1, 0, []),
  (4, 5, 27, 0, 0, 0, []),
  (5, 6, 27, 0, 0, 0, []),
  (6, 7, 1, 2, 0, 0, []),
  (7, 8, 0, 0, 0, 0, []),
  (8, 11, 36, 115, 3, 6, []),
  (11, 14, 36, 145, 2, 6, []),
  (14, 17, 19, 68, 0, 0, []),
  (17, 18, 1, 3, 0, 0, []),
  (18, 19, 0, 0, 0, 1, []),
  (19, 22, 31, 54, 1, 0, []),
  (22, 23, 27, 0, 0, 0, []),
  (23, 24, 27, 0, 0, 0, []),
  (24, 25, 1, 2, 0, 0, []),
  (25, 26, 27, 0, 0, 0, []),
  (26, 29, 4, 38, 6, 0, []),
  (29, 30, 27, 0, 0, 0, []),
  (30, 33, 4, 53, 6, 0, []),
  (33, 34, 6, 0, 0, 0, []),
  (34, 37, 0, 0, 0, 1001, []),
  (37, 40, 31, 44, 1, 0, []),
  (40, 41, 0, 0, 0, 1, []),
  (41, 44, 19, 45, 0, 0, []),
  (44, 45, 0, 0, 0, 2, []),
  (45, 48, 36, 115, 3, 6, []),
  (48, 51, 36, 145, 2, 6, []),
  (51, 54, 19, 68, 0, 0, []),
  (54, 55, 27, 0, 0, 0, []),
  (55, 56, 27, 0, 0, 0, []),
  (56, 59, 4, 48, 6, 0, []),
  (59, 60, 0, 0, 0, 3, []),
  (60, 61, 1, 1, 0, 0, []),
  (61, 62, 12, 0, 0, 0, []),
  (62, 63, 0, 0, 0, 1, []),
  (63, 64, 10, 0, 0, 0, []),
  (64, 65, 6, 0, 0, 0, []),
  (65, 68, 36, 146, 2, 6, []),
  (68, 69, 34, 0, 0, 0, [])]
/-- Mo.call (II)V -/
def zc_152 : List zm_q := [
  (0, 1, 1, 2, 0, 0, []),
  (1, 4, 30, 17, 1, 0, []),
  (4, 5, 27, 0, 0, 0, []),
  (5, 6, 27, 0, 0, 0, []),
  (6, 7, 1, 1, 0, 0, []),
  (7, 8, 0, 0, 0, 0, []),
  (8, 11, 36, 115, 3, 6, []),
  (11, 14, 36, 145, 2, 6, []),
  (14, 17, 19, 116, 0, 0, []),
  (17, 18, 1, 2, 0, 0, []),
  (18, 19, 0, 0, 0, 1, []),
  (19, 22, 31, 98, 1, 0, []),
  (22, 23, 27, 0, 0, 0, []),
  (23, 24, 27, 0, 0, 0, []),
  (24, 27, 4, 52, 6, 0, []),
  (27, 28, 0, 0, 0, 4, []),
  (28, 31, 31, 35, 1, 0, []),
  (31, 32, 0, 0, 0, 1, []),
  (32, 35, 19, 36, 0, 0, []),
  (35, 36, 0, 0, 0, 0, []),
  (36, 39, 24, 55, 6, 0, []),
  (39, 40, 27, 0, 0, 0, []),
  (40, 43, 4, 55, 6, 0, []),
  (43, 46, 30, 47, 0, 0, []),
  (46, 47, 34, 0, 0, 0, []),
  (47, 48, 27, 0, 0, 0, []),
  (48, 49, 16, 0, 0, 0, []),
  (49, 52, 4, 52, 6, 0, []),
  (52, 53, 0, 0, 0, 1, []),
  (53, 54, 10, 0, 0, 0, []),
  (54, 57, 5, 52, 6, 0, []),
  (57, 58, 27, 0, 0, 0, []),
  (58, 59, 27, 0, 0, 0, []),
  (59, 62, 4, 51, 6, 0, []),
  (62, 65, 5, 50, 6, 0, []),
  (65, 66, 27, 0, 0, 0, []),
  (66, 69, 4, 49, 6, 0, []),
  (69, 70, 27, 0, 0, 0, []),
  (70, 73, 4, 51, 6, 0, []),
  (73, 74, 27, 0, 0, 0, []),
  (74, 77, 4, 53, 6, 0, []),
  (77, 78, 7, 0, 0, 0, []),
  (78, 79, 27, 0, 0, 0, []),
  (79, 80, 16, 0, 0, 0, []),
  (80, 83, 4, 51, 6, 0, []),
  (83, 84, 0, 0, 0, 1, []),
  (84, 85, 10, 0, 0, 0, []),
  (85, 88, 5, 51, 6, 0, []),
  (88, 89, 27, 0, 0, 0, []),
  (89, 92, 0, 0, 0, 480, []),
  (92, 95, 36, 145, 2, 6, []),
  (95, 98, 19, 116, 0, 0, []),
  (98, 99, 27, 0, 0, 0, []),
  (99, 100, 16, 0, 0, 0, []),
  (100, 103, 4, 52, 6, 0, []),
  (103, 104, 0, 0, 0, 1, []),
  (104, 105, 11, 0, 0, 0, []),
  (105, 108, 5, 52, 6, 0, []),
  (108, 109, 27, 0, 0, 0, []),
  (109, 110, 27, 0, 0, 0, []),
  (110, 113, 4, 53, 6, 0, []),
  (113, 116, 36, 146, 2, 6, []),
  (116, 117, 34, 0, 0, 0, [])]
/-- Mo.choose (II)V -/
def zc_153 : List zm_q := [
  (0, 1, 1, 2, 0, 0, []),
  (1, 4, 30, 15, 1, 0, []),
  (4, 5, 27, 0, 0, 0, []),
  (5, 6, 27, 0, 0, 0, []),
  (6, 7, 1, 1, 0, 0, []),
  (7, 8, 0, 0, 0, 0, []),
  (8, 11, 36, 115, 3, 6, []),
  (11, 14, 36, 145, 2, 6, []),
  (14, 15, 34, 0, 0, 0, []),
  (15, 16, 1, 2, 0, 0, []),
  (16, 17, 0, 0, 0, 2, []),
  (17, 20, 31, 29, 1, 0, []),
  (20, 21, 27, 0, 0, 0, []),
  (21, 22, 27, 0, 0, 0, []),
  (22, 25, 4, 53, 6, 0, []),
  (25, 28, 36, 146, 2, 6, []),
  (28, 29, 34, 0, 0, 0, []),
  (29, 30, 27, 0, 0, 0, []),
  (30, 33, 4, 38, 6, 0, []),
  (33, 34, 27, 0, 0, 0, []),
  (34, 37, 4, 53, 6, 0, []),
  (37, 38, 6, 0, 0, 0, []),
  (38, 41, 0, 0, 0, 1011, []),
  (41, 42, 11, 0, 0, 0, []),
  (42, 43, 2, 3, 0, 0, []),
  (43, 44, 27, 0, 0, 0, []),
  (44, 47, 4, 7, 6, 0, []),
  (47, 48, 1, 1, 0, 0, []),
  (48, 49, 6, 0, 0, 0, []),
  (49, 50, 1, 3, 0, 0, []),
  (50, 51, 15, 0, 0, 0, []),
  (51, 52, 0, 0, 0, 1, []),
  (52, 53, 13, 0, 0, 0, []),
  (53, 56, 30, 62, 1, 0, []),
  (56, 57, 27, 0, 0, 0, []),
  (57, 58, 0, 0, 0, 1, []),
  (58, 61, 24, 54, 6, 0, []),
  (61, 62, 34, 0, 0, 0, []),
  (62, 63, 0, 0, 0, 0, []),
  (63, 65, 2, 4, 0, 0, []),
  (65, 67, 1, 4, 0, 0, []),
  (67, 68, 0, 0, 0, 3, []),
  (68, 71, 31, 127, 3, 0, []),
  (71, 72, 27, 0, 0, 0, []),
  (72, 75, 4, 40, 6, 0, []),
  (75, 76, 0, 0, 0, 3, []),
  (76, 77, 27, 0, 0, 0, []),
  (77, 80, 4, 53, 6, 0, []),
  (80, 81, 12, 0, 0, 0, []),
  (81, 83, 1, 4, 0, 0, []),
  (83, 84, 10, 0, 0, 0, []),
  (84, 85, 6, 0, 0, 0, []),
  (85, 88, 30, 121, 2, 0, []),
  (88, 89, 27, 0, 0, 0, []),
  (89, 92, 4, 49, 6, 0, []),
  (92, 93, 27, 0, 0, 0, []),
  (93, 96, 4, 51, 6, 0, []),
  (96, 97, 27, 0, 0, 0, []),
  (97, 100, 4, 40, 6, 0, []),
  (100, 101, 0, 0, 0, 3, []),
  (101, 102, 27, 0, 0, 0, []),
  (102, 105, 4, 53, 6, 0, []),
  (105, 106, 12, 0, 0, 0, []),
  (106, 108, 1, 4, 0, 0, []),
  (108, 109, 10, 0, 0, 0, []),
  (109, 110, 6, 0, 0, 0, []),
  (110, 111, 7, 0, 0, 0, []),
  (111, 112, 27, 0, 0, 0, []),
  (112, 113, 16, 0, 0, 0, []),
  (113, 116, 4, 51, 6, 0, []),
  (116, 117, 0, 0, 0, 1, []),
  (117, 118, 10, 0, 0, 0, []),
  (118, 121, 5, 51, 6, 0, []),
  (121, 124, 3, 4, 0, 1, []),
  (124, 127, 19, 65, 0, 0, []),
  (127, 128, 27, 0, 0, 0, []),
  (128, 129, 27, 0, 0, 0, []),
  (129, 130, 1, 1, 0, 0, []),
  (130, 131, 0, 0, 0, 1, []),
  (131, 132, 27, 0, 0, 0, []),
  (132, 135, 4, 7, 6, 0, []),
  (135, 136, 1, 1, 0, 0, []),
  (136, 137, 6, 0, 0, 0, []),
  (137, 138, 0, 0, 0, 1, []),
  (138, 139, 1, 3, 0, 0, []),
  (139, 140, 14, 0, 0, 0, []),
  (140, 141, 0, 0, 0, 1, []),
  (141, 142, 11, 0, 0, 0, []),
  (142, 143, 13, 0, 0, 0, []),
  (143, 146, 35, 105, 1, 0, []),
  (146, 147, 10, 0, 0, 0, []),
  (147, 150, 36, 115, 3, 6, []),
  (150, 153, 36, 145, 2, 6, []),
  (153, 154, 34, 0, 0, 0, [])]
/-- Mo.combine (II)V -/
def zc_154 : List zm_q := [
  (0, 1, 27, 0, 0, 0, []),
  (1, 4, 4, 48, 6, 0, []),
  (4, 5, 0, 0, 0, 3, []),
  (5, 6, 1, 1, 0, 0, []),
  (6, 7, 12, 0, 0, 0, []),
  (7, 8, 6, 0, 0, 0, []),
  (8, 9, 2, 3, 0, 0, []),
  (9, 10, 27, 0, 0, 0, []),
  (10, 13, 4, 48, 6, 0, []),
  (13, 14, 0, 0, 0, 3, []),
  (14, 15, 1, 1, 0, 0, []),
  (15, 16, 12, 0, 0, 0, []),
  (16, 17, 0, 0, 0, 1, []),
  (17, 18, 10, 0, 0, 0, []),
  (18, 19, 6, 0, 0, 0, []),
  (19, 21, 2, 4, 0, 0, []),
  (21, 22, 27, 0, 0, 0, []),
  (22, 25, 4, 48, 6, 0, []),
  (25, 26, 0, 0, 0, 3, []),
  (26, 27, 1, 1, 0, 0, []),
  (27, 28, 12, 0, 0, 0, []),
  (28, 29, 0, 0, 0, 2, []),
  (29, 30, 10, 0, 0, 0, []),
  (30, 31, 6, 0, 0, 0, []),
  (31, 33, 2, 5, 0, 0, []),
  (33, 34, 1, 2, 0, 0, []),
  (34, 100, 32, 280, 0, 0, [(3, 100), (4, 131), (5, 280), (6, 163), (7, 182), (8, 197), (9, 280), (10, 214), (11, 280), (12, 280), (13, 222), (14, 241), (15, 261)]),
  (100, 101, 27, 0, 0, 0, []),
  (101, 102, 27, 0, 0, 0, []),
  (102, 105, 0, 0, 0, 1000, []),
  (105, 106, 27, 0, 0, 0, []),
  (106, 109, 4, 39, 6, 0, []),
  (109, 110, 1, 3, 0, 0, []),
  (110, 111, 6, 0, 0, 0, []),
  (111, 112, 27, 0, 0, 0, []),
  (112, 115, 4, 39, 6, 0, []),
  (115, 117, 1, 4, 0, 0, []),
  (117, 118, 6, 0, 0, 0, []),
  (118, 119, 10, 0, 0, 0, []),
  (119, 120, 0, 0, 0, (-1), []),
  (120, 121, 0, 0, 0, (-1), []),
  (121, 122, 0, 0, 0, (-1), []),
  (122, 125, 36, 143, 6, 6, []),
  (125, 128, 36, 146, 2, 6, []),
  (128, 131, 19, 297, 0, 0, []),
  (131, 132, 27, 0, 0, 0, []),
  (132, 133, 27, 0, 0, 0, []),
  (133, 134, 27, 0, 0, 0, []),
  (134, 137, 4, 39, 6, 0, []),
  (137, 138, 1, 3, 0, 0, []),
  (138, 139, 6, 0, 0, 0, []),
  (139, 140, 27, 0, 0, 0, []),
  (140, 143, 4, 39, 6, 0, []),
  (143, 145, 1, 4, 0, 0, []),
  (145, 146, 6, 0, 0, 0, []),
  (146, 149, 31, 153, 3, 0, []),
  (149, 150, 0, 0, 0, 1, []),
  (150, 153, 19, 154, 0, 0, []),
  (153, 154, 0, 0, 0, 0, []),
  (154, 157, 36, 144, 2, 6, []),
  (157, 160, 36, 146, 2, 6, []),
  (160, 163, 19, 297, 0, 0, []),
  (163, 164, 27, 0, 0, 0, []),
  (164, 165, 27, 0, 0, 0, []),
  (165, 168, 0, 0, 0, 1003, []),
  (168, 169, 0, 0, 0, 0, []),
  (169, 170, 1, 3, 0, 0, []),
  (170, 172, 1, 4, 0, 0, []),
  (172, 173, 0, 0, 0, (-1), []),
  (173, 176, 36, 143, 6, 6, []),
  (176, 179, 36, 146, 2, 6, []),
  (179, 182, 19, 297, 0, 0, []),
  (182, 183, 27, 0, 0, 0, []),
  (183, 184, 27, 0, 0, 0, []),
  (184, 187, 4, 40, 6, 0, []),
  (187, 188, 0, 0, 0, 3, []),
  (188, 189, 1, 3, 0, 0, []),
  (189, 190, 12, 0, 0, 0, []),
  (190, 191, 6, 0, 0, 0, []),
  (191, 194, 36, 146, 2, 6, []),
  (194, 197, 19, 297, 0, 0, []),
  (197, 198, 27, 0, 0, 0, []),
  (198, 199, 27, 0, 0, 0, []),
  (199, 202, 4, 40, 6, 0, []),
  (202, 203, 0, 0, 0, 3, []),
  (203, 204, 1, 3, 0, 0, []),
  (204, 205, 12, 0, 0, 0, []),
  (205, 206, 0, 0, 0, 1, []),
  (206, 207, 10, 0, 0, 0, []),
  (207, 208, 6, 0, 0, 0, []),
  (208, 211, 36, 146, 2, 6, []),
  (211, 214, 19, 297, 0, 0, []),
  (214, 215, 27, 0, 0, 0, []),
  (215, 216, 1, 3, 0, 0, []),
  (216, 219, 36, 146, 2, 6, []),
  (219, 222, 19, 297, 0, 0, []),
  (222, 223, 27, 0, 0, 0, []),
  (223, 224, 27, 0, 0, 0, []),
  (224, 227, 0, 0, 0, 1013, []),
  (227, 228, 0, 0, 0, 0, []),
  (228, 229, 1, 3, 0, 0, []),
  (229, 231, 1, 4, 0, 0, []),
  (231, 232, 0, 0, 0, (-1), []),
  (232, 235, 36, 143, 6, 6, []),
  (235, 238, 36, 146, 2, 6, []),
  (238, 241, 19, 297, 0, 0, []),
  (241, 242, 27, 0, 0, 0, []),
  (242, 243, 27, 0, 0, 0, []),
  (243, 246, 0, 0, 0, 1014, []),
  (246, 247, 0, 0, 0, 0, []),
  (247, 248, 1, 3, 0, 0, []),
  (248, 250, 1, 4, 0, 0, []),
  (250, 252, 1, 5, 0, 0, []),
  (252, 255, 36, 143, 6, 6, []),
  (255, 258, 36, 146, 2, 6, []),
  (258, 261, 19, 297, 0, 0, []),
  (261, 262, 27, 0, 0, 0, []),
  (262, 263, 27, 0, 0, 0, []),
  (263, 266, 0, 0, 0, 1015, []),
  (266, 267, 0, 0, 0, 0, []),
  (267, 268, 1, 3, 0, 0, []),
  (268, 270, 1, 4, 0, 0, []),
  (270, 271, 0, 0, 0, (-1), []),
  (271, 274, 36, 143, 6, 6, []),
  (274, 277, 36, 146, 2, 6, []),
  (277, 280, 19, 297, 0, 0, []),
  (280, 281, 27, 0, 0, 0, []),
  (281, 282, 27, 0, 0, 0, []),
  (282, 285, 0, 0, 0, 1000, []),
  (285, 286, 1, 2, 0, 0, []),
  (286, 287, 10, 0, 0, 0, []),
  (287, 288, 0, 0, 0, 0, []),
  (288, 289, 1, 3, 0, 0, []),
  (289, 290, 0, 0, 0, (-1), []),
  (290, 291, 0, 0, 0, (-1), []),
  (291, 294, 36, 143, 6, 6, []),
  (294, 297, 36, 146, 2, 6, []),
  (297, 298, 34, 0, 0, 0, [])]
/-- Mo.evaluate ()I -/
def zc_155 : List zm_q := [
  (0, 1, 27, 0, 0, 0, []),
  (1, 2, 0, 0, 0, 0, []),
  (2, 5, 5, 37, 6, 0, []),
  (5, 6, 27, 0, 0, 0, []),
  (6, 7, 0, 0, 0, 0, []),
  (7, 10, 5, 43, 6, 0, []),
  (10, 11, 27, 0, 0, 0, []),
  (11, 12, 0, 0, 0, 0, []),
  (12, 15, 5, 27, 6, 0, []),
  (15, 16, 27, 0, 0, 0, []),
  (16, 17, 0, 0, 0, 0, []),
  (17, 20, 5, 50, 6, 0, []),
  (20, 21, 27, 0, 0, 0, []),
  (21, 22, 0, 0, 0, 0, []),
  (22, 25, 5, 51, 6, 0, []),
  (25, 26, 27, 0, 0, 0, []),
  (26, 27, 0, 0, 0, 0, []),
  (27, 30, 5, 52, 6, 0, []),
  (30, 31, 27, 0, 0, 0, []),
  (31, 32, 0, 0, 0, 0, []),
  (32, 35, 24, 54, 6, 0, []),
  (35, 36, 27, 0, 0, 0, []),
  (36, 37, 0, 0, 0, 0, []),
  (37, 40, 24, 55, 6, 0, []),
  (40, 41, 27, 0, 0, 0, []),
  (41, 44, 0, 0, 0, 520, []),
  (44, 47, 36, 145, 2, 6, []),
  (47, 48, 27, 0, 0, 0, []),
  (48, 51, 4, 27, 6, 0, []),
  (51, 54, 30, 75, 5, 0, []),
  (54, 55, 27, 0, 0, 0, []),
  (55, 58, 4, 54, 6, 0, []),
  (58, 61, 30, 75, 1, 0, []),
  (61, 62, 27, 0, 0, 0, []),
  (62, 65, 4, 55, 6, 0, []),
  (65, 68, 30, 75, 1, 0, []),
  (68, 69, 27, 0, 0, 0, []),
  (69, 72, 36, 149, 1, 6, []),
  (72, 75, 19, 47, 0, 0, []),
  (75, 76, 27, 0, 0, 0, []),
  (76, 77, 27, 0, 0, 0, []),
  (77, 80, 4, 53, 6, 0, []),
  (80, 83, 5, 42, 6, 0, []),
  (83, 84, 27, 0, 0, 0, []),
  (84, 85, 27, 0, 0, 0, []),
  (85, 88, 4, 55, 6, 0, []),
  (88, 91, 30, 95, 0, 0, []),
  (91, 92, 0, 0, 0, 1, []),
  (92, 95, 19, 107, 0, 0, []),
  (95, 96, 27, 0, 0, 0, []),
  (96, 99, 4, 54, 6, 0, []),
  (99, 102, 30, 106, 0, 0, []),
  (102, 103, 0, 0, 0, 2, []),
  (103, 106, 19, 107, 0, 0, []),
  (106, 107, 0, 0, 0, 0, []),
  (107, 110, 5, 41, 6, 0, []),
  (110, 111, 27, 0, 0, 0, []),
  (111, 114, 4, 41, 6, 0, []),
  (114, 115, 33, 0, 0, 0, [])]
/-- Mo.steps ()I -/
def zc_156 : List zm_q := [
  (0, 1, 27, 0, 0, 0, []),
  (1, 4, 4, 43, 6, 0, []),
  (4, 5, 33, 0, 0, 0, [])]
/-- Mo.partAt (I)I -/
def zc_157 : List zm_q := [
  (0, 1, 27, 0, 0, 0, []),
  (1, 4, 4, 41, 6, 0, []),
  (4, 7, 30, 18, 1, 0, []),
  (7, 8, 1, 1, 0, 0, []),
  (8, 11, 30, 18, 2, 0, []),
  (11, 12, 1, 1, 0, 0, []),
  (12, 15, 0, 0, 0, 199, []),
  (15, 18, 31, 20, 5, 0, []),
  (18, 19, 0, 0, 0, (-1), []),
  (19, 20, 33, 0, 0, 0, []),
  (20, 21, 0, 0, 0, 1, []),
  (21, 22, 2, 2, 0, 0, []),
  (22, 23, 0, 0, 0, 0, []),
  (23, 24, 2, 3, 0, 0, []),
  (24, 25, 27, 0, 0, 0, []),
  (25, 28, 4, 56, 6, 0, []),
  (28, 29, 0, 0, 0, 0, []),
  (29, 30, 27, 0, 0, 0, []),
  (30, 33, 4, 42, 6, 0, []),
  (33, 34, 7, 0, 0, 0, []),
  (34, 35, 1, 2, 0, 0, []),
  (35, 38, 30, 113, 5, 0, []),
  (38, 41, 3, 2, 0, (-1), []),
  (41, 42, 27, 0, 0, 0, []),
  (42, 45, 4, 56, 6, 0, []),
  (45, 46, 1, 2, 0, 0, []),
  (46, 47, 6, 0, 0, 0, []),
  (47, 49, 2, 4, 0, 0, []),
  (49, 50, 1, 3, 0, 0, []),
  (50, 51, 1, 1, 0, 0, []),
  (51, 54, 31, 57, 1, 0, []),
  (54, 56, 1, 4, 0, 0, []),
  (56, 57, 33, 0, 0, 0, []),
  (57, 60, 3, 3, 0, 1, []),
  (60, 61, 0, 0, 0, 2, []),
  (61, 63, 2, 5, 0, 0, []),
  (63, 65, 1, 5, 0, 0, []),
  (65, 68, 30, 110, 2, 0, []),
  (68, 69, 27, 0, 0, 0, []),
  (69, 72, 4, 40, 6, 0, []),
  (72, 73, 0, 0, 0, 3, []),
  (73, 75, 1, 4, 0, 0, []),
  (75, 76, 12, 0, 0, 0, []),
  (76, 78, 1, 5, 0, 0, []),
  (78, 79, 10, 0, 0, 0, []),
  (79, 80, 6, 0, 0, 0, []),
  (80, 83, 30, 104, 2, 0, []),
  (83, 84, 27, 0, 0, 0, []),
  (84, 87, 4, 56, 6, 0, []),
  (87, 88, 1, 2, 0, 0, []),
  (88, 89, 27, 0, 0, 0, []),
  (89, 92, 4, 40, 6, 0, []),
  (92, 93, 0, 0, 0, 3, []),
  (93, 95, 1, 4, 0, 0, []),
  (95, 96, 12, 0, 0, 0, []),
  (96, 98, 1, 5, 0, 0, []),
  (98, 99, 10, 0, 0, 0, []),
  (99, 100, 6, 0, 0, 0, []),
  (100, 101, 7, 0, 0, 0, []),
  (101, 104, 3, 2, 0, 1, []),
  (104, 107, 3, 5, 0, (-1), []),
  (107, 110, 19, 63, 0, 0, []),
  (110, 113, 19, 34, 0, 0, []),
  (113, 114, 0, 0, 0, (-1), []),
  (114, 115, 33, 0, 0, 0, [])]
/-- Mo.value (I)I -/
def zc_158 : List zm_q := [
  (0, 1, 27, 0, 0, 0, []),
  (1, 2, 1, 1, 0, 0, []),
  (2, 5, 36, 157, 2, 6, []),
  (5, 6, 2, 2, 0, 0, []),
  (6, 7, 1, 2, 0, 0, []),
  (7, 10, 30, 14, 3, 0, []),
  (10, 11, 0, 0, 0, (-1), []),
  (11, 14, 19, 20, 0, 0, []),
  (14, 15, 27, 0, 0, 0, []),
  (15, 18, 4, 38, 6, 0, []),
  (18, 19, 1, 2, 0, 0, []),
  (19, 20, 6, 0, 0, 0, []),
  (20, 21, 33, 0, 0, 0, [])]
/-- Mo.number (I)I -/
def zc_159 : List zm_q := [
  (0, 1, 27, 0, 0, 0, []),
  (1, 2, 1, 1, 0, 0, []),
  (2, 5, 36, 157, 2, 6, []),
  (5, 6, 2, 2, 0, 0, []),
  (6, 7, 1, 2, 0, 0, []),
  (7, 10, 30, 22, 2, 0, []),
  (10, 11, 27, 0, 0, 0, []),
  (11, 14, 4, 38, 6, 0, []),
  (14, 15, 1, 2, 0, 0, []),
  (15, 16, 6, 0, 0, 0, []),
  (16, 19, 0, 0, 0, 1000, []),
  (19, 22, 31, 26, 0, 0, []),
  (22, 23, 0, 0, 0, 0, []),
  (23, 26, 19, 32, 0, 0, []),
  (26, 27, 27, 0, 0, 0, []),
  (27, 30, 4, 39, 6, 0, []),
  (30, 31, 1, 2, 0, 0, []),
  (31, 32, 6, 0, 0, 0, []),
  (32, 33, 33, 0, 0, 0, [])]
/-- Law.law ([I)Z -/
def zc_160 : List zm_q := [
  (18, 19, 1, 3, 0, 0, []),
  (19, 20, 27, 0, 0, 0, []),
  (20, 21, 22, 0, 0, 0, []),
  (21, 22, 0, 0, 0, 4, []),
  (22, 23, 11, 0, 0, 0, []),
  (23, 26, 31, 331, 4, 0, []),
  (26, 27, 27, 0, 0, 0, []),
  (27, 28, 1, 3, 0, 0, []),
  (28, 29, 20, 0, 0, 0, []),
  (29, 31, 0, 0, 0, 15, []),
  (31, 32, 13, 0, 0, 0, []),
  (32, 92, 32, 325, 0, 0, [(0, 92), (1, 135), (2, 168), (3, 181), (4, 194), (5, 217), (6, 240), (7, 253), (8, 266), (9, 279), (10, 302)]),
  (92, 93, 27, 1, 0, 0, []),
  (93, 94, 27, 0, 0, 0, []),
  (94, 95, 1, 3, 0, 0, []),
  (95, 96, 0, 0, 0, 1, []),
  (96, 97, 10, 0, 0, 0, []),
  (97, 98, 20, 0, 0, 0, []),
  (98, 99, 27, 0, 0, 0, []),
  (99, 100, 1, 3, 0, 0, []),
  (100, 101, 0, 0, 0, 2, []),
  (101, 102, 10, 0, 0, 0, []),
  (102, 103, 20, 0, 0, 0, []),
  (103, 104, 27, 0, 0, 0, []),
  (104, 105, 1, 3, 0, 0, []),
  (105, 106, 0, 0, 0, 3, []),
  (106, 107, 10, 0, 0, 0, []),
  (107, 108, 20, 0, 0, 0, []),
  (108, 111, 36, 0, 4, 0, []),
  (111, 112, 27, 2, 0, 0, []),
  (112, 113, 27, 0, 0, 0, []),
  (113, 114, 1, 3, 0, 0, []),
  (114, 115, 0, 0, 0, 1, []),
  (115, 116, 10, 0, 0, 0, []),
  (116, 117, 20, 0, 0, 0, []),
  (117, 118, 27, 0, 0, 0, []),
  (118, 119, 1, 3, 0, 0, []),
  (119, 120, 0, 0, 0, 2, []),
  (120, 121, 10, 0, 0, 0, []),
  (121, 122, 20, 0, 0, 0, []),
  (122, 123, 27, 0, 0, 0, []),
  (123, 124, 1, 3, 0, 0, []),
  (124, 125, 0, 0, 0, 3, []),
  (125, 126, 10, 0, 0, 0, []),
  (126, 127, 20, 0, 0, 0, []),
  (127, 130, 36, 104, 4, 6, []),
  (130, 133, 31, 325, 0, 0, []),
  (133, 134, 0, 0, 0, 0, []),
  (134, 135, 37, 0, 0, 0, []),
  (135, 136, 27, 1, 0, 0, []),
  (136, 137, 27, 0, 0, 0, []),
  (137, 138, 1, 3, 0, 0, []),
  (138, 139, 0, 0, 0, 1, []),
  (139, 140, 10, 0, 0, 0, []),
  (140, 141, 20, 0, 0, 0, []),
  (141, 142, 27, 0, 0, 0, []),
  (142, 143, 1, 3, 0, 0, []),
  (143, 144, 0, 0, 0, 2, []),
  (144, 145, 10, 0, 0, 0, []),
  (145, 146, 20, 0, 0, 0, []),
  (146, 149, 36, 1, 3, 0, []),
  (149, 150, 27, 2, 0, 0, []),
  (150, 151, 27, 0, 0, 0, []),
  (151, 152, 1, 3, 0, 0, []),
  (152, 153, 0, 0, 0, 1, []),
  (153, 154, 10, 0, 0, 0, []),
  (154, 155, 20, 0, 0, 0, []),
  (155, 156, 27, 0, 0, 0, []),
  (156, 157, 1, 3, 0, 0, []),
  (157, 158, 0, 0, 0, 2, []),
  (158, 159, 10, 0, 0, 0, []),
  (159, 160, 20, 0, 0, 0, []),
  (160, 163, 36, 108, 3, 6, []),
  (163, 166, 31, 325, 0, 0, []),
  (166, 167, 0, 0, 0, 0, []),
  (167, 168, 37, 0, 0, 0, []),
  (168, 169, 27, 1, 0, 0, []),
  (169, 172, 36, 2, 1, 0, []),
  (172, 173, 27, 2, 0, 0, []),
  (173, 176, 36, 109, 1, 6, []),
  (176, 179, 31, 325, 0, 0, []),
  (179, 180, 0, 0, 0, 0, []),
  (180, 181, 37, 0, 0, 0, []),
  (181, 182, 27, 1, 0, 0, []),
  (182, 185, 36, 3, 1, 0, []),
  (185, 186, 27, 2, 0, 0, []),
  (186, 189, 36, 110, 1, 6, []),
  (189, 192, 31, 325, 0, 0, []),
  (192, 193, 0, 0, 0, 0, []),
  (193, 194, 37, 0, 0, 0, []),
  (194, 195, 27, 1, 0, 0, []),
  (195, 196, 27, 0, 0, 0, []),
  (196, 197, 1, 3, 0, 0, []),
  (197, 198, 0, 0, 0, 1, []),
  (198, 199, 10, 0, 0, 0, []),
  (199, 200, 20, 0, 0, 0, []),
  (200, 203, 36, 4, 2, 0, []),
  (203, 204, 27, 2, 0, 0, []),
  (204, 205, 27, 0, 0, 0, []),
  (205, 206, 1, 3, 0, 0, []),
  (206, 207, 0, 0, 0, 1, []),
  (207, 208, 10, 0, 0, 0, []),
  (208, 209, 20, 0, 0, 0, []),
  (209, 212, 36, 112, 2, 6, []),
  (212, 215, 31, 325, 0, 0, []),
  (215, 216, 0, 0, 0, 0, []),
  (216, 217, 37, 0, 0, 0, []),
  (217, 218, 27, 1, 0, 0, []),
  (218, 219, 27, 0, 0, 0, []),
  (219, 220, 1, 3, 0, 0, []),
  (220, 221, 0, 0, 0, 1, []),
  (221, 222, 10, 0, 0, 0, []),
  (222, 223, 20, 0, 0, 0, []),
  (223, 226, 36, 5, 2, 0, []),
  (226, 227, 27, 2, 0, 0, []),
  (227, 228, 27, 0, 0, 0, []),
  (228, 229, 1, 3, 0, 0, []),
  (229, 230, 0, 0, 0, 1, []),
  (230, 231, 10, 0, 0, 0, []),
  (231, 232, 20, 0, 0, 0, []),
  (232, 235, 36, 113, 2, 6, []),
  (235, 238, 31, 325, 0, 0, []),
  (238, 239, 0, 0, 0, 0, []),
  (239, 240, 37, 0, 0, 0, []),
  (240, 241, 27, 1, 0, 0, []),
  (241, 244, 36, 6, 1, 0, []),
  (244, 245, 27, 2, 0, 0, []),
  (245, 248, 36, 142, 1, 6, []),
  (248, 251, 31, 325, 0, 0, []),
  (251, 252, 0, 0, 0, 0, []),
  (252, 253, 37, 0, 0, 0, []),
  (253, 254, 27, 1, 0, 0, []),
  (254, 257, 36, 7, 1, 0, []),
  (257, 258, 27, 2, 0, 0, []),
  (258, 261, 36, 155, 1, 6, []),
  (261, 264, 31, 325, 0, 0, []),
  (264, 265, 0, 0, 0, 0, []),
  (265, 266, 37, 0, 0, 0, []),
  (266, 267, 27, 1, 0, 0, []),
  (267, 270, 36, 8, 1, 0, []),
  (270, 271, 27, 2, 0, 0, []),
  (271, 274, 36, 156, 1, 6, []),
  (274, 277, 31, 325, 0, 0, []),
  (277, 278, 0, 0, 0, 0, []),
  (278, 279, 37, 0, 0, 0, []),
  (279, 280, 27, 1, 0, 0, []),
  (280, 281, 27, 0, 0, 0, []),
  (281, 282, 1, 3, 0, 0, []),
  (282, 283, 0, 0, 0, 1, []),
  (283, 284, 10, 0, 0, 0, []),
  (284, 285, 20, 0, 0, 0, []),
  (285, 288, 36, 9, 2, 0, []),
  (288, 289, 27, 2, 0, 0, []),
  (289, 290, 27, 0, 0, 0, []),
  (290, 291, 1, 3, 0, 0, []),
  (291, 292, 0, 0, 0, 1, []),
  (292, 293, 10, 0, 0, 0, []),
  (293, 294, 20, 0, 0, 0, []),
  (294, 297, 36, 158, 2, 6, []),
  (297, 300, 31, 325, 0, 0, []),
  (300, 301, 0, 0, 0, 0, []),
  (301, 302, 37, 0, 0, 0, []),
  (302, 303, 27, 1, 0, 0, []),
  (303, 304, 27, 0, 0, 0, []),
  (304, 305, 1, 3, 0, 0, []),
  (305, 306, 0, 0, 0, 1, []),
  (306, 307, 10, 0, 0, 0, []),
  (307, 308, 20, 0, 0, 0, []),
  (308, 311, 36, 10, 2, 0, []),
  (311, 312, 27, 2, 0, 0, []),
  (312, 313, 27, 0, 0, 0, []),
  (313, 314, 1, 3, 0, 0, []),
  (314, 315, 0, 0, 0, 1, []),
  (315, 316, 10, 0, 0, 0, []),
  (316, 317, 20, 0, 0, 0, []),
  (317, 320, 36, 159, 2, 6, []),
  (320, 323, 31, 325, 0, 0, []),
  (323, 324, 0, 0, 0, 0, []),
  (324, 325, 37, 0, 0, 0, []),
  (325, 328, 3, 3, 0, 4, []),
  (328, 331, 19, 18, 0, 0, []),
  (331, 332, 0, 0, 0, 1, []),
  (332, 333, 37, 0, 0, 0, [])]
/-- Int.bitCount (I)I -/
def zc_161 : List zm_q := [
  (0, 1, 1, 0, 0, 0, []),
  (1, 2, 1, 0, 0, 0, []),
  (2, 3, 0, 0, 0, 1, []),
  (3, 4, 23, 0, 0, 0, []),
  (4, 7, 28, 1431655765, 0, 1431655765, []),
  (7, 8, 13, 0, 0, 0, []),
  (8, 9, 11, 0, 0, 0, []),
  (9, 10, 2, 0, 0, 0, []),
  (10, 11, 1, 0, 0, 0, []),
  (11, 14, 28, 858993459, 0, 858993459, []),
  (14, 15, 13, 0, 0, 0, []),
  (15, 16, 1, 0, 0, 0, []),
  (16, 17, 0, 0, 0, 2, []),
  (17, 18, 23, 0, 0, 0, []),
  (18, 21, 28, 858993459, 0, 858993459, []),
  (21, 22, 13, 0, 0, 0, []),
  (22, 23, 10, 0, 0, 0, []),
  (23, 24, 2, 0, 0, 0, []),
  (24, 25, 1, 0, 0, 0, []),
  (25, 26, 1, 0, 0, 0, []),
  (26, 27, 0, 0, 0, 4, []),
  (27, 28, 23, 0, 0, 0, []),
  (28, 29, 10, 0, 0, 0, []),
  (29, 32, 28, 252645135, 0, 252645135, []),
  (32, 33, 13, 0, 0, 0, []),
  (33, 34, 2, 0, 0, 0, []),
  (34, 35, 1, 0, 0, 0, []),
  (35, 36, 1, 0, 0, 0, []),
  (36, 38, 0, 0, 0, 8, []),
  (38, 39, 23, 0, 0, 0, []),
  (39, 40, 10, 0, 0, 0, []),
  (40, 41, 2, 0, 0, 0, []),
  (41, 42, 1, 0, 0, 0, []),
  (42, 43, 1, 0, 0, 0, []),
  (43, 45, 0, 0, 0, 16, []),
  (45, 46, 23, 0, 0, 0, []),
  (46, 47, 10, 0, 0, 0, []),
  (47, 48, 2, 0, 0, 0, []),
  (48, 49, 1, 0, 0, 0, []),
  (49, 51, 0, 0, 0, 63, []),
  (51, 52, 13, 0, 0, 0, []),
  (52, 53, 33, 0, 0, 0, [])]
def zc (n : Nat) : List zm_q := match n with
  | 0 => zc_0
  | 1 => zc_1
  | 2 => zc_2
  | 3 => zc_3
  | 4 => zc_4
  | 5 => zc_5
  | 6 => zc_6
  | 7 => zc_7
  | 8 => zc_8
  | 9 => zc_9
  | 10 => zc_10
  | 11 => zc_11
  | 12 => zc_12
  | 13 => zc_13
  | 14 => zc_14
  | 15 => zc_15
  | 16 => zc_16
  | 17 => zc_17
  | 18 => zc_18
  | 19 => zc_19
  | 20 => zc_20
  | 21 => zc_21
  | 22 => zc_22
  | 23 => zc_23
  | 24 => zc_24
  | 25 => zc_25
  | 26 => zc_26
  | 27 => zc_27
  | 28 => zc_28
  | 29 => zc_29
  | 30 => zc_30
  | 31 => zc_31
  | 32 => zc_32
  | 33 => zc_33
  | 34 => zc_34
  | 35 => zc_35
  | 36 => zc_36
  | 37 => zc_37
  | 38 => zc_38
  | 39 => zc_39
  | 40 => zc_40
  | 41 => zc_41
  | 42 => zc_42
  | 43 => zc_43
  | 44 => zc_44
  | 45 => zc_45
  | 46 => zc_46
  | 47 => zc_47
  | 48 => zc_48
  | 49 => zc_49
  | 50 => zc_50
  | 51 => zc_51
  | 52 => zc_52
  | 53 => zc_53
  | 54 => zc_54
  | 55 => zc_55
  | 56 => zc_56
  | 57 => zc_57
  | 58 => zc_58
  | 59 => zc_59
  | 60 => zc_60
  | 61 => zc_61
  | 62 => zc_62
  | 63 => zc_63
  | 64 => zc_64
  | 65 => zc_65
  | 66 => zc_66
  | 67 => zc_67
  | 68 => zc_68
  | 69 => zc_69
  | 70 => zc_70
  | 71 => zc_71
  | 72 => zc_72
  | 73 => zc_73
  | 74 => zc_74
  | 75 => zc_75
  | 76 => zc_76
  | 77 => zc_77
  | 78 => zc_78
  | 79 => zc_79
  | 80 => zc_80
  | 81 => zc_81
  | 82 => zc_82
  | 83 => zc_83
  | 84 => zc_84
  | 85 => zc_85
  | 86 => zc_86
  | 87 => zc_87
  | 88 => zc_88
  | 89 => zc_89
  | 90 => zc_90
  | 91 => zc_91
  | 92 => zc_92
  | 93 => zc_93
  | 94 => zc_94
  | 95 => zc_95
  | 96 => zc_96
  | 97 => zc_97
  | 98 => zc_98
  | 99 => zc_99
  | 100 => zc_100
  | 101 => zc_101
  | 102 => zc_102
  | 103 => zc_103
  | 104 => zc_104
  | 105 => zc_105
  | 106 => zc_106
  | 107 => zc_107
  | 108 => zc_108
  | 109 => zc_109
  | 110 => zc_110
  | 111 => zc_111
  | 112 => zc_112
  | 113 => zc_113
  | 114 => zc_114
  | 115 => zc_115
  | 116 => zc_116
  | 117 => zc_117
  | 118 => zc_118
  | 119 => zc_119
  | 120 => zc_120
  | 121 => zc_121
  | 122 => zc_122
  | 123 => zc_123
  | 124 => zc_124
  | 125 => zc_125
  | 126 => zc_126
  | 127 => zc_127
  | 128 => zc_128
  | 129 => zc_129
  | 130 => zc_130
  | 131 => zc_131
  | 132 => zc_132
  | 133 => zc_133
  | 134 => zc_134
  | 135 => zc_135
  | 136 => zc_136
  | 137 => zc_137
  | 138 => zc_138
  | 139 => zc_139
  | 140 => zc_140
  | 141 => zc_141
  | 142 => zc_142
  | 143 => zc_143
  | 144 => zc_144
  | 145 => zc_145
  | 146 => zc_146
  | 147 => zc_147
  | 148 => zc_148
  | 149 => zc_149
  | 150 => zc_150
  | 151 => zc_151
  | 152 => zc_152
  | 153 => zc_153
  | 154 => zc_154
  | 155 => zc_155
  | 156 => zc_156
  | 157 => zc_157
  | 158 => zc_158
  | 159 => zc_159
  | 160 => zc_160
  | 161 => zc_161
  | _ => []
theorem zq_of {tb : List zm_q} {pc : Nat} {q : zm_q} (h : (zm_at tb pc == some q) = true) : zm_at tb pc = some q := eq_of_beq h
abbrev zV (X : zm_T) (d n pc : Nat) (l : zm_L) (st : List zm_v) (μ : zm_u) (post : Option zm_v → zm_u → Prop) : Prop := zm_V zs zc X d n pc l st μ post
def zI (X : zm_T) (d n : Nat) (as : List zm_v) (μ : zm_u) (P : Int32 → zm_u → Prop) : Prop := zm_E zs zc X d n as μ (zpi P)
def zO (X : zm_T) (d n : Nat) (as : List zm_v) (μ : zm_u) (P : zm_u → Prop) : Prop := zm_E zs zc X d n as μ (zpo P)
theorem zsw_t {x k : Int32} {t d : Nat} {r : List (Int32 × Nat)} (h : x = k) : zm_sw ((k, t) :: r) d x = t := by
  show cond (decide (x = k)) t (zm_sw r d x) = t
  rw [decide_eq_true h]
  rfl
theorem zsw_f {x k : Int32} {t d : Nat} {r : List (Int32 × Nat)} (h : ¬ x = k) : zm_sw ((k, t) :: r) d x = zm_sw r d x := by
  show cond (decide (x = k)) t (zm_sw r d x) = zm_sw r d x
  rw [decide_eq_false h]
  rfl
theorem zI_of {X : zm_T} {d n : Nat} {as : List zm_v} {l : zm_L} {μ : zm_u} {P : Int32 → zm_u → Prop} (is : List Nat) (hl : zm_pick (zm_args 0 as) is = l) (h : zV X d n 0 l [] μ (zpi P)) : zI X (d + 1) n as μ P := zm_E_of (zm_V_pick is hl h)
theorem zO_of {X : zm_T} {d n : Nat} {as : List zm_v} {l : zm_L} {μ : zm_u} {P : zm_u → Prop} (is : List Nat) (hl : zm_pick (zm_args 0 as) is = l) (h : zV X d n 0 l [] μ (zpo P)) : zO X (d + 1) n as μ P := zm_E_of (zm_V_pick is hl h)
theorem zI_mono {X : zm_T} {d d' n : Nat} {as : List zm_v} {μ : zm_u} {P P' : Int32 → zm_u → Prop} (h : zI X d n as μ P) (hd : d ≤ d') (hp : ∀ r μ', P r μ' → P' r μ') : zI X d' n as μ P' := zm_E_mono h hd (fun r μ' ⟨v, e, q⟩ => ⟨v, e, hp v μ' q⟩)
theorem zO_mono {X : zm_T} {d d' n : Nat} {as : List zm_v} {μ : zm_u} {P P' : zm_u → Prop} (h : zO X d n as μ P) (hd : d ≤ d') (hp : ∀ μ', P μ' → P' μ') : zO X d' n as μ P' := zm_E_mono h hd (fun r μ' ⟨e, q⟩ => ⟨e, hp μ' q⟩)
theorem zsw_e {X : zm_T} {e n d t : Nat} {k x : Int32} {r : List (Int32 × Nat)} {l : zm_L} {st : List zm_v} {μ : zm_u} {post : Option zm_v → zm_u → Prop} (h1 : x = k → zV X e n t l st μ post) (h2 : ¬ x = k → zV X e n (zm_sw r d x) l st μ post) : zV X e n (zm_sw ((k, t) :: r) d x) l st μ post := by
  by_cases h : x = k
  · rw [zsw_t h]; exact h1 h
  · rw [zsw_f h]; exact h2 h
end
section
/-! R.type (III)I : 0 -/
theorem k0_0 {X : zm_T} {d : Nat} {v1 v2 v3 : Int32} {μ : zm_u} {P : Int32 → zm_u → Prop}
    (h0 : ∃ G : Int32 → zm_u → Prop, zI X d 19 [.inr 1, .inl v1, .inl v2, .inl v3] μ G ∧ ∀ (r : Int32) (μ1 : zm_u), G r μ1 → zV X d 0 10 [(0, .inr 0), (1, .inl v1), (2, .inl v2), (3, .inl v3)] [.inl r] μ1 (zpi P)) :
    zV X d 0 0 [(0, .inr 0), (1, .inl v1), (2, .inl v2), (3, .inl v3)] [] μ (zpi P) :=
  (zm_run [(0, 1, 27, 0, 0, 0, []), (1, 4, 4, 0, 0, 0, []), (4, 5, 1, 1, 0, 0, []), (5, 6, 1, 2, 0, 0, []), (6, 7, 1, 3, 0, 0, [])] _ _ _ _ [] 7 [(0, .inr 0), (1, .inl v1), (2, .inl v2), (3, .inl v3)] [.inl v3, .inl v2, .inl v1, .inr 1] μ (by decide +kernel) rfl rfl (by obtain ⟨G, he, hk⟩ := h0; exact zm_callV (as := [.inr 1, .inl v1, .inl v2, .inl v3]) (rest := []) (P := zpi G) (nx := 10) (a := 19) (b := 4) (k := 1) (sw := []) (zq_of (by decide +kernel)) rfl rfl rfl he (fun _ μ1 hp => by obtain ⟨v, rfl, hp⟩ := hp; exact (zm_V_pick [0, 1, 2, 3] rfl (hk v μ1 hp)))))

theorem k0_10 {X : zm_T} {d : Nat} {s0 v1 v2 v3 : Int32} {μ : zm_u} {P : Int32 → zm_u → Prop}
    (h0 : ¬ s0 = 0 → ¬ v1 = 0 → zV X d 0 24 [(0, .inr 0), (1, .inl v1), (2, .inl v2)] [.inl (0 : Int32)] μ (zpi P))
    (h1 : ¬ s0 = 0 → v1 = 0 → zV X d 0 24 [(0, .inr 0), (1, .inl v1), (2, .inl v2)] [.inl v3] μ (zpi P))
    (h2 : s0 = 0 → P (-1 : Int32) μ) :
    zV X d 0 10 [(0, .inr 0), (1, .inl v1), (2, .inl v2), (3, .inl v3)] [.inl s0] μ (zpi P) :=
  (zm_if (nx := 13) (a := 15) (b := 1) (k := 0) (sw := []) (zq_of (by decide +kernel)) (fun z1 => (zm_run [(15, 16, 1, 1, 0, 0, [])] _ _ _ _ [] 16 [(0, .inr 0), (1, .inl v1), (2, .inl v2), (3, .inl v3)] [.inl v1] μ (by decide +kernel) rfl rfl (zm_if (nx := 19) (a := 23) (b := 1) (k := 0) (sw := []) (zq_of (by decide +kernel)) (fun z2 => (zm_run [(23, 24, 0, 0, 0, 0, [])] _ _ _ _ [] 24 [(0, .inr 0), (1, .inl v1), (2, .inl v2), (3, .inl v3)] [.inl (0 : Int32)] μ (by decide +kernel) rfl rfl (zm_V_pick [0, 1, 2] rfl (h0 (of_decide_eq_true z1) (of_decide_eq_true z2))))) (fun z2 => (zm_run [(19, 20, 1, 3, 0, 0, []), (20, 23, 19, 24, 0, 0, [])] _ _ _ _ [] 24 [(0, .inr 0), (1, .inl v1), (2, .inl v2), (3, .inl v3)] [.inl v3] μ (by decide +kernel) rfl rfl (zm_V_pick [0, 1, 2] rfl (h1 (of_decide_eq_true z1) (Classical.byContradiction fun w => (of_decide_eq_false z2) w)))))))) (fun z1 => (zm_run [(13, 14, 0, 0, 0, (-1), [])] _ _ _ _ [] 14 [(0, .inr 0), (1, .inl v1), (2, .inl v2), (3, .inl v3)] [.inl (-1 : Int32)] μ (by decide +kernel) rfl rfl (zm_iret (nx := 15) (a := 0) (b := 0) (k := 0) (sw := []) (zq_of (by decide +kernel)) ⟨_, rfl, (h2 (Classical.byContradiction fun w => (of_decide_eq_false z1) w))⟩))))

theorem k0_24 {X : zm_T} {d : Nat} {s0 v1 v2 : Int32} {μ : zm_u} {P : Int32 → zm_u → Prop}
    (h0 : ∃ G : Int32 → zm_u → Prop, zI X d 22 [.inr 1, .inl v1, .inl v2, .inl s0] μ G ∧ ∀ (r : Int32) (μ1 : zm_u), G r μ1 → zV X d 0 37 [(0, .inr 0), (1, .inl v1), (2, .inl v2), (4, .inl s0)] [.inl r] μ1 (zpi P)) :
    zV X d 0 24 [(0, .inr 0), (1, .inl v1), (2, .inl v2)] [.inl s0] μ (zpi P) :=
  (zm_run [(24, 26, 2, 4, 0, 0, []), (26, 27, 27, 0, 0, 0, []), (27, 30, 4, 0, 0, 0, []), (30, 31, 1, 1, 0, 0, []), (31, 32, 1, 2, 0, 0, []), (32, 34, 1, 4, 0, 0, [])] _ _ _ _ [] 34 [(0, .inr 0), (1, .inl v1), (2, .inl v2), (4, .inl s0)] [.inl s0, .inl v2, .inl v1, .inr 1] μ (by decide +kernel) rfl rfl (by obtain ⟨G, he, hk⟩ := h0; exact zm_callV (as := [.inr 1, .inl v1, .inl v2, .inl s0]) (rest := []) (P := zpi G) (nx := 37) (a := 22) (b := 4) (k := 1) (sw := []) (zq_of (by decide +kernel)) rfl rfl rfl he (fun _ μ1 hp => by obtain ⟨v, rfl, hp⟩ := hp; exact (zm_V_pick [0, 1, 2, 4] rfl (hk v μ1 hp)))))

theorem k0_37 {X : zm_T} {d : Nat} {s0 v1 v2 v4 : Int32} {μ : zm_u} {P : Int32 → zm_u → Prop}
    (h0 : s0 = (-1 : Int32) → ∃ G : Int32 → zm_u → Prop, zI X d 14 [.inr 1] μ G ∧ ∀ (r : Int32) (μ1 : zm_u), G r μ1 → zV X d 0 55 [(0, .inr 0), (1, .inl v1), (2, .inl v2), (4, .inl v4)] [.inl r] μ1 (zpi P))
    (h1 : ¬ (s0 = (-1 : Int32)) → P s0 μ) :
    zV X d 0 37 [(0, .inr 0), (1, .inl v1), (2, .inl v2), (4, .inl v4)] [.inl s0] μ (zpi P) :=
  (zm_run [(37, 39, 2, 5, 0, 0, []), (39, 41, 1, 5, 0, 0, []), (41, 42, 0, 0, 0, (-1), [])] _ _ _ _ [] 42 [(0, .inr 0), (1, .inl v1), (2, .inl v2), (4, .inl v4), (5, .inl s0)] [.inl (-1 : Int32), .inl s0] μ (by decide +kernel) rfl rfl (zm_icmp (nx := 45) (a := 48) (b := 0) (k := 0) (sw := []) (zq_of (by decide +kernel)) (fun z1 => (zm_run [(48, 49, 27, 0, 0, 0, []), (49, 52, 4, 0, 0, 0, [])] _ _ _ _ [] 52 [(0, .inr 0), (1, .inl v1), (2, .inl v2), (4, .inl v4), (5, .inl s0)] [.inr 1] μ (by decide +kernel) rfl rfl (by obtain ⟨G, he, hk⟩ := (h0 (of_decide_eq_true z1)); exact zm_callV (as := [.inr 1]) (rest := []) (P := zpi G) (nx := 55) (a := 14) (b := 1) (k := 1) (sw := []) (zq_of (by decide +kernel)) rfl rfl rfl he (fun _ μ1 hp => by obtain ⟨v, rfl, hp⟩ := hp; exact (zm_V_pick [0, 1, 2, 4] rfl (hk v μ1 hp)))))) (fun z1 => (zm_run [(45, 47, 1, 5, 0, 0, [])] _ _ _ _ [] 47 [(0, .inr 0), (1, .inl v1), (2, .inl v2), (4, .inl v4), (5, .inl s0)] [.inl s0] μ (by decide +kernel) rfl rfl (zm_iret (nx := 48) (a := 0) (b := 0) (k := 0) (sw := []) (zq_of (by decide +kernel)) ⟨_, rfl, (h1 (of_decide_eq_false z1))⟩)))))

theorem k0_55 {X : zm_T} {d : Nat} {s0 v1 v2 v4 : Int32} {μ : zm_u} {P : Int32 → zm_u → Prop}
    (h0 : (24 : Int32) ≤ s0 → P (-2 : Int32) μ)
    (h1 : ¬ ((24 : Int32) ≤ s0) → ∃ G : Int32 → zm_u → Prop, zI X d 20 [.inr 1, .inl v1, .inl v2, .inl v4] μ G ∧ ∀ (r : Int32) (μ1 : zm_u), G r μ1 → zV X d 0 71 [(0, .inr 0), (1, .inl v1), (2, .inl v2), (4, .inl v4)] [.inl r] μ1 (zpi P)) :
    zV X d 0 55 [(0, .inr 0), (1, .inl v1), (2, .inl v2), (4, .inl v4)] [.inl s0] μ (zpi P) :=
  (zm_run [(55, 57, 0, 0, 0, 24, [])] _ _ _ _ [] 57 [(0, .inr 0), (1, .inl v1), (2, .inl v2), (4, .inl v4)] [.inl (24 : Int32), .inl s0] μ (by decide +kernel) rfl rfl (zm_icmp (nx := 60) (a := 75) (b := 3) (k := 0) (sw := []) (zq_of (by decide +kernel)) (fun z1 => (zm_run [(75, 77, 0, 0, 0, (-2), [])] _ _ _ _ [] 77 [(0, .inr 0), (1, .inl v1), (2, .inl v2), (4, .inl v4)] [.inl (-2 : Int32)] μ (by decide +kernel) rfl rfl (zm_iret (nx := 78) (a := 0) (b := 0) (k := 0) (sw := []) (zq_of (by decide +kernel)) ⟨_, rfl, (h0 (of_decide_eq_true z1))⟩))) (fun z1 => (zm_run [(60, 61, 27, 0, 0, 0, []), (61, 64, 4, 0, 0, 0, []), (64, 65, 1, 1, 0, 0, []), (65, 66, 1, 2, 0, 0, []), (66, 68, 1, 4, 0, 0, [])] _ _ _ _ [] 68 [(0, .inr 0), (1, .inl v1), (2, .inl v2), (4, .inl v4)] [.inl v4, .inl v2, .inl v1, .inr 1] μ (by decide +kernel) rfl rfl (by obtain ⟨G, he, hk⟩ := (h1 (of_decide_eq_false z1)); exact zm_callV (as := [.inr 1, .inl v1, .inl v2, .inl v4]) (rest := []) (P := zpi G) (nx := 71) (a := 20) (b := 4) (k := 1) (sw := []) (zq_of (by decide +kernel)) rfl rfl rfl he (fun _ μ1 hp => by obtain ⟨v, rfl, hp⟩ := hp; exact (zm_V_pick [0, 1, 2, 4] rfl (hk v μ1 hp))))))))

theorem k0_71 {X : zm_T} {d : Nat} {s0 v1 v2 v4 : Int32} {μ : zm_u} {P : Int32 → zm_u → Prop}
    (h0 : s0 ≤ (4 : Int32) → ∃ G : Int32 → zm_u → Prop, zI X d 23 [.inr 1, .inl v1, .inl v2, .inl v4] μ G ∧ ∀ (r : Int32) (μ1 : zm_u), G r μ1 → zV X d 0 89 [] [.inl r] μ1 (zpi P))
    (h1 : ¬ (s0 ≤ (4 : Int32)) → P (-2 : Int32) μ) :
    zV X d 0 71 [(0, .inr 0), (1, .inl v1), (2, .inl v2), (4, .inl v4)] [.inl s0] μ (zpi P) :=
  (zm_run [(71, 72, 0, 0, 0, 4, [])] _ _ _ _ [] 72 [(0, .inr 0), (1, .inl v1), (2, .inl v2), (4, .inl v4)] [.inl (4 : Int32), .inl s0] μ (by decide +kernel) rfl rfl (zm_icmp (nx := 75) (a := 78) (b := 5) (k := 0) (sw := []) (zq_of (by decide +kernel)) (fun z1 => (zm_run [(78, 79, 27, 0, 0, 0, []), (79, 82, 4, 0, 0, 0, []), (82, 83, 1, 1, 0, 0, []), (83, 84, 1, 2, 0, 0, []), (84, 86, 1, 4, 0, 0, [])] _ _ _ _ [] 86 [(0, .inr 0), (1, .inl v1), (2, .inl v2), (4, .inl v4)] [.inl v4, .inl v2, .inl v1, .inr 1] μ (by decide +kernel) rfl rfl (by obtain ⟨G, he, hk⟩ := (h0 (of_decide_eq_true z1)); exact zm_callV (as := [.inr 1, .inl v1, .inl v2, .inl v4]) (rest := []) (P := zpi G) (nx := 89) (a := 23) (b := 4) (k := 1) (sw := []) (zq_of (by decide +kernel)) rfl rfl rfl he (fun _ μ1 hp => by obtain ⟨v, rfl, hp⟩ := hp; exact (zm_V_pick [] rfl (hk v μ1 hp)))))) (fun z1 => (zm_run [(75, 77, 0, 0, 0, (-2), [])] _ _ _ _ [] 77 [(0, .inr 0), (1, .inl v1), (2, .inl v2), (4, .inl v4)] [.inl (-2 : Int32)] μ (by decide +kernel) rfl rfl (zm_iret (nx := 78) (a := 0) (b := 0) (k := 0) (sw := []) (zq_of (by decide +kernel)) ⟨_, rfl, (h1 (of_decide_eq_false z1))⟩)))))

theorem k0_89 {X : zm_T} {d : Nat} {s0 : Int32} {μ : zm_u} {P : Int32 → zm_u → Prop}
    (h0 : P s0 μ) :
    zV X d 0 89 [] [.inl s0] μ (zpi P) :=
  (zm_iret (nx := 90) (a := 0) (b := 0) (k := 0) (sw := []) (zq_of (by decide +kernel)) ⟨_, rfl, h0⟩)

/-! R.make (II)I : 1 -/
theorem k1_0 {X : zm_T} {d : Nat} {v1 v2 : Int32} {μ : zm_u} {P : Int32 → zm_u → Prop}
    (h0 : v1 < 0 → P (-1 : Int32) μ)
    (h1 : ¬ (v1 < 0) → (17 : Int32) < v1 → P (-1 : Int32) μ)
    (h2 : ¬ (v1 < 0) → ¬ ((17 : Int32) < v1) → ∃ G : Int32 → zm_u → Prop, zI X d 11 [.inr 0, .inl v1, .inl v2] μ G ∧ ∀ (r : Int32) (μ1 : zm_u), G r μ1 → zV X d 1 16 [(0, .inr 0), (1, .inl v1), (2, .inl v2)] [.inl r] μ1 (zpi P)) :
    zV X d 1 0 [(0, .inr 0), (1, .inl v1), (2, .inl v2)] [] μ (zpi P) :=
  (zm_run [(0, 1, 1, 1, 0, 0, [])] _ _ _ _ [] 1 [(0, .inr 0), (1, .inl v1), (2, .inl v2)] [.inl v1] μ (by decide +kernel) rfl rfl (zm_if (nx := 4) (a := 34) (b := 2) (k := 0) (sw := []) (zq_of (by decide +kernel)) (fun z1 => (zm_run [(34, 35, 0, 0, 0, (-1), [])] _ _ _ _ [] 35 [(0, .inr 0), (1, .inl v1), (2, .inl v2)] [.inl (-1 : Int32)] μ (by decide +kernel) rfl rfl (zm_iret (nx := 36) (a := 0) (b := 0) (k := 0) (sw := []) (zq_of (by decide +kernel)) ⟨_, rfl, (h0 (of_decide_eq_true z1))⟩))) (fun z1 => (zm_run [(4, 5, 1, 1, 0, 0, []), (5, 7, 0, 0, 0, 17, [])] _ _ _ _ [] 7 [(0, .inr 0), (1, .inl v1), (2, .inl v2)] [.inl (17 : Int32), .inl v1] μ (by decide +kernel) rfl rfl (zm_icmp (nx := 10) (a := 34) (b := 4) (k := 0) (sw := []) (zq_of (by decide +kernel)) (fun z2 => (zm_run [(34, 35, 0, 0, 0, (-1), [])] _ _ _ _ [] 35 [(0, .inr 0), (1, .inl v1), (2, .inl v2)] [.inl (-1 : Int32)] μ (by decide +kernel) rfl rfl (zm_iret (nx := 36) (a := 0) (b := 0) (k := 0) (sw := []) (zq_of (by decide +kernel)) ⟨_, rfl, (h1 (of_decide_eq_false z1) (of_decide_eq_true z2))⟩))) (fun z2 => (zm_run [(10, 11, 27, 0, 0, 0, []), (11, 12, 1, 1, 0, 0, []), (12, 13, 1, 2, 0, 0, [])] _ _ _ _ [] 13 [(0, .inr 0), (1, .inl v1), (2, .inl v2)] [.inl v2, .inl v1, .inr 0] μ (by decide +kernel) rfl rfl (by obtain ⟨G, he, hk⟩ := (h2 (of_decide_eq_false z1) (of_decide_eq_false z2)); exact zm_callV (as := [.inr 0, .inl v1, .inl v2]) (rest := []) (P := zpi G) (nx := 16) (a := 11) (b := 3) (k := 0) (sw := []) (zq_of (by decide +kernel)) rfl rfl rfl he (fun _ μ1 hp => by obtain ⟨v, rfl, hp⟩ := hp; exact (zm_V_pick [0, 1, 2] rfl (hk v μ1 hp)))))))))))

theorem k1_16 {X : zm_T} {d : Nat} {s0 v1 v2 : Int32} {μ : zm_u} {P : Int32 → zm_u → Prop}
    (h0 : s0 = 0 → P (-1 : Int32) μ)
    (h1 : ¬ (s0 = 0) → ∃ G : Int32 → zm_u → Prop, zI X d 29 [.inr 2] μ G ∧ ∀ (r : Int32) (μ1 : zm_u), G r μ1 → zV X d 1 26 [(0, .inr 0), (1, .inl v1), (2, .inl v2)] [.inl r] μ1 (zpi P)) :
    zV X d 1 16 [(0, .inr 0), (1, .inl v1), (2, .inl v2)] [.inl s0] μ (zpi P) :=
  (zm_if (nx := 19) (a := 34) (b := 0) (k := 0) (sw := []) (zq_of (by decide +kernel)) (fun z1 => (zm_run [(34, 35, 0, 0, 0, (-1), [])] _ _ _ _ [] 35 [(0, .inr 0), (1, .inl v1), (2, .inl v2)] [.inl (-1 : Int32)] μ (by decide +kernel) rfl rfl (zm_iret (nx := 36) (a := 0) (b := 0) (k := 0) (sw := []) (zq_of (by decide +kernel)) ⟨_, rfl, (h0 (of_decide_eq_true z1))⟩))) (fun z1 => (zm_run [(19, 20, 27, 0, 0, 0, []), (20, 23, 4, 1, 0, 0, [])] _ _ _ _ [] 23 [(0, .inr 0), (1, .inl v1), (2, .inl v2)] [.inr 2] μ (by decide +kernel) rfl rfl (by obtain ⟨G, he, hk⟩ := (h1 (of_decide_eq_false z1)); exact zm_callV (as := [.inr 2]) (rest := []) (P := zpi G) (nx := 26) (a := 29) (b := 1) (k := 2) (sw := []) (zq_of (by decide +kernel)) rfl rfl rfl he (fun _ μ1 hp => by obtain ⟨v, rfl, hp⟩ := hp; exact (zm_V_pick [0, 1, 2] rfl (hk v μ1 hp)))))))

theorem k1_26 {X : zm_T} {d : Nat} {s0 v1 v2 : Int32} {μ : zm_u} {P : Int32 → zm_u → Prop}
    (h0 : ∃ G : Int32 → zm_u → Prop, zI X d 12 [.inl v1, .inl v2] μ G ∧ ∀ (r : Int32) (μ1 : zm_u), G r μ1 → zV X d 1 31 [(0, .inr 0), (1, .inl v1), (2, .inl v2)] [.inl r, .inl s0] μ1 (zpi P)) :
    zV X d 1 26 [(0, .inr 0), (1, .inl v1), (2, .inl v2)] [.inl s0] μ (zpi P) :=
  (zm_run [(26, 27, 1, 1, 0, 0, []), (27, 28, 1, 2, 0, 0, [])] _ _ _ _ [] 28 [(0, .inr 0), (1, .inl v1), (2, .inl v2)] [.inl v2, .inl v1, .inl s0] μ (by decide +kernel) rfl rfl (by obtain ⟨G, he, hk⟩ := h0; exact zm_callS (as := [.inl v1, .inl v2]) (rest := [.inl s0]) (P := zpi G) (nx := 31) (a := 12) (b := 2) (k := 0) (sw := []) (zq_of (by decide +kernel)) rfl rfl rfl he (fun _ μ1 hp => by obtain ⟨v, rfl, hp⟩ := hp; exact (zm_V_pick [0, 1, 2] rfl (hk v μ1 hp)))))

theorem k1_31 {X : zm_T} {d : Nat} {s0 s1 v1 v2 : Int32} {μ : zm_u} {P : Int32 → zm_u → Prop}
    (h0 : s1 ≤ s0 → ∃ G : Int32 → zm_u → Prop, zI X d 36 [.inr 2, .inl v1, .inl v2] μ G ∧ ∀ (r : Int32) (μ1 : zm_u), G r μ1 → zV X d 1 45 [] [.inl r] μ1 (zpi P))
    (h1 : ¬ (s1 ≤ s0) → P (-1 : Int32) μ) :
    zV X d 1 31 [(0, .inr 0), (1, .inl v1), (2, .inl v2)] [.inl s1, .inl s0] μ (zpi P) :=
  (zm_icmp (nx := 34) (a := 36) (b := 3) (k := 0) (sw := []) (zq_of (by decide +kernel)) (fun z1 => (zm_run [(36, 37, 27, 0, 0, 0, []), (37, 40, 4, 1, 0, 0, []), (40, 41, 1, 1, 0, 0, []), (41, 42, 1, 2, 0, 0, [])] _ _ _ _ [] 42 [(0, .inr 0), (1, .inl v1), (2, .inl v2)] [.inl v2, .inl v1, .inr 2] μ (by decide +kernel) rfl rfl (by obtain ⟨G, he, hk⟩ := (h0 (of_decide_eq_true z1)); exact zm_callV (as := [.inr 2, .inl v1, .inl v2]) (rest := []) (P := zpi G) (nx := 45) (a := 36) (b := 3) (k := 2) (sw := []) (zq_of (by decide +kernel)) rfl rfl rfl he (fun _ μ1 hp => by obtain ⟨v, rfl, hp⟩ := hp; exact (zm_V_pick [] rfl (hk v μ1 hp)))))) (fun z1 => (zm_run [(34, 35, 0, 0, 0, (-1), [])] _ _ _ _ [] 35 [(0, .inr 0), (1, .inl v1), (2, .inl v2)] [.inl (-1 : Int32)] μ (by decide +kernel) rfl rfl (zm_iret (nx := 36) (a := 0) (b := 0) (k := 0) (sw := []) (zq_of (by decide +kernel)) ⟨_, rfl, (h1 (of_decide_eq_false z1))⟩))))

theorem k1_45 {X : zm_T} {d : Nat} {s0 : Int32} {μ : zm_u} {P : Int32 → zm_u → Prop}
    (h0 : P s0 μ) :
    zV X d 1 45 [] [.inl s0] μ (zpi P) :=
  (zm_iret (nx := 46) (a := 0) (b := 0) (k := 0) (sw := []) (zq_of (by decide +kernel)) ⟨_, rfl, h0⟩)

/-! R.height ()I : 2 -/
theorem k2_0 {X : zm_T} {d : Nat} {μ : zm_u} {P : Int32 → zm_u → Prop}
    (h0 : ∃ G : Int32 → zm_u → Prop, zI X d 29 [.inr 2] μ G ∧ ∀ (r : Int32) (μ1 : zm_u), G r μ1 → zV X d 2 7 [] [.inl r] μ1 (zpi P)) :
    zV X d 2 0 [(0, .inr 0)] [] μ (zpi P) :=
  (zm_run [(0, 1, 27, 0, 0, 0, []), (1, 4, 4, 1, 0, 0, [])] _ _ _ _ [] 4 [(0, .inr 0)] [.inr 2] μ (by decide +kernel) rfl rfl (by obtain ⟨G, he, hk⟩ := h0; exact zm_callV (as := [.inr 2]) (rest := []) (P := zpi G) (nx := 7) (a := 29) (b := 1) (k := 2) (sw := []) (zq_of (by decide +kernel)) rfl rfl rfl he (fun _ μ1 hp => by obtain ⟨v, rfl, hp⟩ := hp; exact (zm_V_pick [] rfl (hk v μ1 hp)))))

theorem k2_7 {X : zm_T} {d : Nat} {s0 : Int32} {μ : zm_u} {P : Int32 → zm_u → Prop}
    (h0 : P s0 μ) :
    zV X d 2 7 [] [.inl s0] μ (zpi P) :=
  (zm_iret (nx := 8) (a := 0) (b := 0) (k := 0) (sw := []) (zq_of (by decide +kernel)) ⟨_, rfl, h0⟩)

/-! R.drop ()I : 3 -/
theorem k3_0 {X : zm_T} {d : Nat} {μ : zm_u} {P : Int32 → zm_u → Prop}
    (h0 : ∃ G : Int32 → zm_u → Prop, zI X d 29 [.inr 2] μ G ∧ ∀ (r : Int32) (μ1 : zm_u), G r μ1 → zV X d 3 7 [(0, .inr 0)] [.inl r] μ1 (zpi P)) :
    zV X d 3 0 [(0, .inr 0)] [] μ (zpi P) :=
  (zm_run [(0, 1, 27, 0, 0, 0, []), (1, 4, 4, 1, 0, 0, [])] _ _ _ _ [] 4 [(0, .inr 0)] [.inr 2] μ (by decide +kernel) rfl rfl (by obtain ⟨G, he, hk⟩ := h0; exact zm_callV (as := [.inr 2]) (rest := []) (P := zpi G) (nx := 7) (a := 29) (b := 1) (k := 2) (sw := []) (zq_of (by decide +kernel)) rfl rfl rfl he (fun _ μ1 hp => by obtain ⟨v, rfl, hp⟩ := hp; exact (zm_V_pick [0] rfl (hk v μ1 hp)))))

theorem k3_7 {X : zm_T} {d : Nat} {s0 : Int32} {μ : zm_u} {P : Int32 → zm_u → Prop}
    (h0 : ¬ s0 = 0 → ∃ G : zm_u → Prop, zO X d 38 [.inr 2] μ G ∧ ∀ μ1 : zm_u, G μ1 → zV X d 3 19 [(0, .inr 0)] [] μ1 (zpi P))
    (h1 : s0 = 0 → P (-1 : Int32) μ) :
    zV X d 3 7 [(0, .inr 0)] [.inl s0] μ (zpi P) :=
  (zm_if (nx := 10) (a := 12) (b := 1) (k := 0) (sw := []) (zq_of (by decide +kernel)) (fun z1 => (zm_run [(12, 13, 27, 0, 0, 0, []), (13, 16, 4, 1, 0, 0, [])] _ _ _ _ [] 16 [(0, .inr 0)] [.inr 2] μ (by decide +kernel) rfl rfl (by obtain ⟨G, he, hk⟩ := (h0 (of_decide_eq_true z1)); exact zm_callV (as := [.inr 2]) (rest := []) (P := zpo G) (nx := 19) (a := 38) (b := 1) (k := 2) (sw := []) (zq_of (by decide +kernel)) rfl rfl rfl he (fun _ μ1 hp => by obtain ⟨rfl, hp⟩ := hp; exact (zm_V_pick [0] rfl (hk μ1 hp)))))) (fun z1 => (zm_run [(10, 11, 0, 0, 0, (-1), [])] _ _ _ _ [] 11 [(0, .inr 0)] [.inl (-1 : Int32)] μ (by decide +kernel) rfl rfl (zm_iret (nx := 12) (a := 0) (b := 0) (k := 0) (sw := []) (zq_of (by decide +kernel)) ⟨_, rfl, (h1 (Classical.byContradiction fun w => (of_decide_eq_false z1) w))⟩))))

theorem k3_19 {X : zm_T} {d : Nat} {μ : zm_u} {P : Int32 → zm_u → Prop}
    (h0 : ∃ G : Int32 → zm_u → Prop, zI X d 29 [.inr 2] μ G ∧ ∀ (r : Int32) (μ1 : zm_u), G r μ1 → zV X d 3 26 [] [.inl r] μ1 (zpi P)) :
    zV X d 3 19 [(0, .inr 0)] [] μ (zpi P) :=
  (zm_run [(19, 20, 27, 0, 0, 0, []), (20, 23, 4, 1, 0, 0, [])] _ _ _ _ [] 23 [(0, .inr 0)] [.inr 2] μ (by decide +kernel) rfl rfl (by obtain ⟨G, he, hk⟩ := h0; exact zm_callV (as := [.inr 2]) (rest := []) (P := zpi G) (nx := 26) (a := 29) (b := 1) (k := 2) (sw := []) (zq_of (by decide +kernel)) rfl rfl rfl he (fun _ μ1 hp => by obtain ⟨v, rfl, hp⟩ := hp; exact (zm_V_pick [] rfl (hk v μ1 hp)))))

theorem k3_26 {X : zm_T} {d : Nat} {s0 : Int32} {μ : zm_u} {P : Int32 → zm_u → Prop}
    (h0 : P s0 μ) :
    zV X d 3 26 [] [.inl s0] μ (zpi P) :=
  (zm_iret (nx := 27) (a := 0) (b := 0) (k := 0) (sw := []) (zq_of (by decide +kernel)) ⟨_, rfl, h0⟩)

/-! R.function (I)Z : 4 -/
theorem k4_0 {X : zm_T} {d : Nat} {v1 : Int32} {μ : zm_u} {P : Int32 → zm_u → Prop}
    (h0 : ∃ G : Int32 → zm_u → Prop, zI X d 29 [.inr 2] μ G ∧ ∀ (r : Int32) (μ1 : zm_u), G r μ1 → zV X d 4 7 [(0, .inr 0), (1, .inl v1)] [.inl r] μ1 (zpi P)) :
    zV X d 4 0 [(0, .inr 0), (1, .inl v1)] [] μ (zpi P) :=
  (zm_run [(0, 1, 27, 0, 0, 0, []), (1, 4, 4, 1, 0, 0, [])] _ _ _ _ [] 4 [(0, .inr 0), (1, .inl v1)] [.inr 2] μ (by decide +kernel) rfl rfl (by obtain ⟨G, he, hk⟩ := h0; exact zm_callV (as := [.inr 2]) (rest := []) (P := zpi G) (nx := 7) (a := 29) (b := 1) (k := 2) (sw := []) (zq_of (by decide +kernel)) rfl rfl rfl he (fun _ μ1 hp => by obtain ⟨v, rfl, hp⟩ := hp; exact (zm_V_pick [0, 1] rfl (hk v μ1 hp)))))

theorem k4_7 {X : zm_T} {d : Nat} {s0 v1 : Int32} {μ : zm_u} {P : Int32 → zm_u → Prop}
    (h0 : s0 = 0 → P (0 : Int32) μ)
    (h1 : ¬ (s0 = 0) → ∃ G : Int32 → zm_u → Prop, zI X d 15 [.inr 1, .inl v1] μ G ∧ ∀ (r : Int32) (μ1 : zm_u), G r μ1 → zV X d 4 18 [(0, .inr 0), (1, .inl v1)] [.inl r] μ1 (zpi P)) :
    zV X d 4 7 [(0, .inr 0), (1, .inl v1)] [.inl s0] μ (zpi P) :=
  (zm_if (nx := 10) (a := 21) (b := 0) (k := 0) (sw := []) (zq_of (by decide +kernel)) (fun z1 => (zm_run [(21, 22, 0, 0, 0, 0, [])] _ _ _ _ [] 22 [(0, .inr 0), (1, .inl v1)] [.inl (0 : Int32)] μ (by decide +kernel) rfl rfl (zm_zret (nx := 23) (a := 0) (b := 0) (k := 0) (sw := []) (zq_of (by decide +kernel)) (Or.inl rfl) ⟨_, rfl, (h0 (of_decide_eq_true z1))⟩))) (fun z1 => (zm_run [(10, 11, 27, 0, 0, 0, []), (11, 14, 4, 0, 0, 0, []), (14, 15, 1, 1, 0, 0, [])] _ _ _ _ [] 15 [(0, .inr 0), (1, .inl v1)] [.inl v1, .inr 1] μ (by decide +kernel) rfl rfl (by obtain ⟨G, he, hk⟩ := (h1 (of_decide_eq_false z1)); exact zm_callV (as := [.inr 1, .inl v1]) (rest := []) (P := zpi G) (nx := 18) (a := 15) (b := 2) (k := 1) (sw := []) (zq_of (by decide +kernel)) rfl rfl rfl he (fun _ μ1 hp => by obtain ⟨v, rfl, hp⟩ := hp; exact (zm_V_pick [0, 1] rfl (hk v μ1 hp)))))))

theorem k4_18 {X : zm_T} {d : Nat} {s0 v1 : Int32} {μ : zm_u} {P : Int32 → zm_u → Prop}
    (h0 : ¬ s0 = 0 → ∃ G : zm_u → Prop, zO X d 39 [.inr 2] μ G ∧ ∀ μ1 : zm_u, G μ1 → zV X d 4 30 [(0, .inr 0), (1, .inl v1)] [] μ1 (zpi P))
    (h1 : s0 = 0 → P (0 : Int32) μ) :
    zV X d 4 18 [(0, .inr 0), (1, .inl v1)] [.inl s0] μ (zpi P) :=
  (zm_if (nx := 21) (a := 23) (b := 1) (k := 0) (sw := []) (zq_of (by decide +kernel)) (fun z1 => (zm_run [(23, 24, 27, 0, 0, 0, []), (24, 27, 4, 1, 0, 0, [])] _ _ _ _ [] 27 [(0, .inr 0), (1, .inl v1)] [.inr 2] μ (by decide +kernel) rfl rfl (by obtain ⟨G, he, hk⟩ := (h0 (of_decide_eq_true z1)); exact zm_callV (as := [.inr 2]) (rest := []) (P := zpo G) (nx := 30) (a := 39) (b := 1) (k := 2) (sw := []) (zq_of (by decide +kernel)) rfl rfl rfl he (fun _ μ1 hp => by obtain ⟨rfl, hp⟩ := hp; exact (zm_V_pick [0, 1] rfl (hk μ1 hp)))))) (fun z1 => (zm_run [(21, 22, 0, 0, 0, 0, [])] _ _ _ _ [] 22 [(0, .inr 0), (1, .inl v1)] [.inl (0 : Int32)] μ (by decide +kernel) rfl rfl (zm_zret (nx := 23) (a := 0) (b := 0) (k := 0) (sw := []) (zq_of (by decide +kernel)) (Or.inl rfl) ⟨_, rfl, (h1 (Classical.byContradiction fun w => (of_decide_eq_false z1) w))⟩))))

theorem k4_30 {X : zm_T} {d : Nat} {v1 : Int32} {μ : zm_u} {P : Int32 → zm_u → Prop}
    (h0 : P (1 : Int32) (zm_up μ 0 4 v1)) :
    zV X d 4 30 [(0, .inr 0), (1, .inl v1)] [] μ (zpi P) :=
  (zm_run [(30, 31, 27, 0, 0, 0, []), (31, 32, 1, 1, 0, 0, []), (32, 35, 5, 4, 0, 0, []), (35, 36, 0, 0, 0, 1, [])] _ _ _ _ [] 36 [(0, .inr 0), (1, .inl v1)] [.inl (1 : Int32)] (zm_up μ 0 4 v1) (by decide +kernel) rfl rfl (zm_zret (nx := 37) (a := 0) (b := 0) (k := 0) (sw := []) (zq_of (by decide +kernel)) (Or.inr rfl) ⟨_, rfl, h0⟩))

/-! R.main (I)Z : 5 -/
theorem k5_0 {X : zm_T} {d : Nat} {v1 : Int32} {μ : zm_u} {P : Int32 → zm_u → Prop}
    (h0 : ∃ G : Int32 → zm_u → Prop, zI X d 29 [.inr 2] μ G ∧ ∀ (r : Int32) (μ1 : zm_u), G r μ1 → zV X d 5 7 [(0, .inr 0), (1, .inl v1)] [.inl r] μ1 (zpi P)) :
    zV X d 5 0 [(0, .inr 0), (1, .inl v1)] [] μ (zpi P) :=
  (zm_run [(0, 1, 27, 0, 0, 0, []), (1, 4, 4, 1, 0, 0, [])] _ _ _ _ [] 4 [(0, .inr 0), (1, .inl v1)] [.inr 2] μ (by decide +kernel) rfl rfl (by obtain ⟨G, he, hk⟩ := h0; exact zm_callV (as := [.inr 2]) (rest := []) (P := zpi G) (nx := 7) (a := 29) (b := 1) (k := 2) (sw := []) (zq_of (by decide +kernel)) rfl rfl rfl he (fun _ μ1 hp => by obtain ⟨v, rfl, hp⟩ := hp; exact (zm_V_pick [0, 1] rfl (hk v μ1 hp)))))

theorem k5_7 {X : zm_T} {d : Nat} {s0 v1 : Int32} {μ : zm_u} {P : Int32 → zm_u → Prop}
    (h0 : s0 = 0 → P (0 : Int32) μ)
    (h1 : ¬ (s0 = 0) → ∃ G : Int32 → zm_u → Prop, zI X d 15 [.inr 1, .inl v1] μ G ∧ ∀ (r : Int32) (μ1 : zm_u), G r μ1 → zV X d 5 18 [(0, .inr 0), (1, .inl v1)] [.inl r] μ1 (zpi P)) :
    zV X d 5 7 [(0, .inr 0), (1, .inl v1)] [.inl s0] μ (zpi P) :=
  (zm_if (nx := 10) (a := 21) (b := 0) (k := 0) (sw := []) (zq_of (by decide +kernel)) (fun z1 => (zm_run [(21, 22, 0, 0, 0, 0, [])] _ _ _ _ [] 22 [(0, .inr 0), (1, .inl v1)] [.inl (0 : Int32)] μ (by decide +kernel) rfl rfl (zm_zret (nx := 23) (a := 0) (b := 0) (k := 0) (sw := []) (zq_of (by decide +kernel)) (Or.inl rfl) ⟨_, rfl, (h0 (of_decide_eq_true z1))⟩))) (fun z1 => (zm_run [(10, 11, 27, 0, 0, 0, []), (11, 14, 4, 0, 0, 0, []), (14, 15, 1, 1, 0, 0, [])] _ _ _ _ [] 15 [(0, .inr 0), (1, .inl v1)] [.inl v1, .inr 1] μ (by decide +kernel) rfl rfl (by obtain ⟨G, he, hk⟩ := (h1 (of_decide_eq_false z1)); exact zm_callV (as := [.inr 1, .inl v1]) (rest := []) (P := zpi G) (nx := 18) (a := 15) (b := 2) (k := 1) (sw := []) (zq_of (by decide +kernel)) rfl rfl rfl he (fun _ μ1 hp => by obtain ⟨v, rfl, hp⟩ := hp; exact (zm_V_pick [0, 1] rfl (hk v μ1 hp)))))))

theorem k5_18 {X : zm_T} {d : Nat} {s0 v1 : Int32} {μ : zm_u} {P : Int32 → zm_u → Prop}
    (h0 : ¬ s0 = 0 → ∃ G : zm_u → Prop, zO X d 40 [.inr 2] μ G ∧ ∀ μ1 : zm_u, G μ1 → zV X d 5 30 [(0, .inr 0), (1, .inl v1)] [] μ1 (zpi P))
    (h1 : s0 = 0 → P (0 : Int32) μ) :
    zV X d 5 18 [(0, .inr 0), (1, .inl v1)] [.inl s0] μ (zpi P) :=
  (zm_if (nx := 21) (a := 23) (b := 1) (k := 0) (sw := []) (zq_of (by decide +kernel)) (fun z1 => (zm_run [(23, 24, 27, 0, 0, 0, []), (24, 27, 4, 1, 0, 0, [])] _ _ _ _ [] 27 [(0, .inr 0), (1, .inl v1)] [.inr 2] μ (by decide +kernel) rfl rfl (by obtain ⟨G, he, hk⟩ := (h0 (of_decide_eq_true z1)); exact zm_callV (as := [.inr 2]) (rest := []) (P := zpo G) (nx := 30) (a := 40) (b := 1) (k := 2) (sw := []) (zq_of (by decide +kernel)) rfl rfl rfl he (fun _ μ1 hp => by obtain ⟨rfl, hp⟩ := hp; exact (zm_V_pick [0, 1] rfl (hk μ1 hp)))))) (fun z1 => (zm_run [(21, 22, 0, 0, 0, 0, [])] _ _ _ _ [] 22 [(0, .inr 0), (1, .inl v1)] [.inl (0 : Int32)] μ (by decide +kernel) rfl rfl (zm_zret (nx := 23) (a := 0) (b := 0) (k := 0) (sw := []) (zq_of (by decide +kernel)) (Or.inl rfl) ⟨_, rfl, (h1 (Classical.byContradiction fun w => (of_decide_eq_false z1) w))⟩))))

theorem k5_30 {X : zm_T} {d : Nat} {v1 : Int32} {μ : zm_u} {P : Int32 → zm_u → Prop}
    (h0 : P (1 : Int32) (zm_up μ 0 5 v1)) :
    zV X d 5 30 [(0, .inr 0), (1, .inl v1)] [] μ (zpi P) :=
  (zm_run [(30, 31, 27, 0, 0, 0, []), (31, 32, 1, 1, 0, 0, []), (32, 35, 5, 5, 0, 0, []), (35, 36, 0, 0, 0, 1, [])] _ _ _ _ [] 36 [(0, .inr 0), (1, .inl v1)] [.inl (1 : Int32)] (zm_up μ 0 5 v1) (by decide +kernel) rfl rfl (zm_zret (nx := 37) (a := 0) (b := 0) (k := 0) (sw := []) (zq_of (by decide +kernel)) (Or.inr rfl) ⟨_, rfl, h0⟩))

/-! R.check ()I : 6 -/
theorem k6_0 {X : zm_T} {d : Nat} {μ : zm_u} {P : Int32 → zm_u → Prop}
    (h0 : ∃ G : Int32 → zm_u → Prop, zI X d 44 [.inr 3, .inl (μ 0 4)] μ G ∧ ∀ (r : Int32) (μ1 : zm_u), G r μ1 → zV X d 6 11 [(0, .inr 0)] [.inl r] μ1 (zpi P)) :
    zV X d 6 0 [(0, .inr 0)] [] μ (zpi P) :=
  (zm_run [(0, 1, 27, 0, 0, 0, []), (1, 4, 4, 2, 0, 0, []), (4, 5, 27, 0, 0, 0, []), (5, 8, 4, 4, 0, 0, [])] _ _ _ _ [] 8 [(0, .inr 0)] [.inl (μ 0 4), .inr 3] μ (by decide +kernel) rfl rfl (by obtain ⟨G, he, hk⟩ := h0; exact zm_callV (as := [.inr 3, .inl (μ 0 4)]) (rest := []) (P := zpi G) (nx := 11) (a := 44) (b := 2) (k := 3) (sw := []) (zq_of (by decide +kernel)) rfl rfl rfl he (fun _ μ1 hp => by obtain ⟨v, rfl, hp⟩ := hp; exact (zm_V_pick [0] rfl (hk v μ1 hp)))))

theorem k6_11 {X : zm_T} {d : Nat} {s0 : Int32} {μ : zm_u} {P : Int32 → zm_u → Prop}
    (h0 : ¬ s0 = 0 → ∃ G : Int32 → zm_u → Prop, zI X d 45 [.inr 3, .inl (μ 0 5), .inl (μ 0 4)] μ G ∧ ∀ (r : Int32) (μ1 : zm_u), G r μ1 → zV X d 6 31 [] [.inl r] μ1 (zpi P))
    (h1 : s0 = 0 → P (1 : Int32) μ) :
    zV X d 6 11 [(0, .inr 0)] [.inl s0] μ (zpi P) :=
  (zm_if (nx := 14) (a := 16) (b := 1) (k := 0) (sw := []) (zq_of (by decide +kernel)) (fun z1 => (zm_run [(16, 17, 27, 0, 0, 0, []), (17, 20, 4, 2, 0, 0, []), (20, 21, 27, 0, 0, 0, []), (21, 24, 4, 5, 0, 0, []), (24, 25, 27, 0, 0, 0, []), (25, 28, 4, 4, 0, 0, [])] _ _ _ _ [] 28 [(0, .inr 0)] [.inl (μ 0 4), .inl (μ 0 5), .inr 3] μ (by decide +kernel) rfl rfl (by obtain ⟨G, he, hk⟩ := (h0 (of_decide_eq_true z1)); exact zm_callV (as := [.inr 3, .inl (μ 0 5), .inl (μ 0 4)]) (rest := []) (P := zpi G) (nx := 31) (a := 45) (b := 3) (k := 3) (sw := []) (zq_of (by decide +kernel)) rfl rfl rfl he (fun _ μ1 hp => by obtain ⟨v, rfl, hp⟩ := hp; exact (zm_V_pick [] rfl (hk v μ1 hp)))))) (fun z1 => (zm_run [(14, 15, 0, 0, 0, 1, [])] _ _ _ _ [] 15 [(0, .inr 0)] [.inl (1 : Int32)] μ (by decide +kernel) rfl rfl (zm_iret (nx := 16) (a := 0) (b := 0) (k := 0) (sw := []) (zq_of (by decide +kernel)) ⟨_, rfl, (h1 (Classical.byContradiction fun w => (of_decide_eq_false z1) w))⟩))))

theorem k6_31 {X : zm_T} {d : Nat} {s0 : Int32} {μ : zm_u} {P : Int32 → zm_u → Prop}
    (h0 : s0 = 0 → P (2 : Int32) μ)
    (h1 : ¬ (s0 = 0) → P (0 : Int32) μ) :
    zV X d 6 31 [] [.inl s0] μ (zpi P) :=
  (zm_if (nx := 34) (a := 38) (b := 0) (k := 0) (sw := []) (zq_of (by decide +kernel)) (fun z1 => (zm_run [(38, 39, 0, 0, 0, 2, [])] _ _ _ _ [] 39 [] [.inl (2 : Int32)] μ (by decide +kernel) rfl rfl (zm_iret (nx := 40) (a := 0) (b := 0) (k := 0) (sw := []) (zq_of (by decide +kernel)) ⟨_, rfl, (h0 (of_decide_eq_true z1))⟩))) (fun z1 => (zm_run [(34, 35, 0, 0, 0, 0, []), (35, 38, 19, 39, 0, 0, [])] _ _ _ _ [] 39 [] [.inl (0 : Int32)] μ (by decide +kernel) rfl rfl (zm_iret (nx := 40) (a := 0) (b := 0) (k := 0) (sw := []) (zq_of (by decide +kernel)) ⟨_, rfl, (h1 (of_decide_eq_false z1))⟩))))

/-! R.evaluate ()I : 7 -/
theorem k7_0 {X : zm_T} {d : Nat} {μ : zm_u} {P : Int32 → zm_u → Prop}
    (h0 : ∃ G : Int32 → zm_u → Prop, zI X d 64 [.inr 4] μ G ∧ ∀ (r : Int32) (μ1 : zm_u), G r μ1 → zV X d 7 7 [] [.inl r] μ1 (zpi P)) :
    zV X d 7 0 [(0, .inr 0)] [] μ (zpi P) :=
  (zm_run [(0, 1, 27, 0, 0, 0, []), (1, 4, 4, 3, 0, 0, [])] _ _ _ _ [] 4 [(0, .inr 0)] [.inr 4] μ (by decide +kernel) rfl rfl (by obtain ⟨G, he, hk⟩ := h0; exact zm_callV (as := [.inr 4]) (rest := []) (P := zpi G) (nx := 7) (a := 64) (b := 1) (k := 4) (sw := []) (zq_of (by decide +kernel)) rfl rfl rfl he (fun _ μ1 hp => by obtain ⟨v, rfl, hp⟩ := hp; exact (zm_V_pick [] rfl (hk v μ1 hp)))))

theorem k7_7 {X : zm_T} {d : Nat} {s0 : Int32} {μ : zm_u} {P : Int32 → zm_u → Prop}
    (h0 : P s0 μ) :
    zV X d 7 7 [] [.inl s0] μ (zpi P) :=
  (zm_iret (nx := 8) (a := 0) (b := 0) (k := 0) (sw := []) (zq_of (by decide +kernel)) ⟨_, rfl, h0⟩)

/-! R.steps ()I : 8 -/
theorem k8_0 {X : zm_T} {d : Nat} {μ : zm_u} {P : Int32 → zm_u → Prop}
    (h0 : ∃ G : Int32 → zm_u → Prop, zI X d 65 [.inr 4] μ G ∧ ∀ (r : Int32) (μ1 : zm_u), G r μ1 → zV X d 8 7 [] [.inl r] μ1 (zpi P)) :
    zV X d 8 0 [(0, .inr 0)] [] μ (zpi P) :=
  (zm_run [(0, 1, 27, 0, 0, 0, []), (1, 4, 4, 3, 0, 0, [])] _ _ _ _ [] 4 [(0, .inr 0)] [.inr 4] μ (by decide +kernel) rfl rfl (by obtain ⟨G, he, hk⟩ := h0; exact zm_callV (as := [.inr 4]) (rest := []) (P := zpi G) (nx := 7) (a := 65) (b := 1) (k := 4) (sw := []) (zq_of (by decide +kernel)) rfl rfl rfl he (fun _ μ1 hp => by obtain ⟨v, rfl, hp⟩ := hp; exact (zm_V_pick [] rfl (hk v μ1 hp)))))

theorem k8_7 {X : zm_T} {d : Nat} {s0 : Int32} {μ : zm_u} {P : Int32 → zm_u → Prop}
    (h0 : P s0 μ) :
    zV X d 8 7 [] [.inl s0] μ (zpi P) :=
  (zm_iret (nx := 8) (a := 0) (b := 0) (k := 0) (sw := []) (zq_of (by decide +kernel)) ⟨_, rfl, h0⟩)

/-! R.value (I)I : 9 -/
theorem k9_0 {X : zm_T} {d : Nat} {v1 : Int32} {μ : zm_u} {P : Int32 → zm_u → Prop}
    (h0 : ∃ G : Int32 → zm_u → Prop, zI X d 66 [.inr 4, .inl v1] μ G ∧ ∀ (r : Int32) (μ1 : zm_u), G r μ1 → zV X d 9 8 [] [.inl r] μ1 (zpi P)) :
    zV X d 9 0 [(0, .inr 0), (1, .inl v1)] [] μ (zpi P) :=
  (zm_run [(0, 1, 27, 0, 0, 0, []), (1, 4, 4, 3, 0, 0, []), (4, 5, 1, 1, 0, 0, [])] _ _ _ _ [] 5 [(0, .inr 0), (1, .inl v1)] [.inl v1, .inr 4] μ (by decide +kernel) rfl rfl (by obtain ⟨G, he, hk⟩ := h0; exact zm_callV (as := [.inr 4, .inl v1]) (rest := []) (P := zpi G) (nx := 8) (a := 66) (b := 2) (k := 4) (sw := []) (zq_of (by decide +kernel)) rfl rfl rfl he (fun _ μ1 hp => by obtain ⟨v, rfl, hp⟩ := hp; exact (zm_V_pick [] rfl (hk v μ1 hp)))))

theorem k9_8 {X : zm_T} {d : Nat} {s0 : Int32} {μ : zm_u} {P : Int32 → zm_u → Prop}
    (h0 : P s0 μ) :
    zV X d 9 8 [] [.inl s0] μ (zpi P) :=
  (zm_iret (nx := 9) (a := 0) (b := 0) (k := 0) (sw := []) (zq_of (by decide +kernel)) ⟨_, rfl, h0⟩)

/-! R.number (I)I : 10 -/
theorem k10_0 {X : zm_T} {d : Nat} {v1 : Int32} {μ : zm_u} {P : Int32 → zm_u → Prop}
    (h0 : ∃ G : Int32 → zm_u → Prop, zI X d 67 [.inr 4, .inl v1] μ G ∧ ∀ (r : Int32) (μ1 : zm_u), G r μ1 → zV X d 10 8 [] [.inl r] μ1 (zpi P)) :
    zV X d 10 0 [(0, .inr 0), (1, .inl v1)] [] μ (zpi P) :=
  (zm_run [(0, 1, 27, 0, 0, 0, []), (1, 4, 4, 3, 0, 0, []), (4, 5, 1, 1, 0, 0, [])] _ _ _ _ [] 5 [(0, .inr 0), (1, .inl v1)] [.inl v1, .inr 4] μ (by decide +kernel) rfl rfl (by obtain ⟨G, he, hk⟩ := h0; exact zm_callV (as := [.inr 4, .inl v1]) (rest := []) (P := zpi G) (nx := 8) (a := 67) (b := 2) (k := 4) (sw := []) (zq_of (by decide +kernel)) rfl rfl rfl he (fun _ μ1 hp => by obtain ⟨v, rfl, hp⟩ := hp; exact (zm_V_pick [] rfl (hk v μ1 hp)))))

theorem k10_8 {X : zm_T} {d : Nat} {s0 : Int32} {μ : zm_u} {P : Int32 → zm_u → Prop}
    (h0 : P s0 μ) :
    zV X d 10 8 [] [.inl s0] μ (zpi P) :=
  (zm_iret (nx := 9) (a := 0) (b := 0) (k := 0) (sw := []) (zq_of (by decide +kernel)) ⟨_, rfl, h0⟩)

/-! R.isAsSaid (II)Z : 11 -/
set_option maxRecDepth 100000 in
theorem k11_0 {X : zm_T} {d : Nat} {v1 v2 : Int32} {μ : zm_u} {P : Int32 → zm_u → Prop}
    (h0 : v1 = 1 → v2 = 0 → P (1 : Int32) μ)
    (h1 : v1 = 1 → ¬ (v2 = 0) → ¬ v2 = (1 : Int32) → P (0 : Int32) μ)
    (h2 : v1 = 1 → ¬ (v2 = 0) → v2 = (1 : Int32) → P (1 : Int32) μ)
    (h3 : ¬ v1 = 1 → v1 = 2 → v2 < 0 → P (0 : Int32) μ)
    (h4 : ¬ v1 = 1 → v1 = 2 → ¬ (v2 < 0) → (12 : Int32) ≤ v2 → P (0 : Int32) μ)
    (h5 : ¬ v1 = 1 → v1 = 2 → ¬ (v2 < 0) → ¬ ((12 : Int32) ≤ v2) → P (1 : Int32) μ)
    (h6 : ¬ v1 = 1 → ¬ v1 = 2 → v1 = 10 → ∃ G : Int32 → zm_u → Prop, zI X d 15 [.inr 1, .inl v2] μ G ∧ ∀ (r : Int32) (μ1 : zm_u), G r μ1 → zV X d 11 83 [] [.inl r] μ1 (zpi P))
    (h7 : ¬ v1 = 1 → ¬ v1 = 2 → ¬ v1 = 10 → v1 = 17 → v2 < (1 : Int32) → P (0 : Int32) μ)
    (h8 : ¬ v1 = 1 → ¬ v1 = 2 → ¬ v1 = 10 → v1 = 17 → ¬ (v2 < (1 : Int32)) → (63 : Int32) < v2 → P (0 : Int32) μ)
    (h9 : ¬ v1 = 1 → ¬ v1 = 2 → ¬ v1 = 10 → v1 = 17 → ¬ (v2 < (1 : Int32)) → ¬ ((63 : Int32) < v2) → P (1 : Int32) μ)
    (h10 : ¬ v1 = 1 → ¬ v1 = 2 → ¬ v1 = 10 → ¬ v1 = 17 → P (1 : Int32) μ) :
    zV X d 11 0 [(0, .inr 0), (1, .inl v1), (2, .inl v2)] [] μ (zpi P) :=
  (zm_run [(0, 1, 1, 1, 0, 0, [])] _ _ _ _ [] 1 [(0, .inr 0), (1, .inl v1), (2, .inl v2)] [.inl v1] μ (by decide +kernel) rfl rfl (zm_switch (nx := 44) (a := 101) (b := 0) (k := 0) (sw := [(1, 44), (2, 59), (10, 75), (17, 84)]) (zq_of (by decide +kernel)) (zsw_e (fun z1 => (zm_run [(44, 45, 1, 2, 0, 0, [])] _ _ _ _ [] 45 [(0, .inr 0), (1, .inl v1), (2, .inl v2)] [.inl v2] μ (by decide +kernel) rfl rfl (zm_if (nx := 48) (a := 53) (b := 0) (k := 0) (sw := []) (zq_of (by decide +kernel)) (fun z2 => (zm_run [(53, 54, 0, 0, 0, 1, []), (54, 57, 19, 58, 0, 0, [])] _ _ _ _ [] 58 [(0, .inr 0), (1, .inl v1), (2, .inl v2)] [.inl (1 : Int32)] μ (by decide +kernel) rfl rfl (zm_zret (nx := 59) (a := 0) (b := 0) (k := 0) (sw := []) (zq_of (by decide +kernel)) (Or.inr rfl) ⟨_, rfl, (h0 z1 (of_decide_eq_true z2))⟩))) (fun z2 => (zm_run [(48, 49, 1, 2, 0, 0, []), (49, 50, 0, 0, 0, 1, [])] _ _ _ _ [] 50 [(0, .inr 0), (1, .inl v1), (2, .inl v2)] [.inl (1 : Int32), .inl v2] μ (by decide +kernel) rfl rfl (zm_icmp (nx := 53) (a := 57) (b := 1) (k := 0) (sw := []) (zq_of (by decide +kernel)) (fun z3 => (zm_run [(57, 58, 0, 0, 0, 0, [])] _ _ _ _ [] 58 [(0, .inr 0), (1, .inl v1), (2, .inl v2)] [.inl (0 : Int32)] μ (by decide +kernel) rfl rfl (zm_zret (nx := 59) (a := 0) (b := 0) (k := 0) (sw := []) (zq_of (by decide +kernel)) (Or.inl rfl) ⟨_, rfl, (h1 z1 (of_decide_eq_false z2) (of_decide_eq_true z3))⟩))) (fun z3 => (zm_run [(53, 54, 0, 0, 0, 1, []), (54, 57, 19, 58, 0, 0, [])] _ _ _ _ [] 58 [(0, .inr 0), (1, .inl v1), (2, .inl v2)] [.inl (1 : Int32)] μ (by decide +kernel) rfl rfl (zm_zret (nx := 59) (a := 0) (b := 0) (k := 0) (sw := []) (zq_of (by decide +kernel)) (Or.inr rfl) ⟨_, rfl, (h2 z1 (of_decide_eq_false z2) (Classical.byContradiction fun w => (of_decide_eq_false z3) w))⟩))))))))) (fun z1 => (zsw_e (fun z4 => (zm_run [(59, 60, 1, 2, 0, 0, [])] _ _ _ _ [] 60 [(0, .inr 0), (1, .inl v1), (2, .inl v2)] [.inl v2] μ (by decide +kernel) rfl rfl (zm_if (nx := 63) (a := 73) (b := 2) (k := 0) (sw := []) (zq_of (by decide +kernel)) (fun z5 => (zm_run [(73, 74, 0, 0, 0, 0, [])] _ _ _ _ [] 74 [(0, .inr 0), (1, .inl v1), (2, .inl v2)] [.inl (0 : Int32)] μ (by decide +kernel) rfl rfl (zm_zret (nx := 75) (a := 0) (b := 0) (k := 0) (sw := []) (zq_of (by decide +kernel)) (Or.inl rfl) ⟨_, rfl, (h3 z1 z4 (of_decide_eq_true z5))⟩))) (fun z5 => (zm_run [(63, 64, 1, 2, 0, 0, []), (64, 66, 0, 0, 0, 12, [])] _ _ _ _ [] 66 [(0, .inr 0), (1, .inl v1), (2, .inl v2)] [.inl (12 : Int32), .inl v2] μ (by decide +kernel) rfl rfl (zm_icmp (nx := 69) (a := 73) (b := 3) (k := 0) (sw := []) (zq_of (by decide +kernel)) (fun z6 => (zm_run [(73, 74, 0, 0, 0, 0, [])] _ _ _ _ [] 74 [(0, .inr 0), (1, .inl v1), (2, .inl v2)] [.inl (0 : Int32)] μ (by decide +kernel) rfl rfl (zm_zret (nx := 75) (a := 0) (b := 0) (k := 0) (sw := []) (zq_of (by decide +kernel)) (Or.inl rfl) ⟨_, rfl, (h4 z1 z4 (of_decide_eq_false z5) (of_decide_eq_true z6))⟩))) (fun z6 => (zm_run [(69, 70, 0, 0, 0, 1, []), (70, 73, 19, 74, 0, 0, [])] _ _ _ _ [] 74 [(0, .inr 0), (1, .inl v1), (2, .inl v2)] [.inl (1 : Int32)] μ (by decide +kernel) rfl rfl (zm_zret (nx := 75) (a := 0) (b := 0) (k := 0) (sw := []) (zq_of (by decide +kernel)) (Or.inr rfl) ⟨_, rfl, (h5 z1 z4 (of_decide_eq_false z5) (of_decide_eq_false z6))⟩))))))))) (fun z4 => (zsw_e (fun z7 => (zm_run [(75, 76, 27, 0, 0, 0, []), (76, 79, 4, 0, 0, 0, []), (79, 80, 1, 2, 0, 0, [])] _ _ _ _ [] 80 [(0, .inr 0), (1, .inl v1), (2, .inl v2)] [.inl v2, .inr 1] μ (by decide +kernel) rfl rfl (by obtain ⟨G, he, hk⟩ := (h6 z1 z4 z7); exact zm_callV (as := [.inr 1, .inl v2]) (rest := []) (P := zpi G) (nx := 83) (a := 15) (b := 2) (k := 1) (sw := []) (zq_of (by decide +kernel)) rfl rfl rfl he (fun _ μ1 hp => by obtain ⟨v, rfl, hp⟩ := hp; exact (zm_V_pick [] rfl (hk v μ1 hp)))))) (fun z7 => (zsw_e (fun z8 => (zm_run [(84, 85, 1, 2, 0, 0, []), (85, 86, 0, 0, 0, 1, [])] _ _ _ _ [] 86 [(0, .inr 0), (1, .inl v1), (2, .inl v2)] [.inl (1 : Int32), .inl v2] μ (by decide +kernel) rfl rfl (zm_icmp (nx := 89) (a := 99) (b := 2) (k := 0) (sw := []) (zq_of (by decide +kernel)) (fun z9 => (zm_run [(99, 100, 0, 0, 0, 0, [])] _ _ _ _ [] 100 [(0, .inr 0), (1, .inl v1), (2, .inl v2)] [.inl (0 : Int32)] μ (by decide +kernel) rfl rfl (zm_zret (nx := 101) (a := 0) (b := 0) (k := 0) (sw := []) (zq_of (by decide +kernel)) (Or.inl rfl) ⟨_, rfl, (h7 z1 z4 z7 z8 (of_decide_eq_true z9))⟩))) (fun z9 => (zm_run [(89, 90, 1, 2, 0, 0, []), (90, 92, 0, 0, 0, 63, [])] _ _ _ _ [] 92 [(0, .inr 0), (1, .inl v1), (2, .inl v2)] [.inl (63 : Int32), .inl v2] μ (by decide +kernel) rfl rfl (zm_icmp (nx := 95) (a := 99) (b := 4) (k := 0) (sw := []) (zq_of (by decide +kernel)) (fun z10 => (zm_run [(99, 100, 0, 0, 0, 0, [])] _ _ _ _ [] 100 [(0, .inr 0), (1, .inl v1), (2, .inl v2)] [.inl (0 : Int32)] μ (by decide +kernel) rfl rfl (zm_zret (nx := 101) (a := 0) (b := 0) (k := 0) (sw := []) (zq_of (by decide +kernel)) (Or.inl rfl) ⟨_, rfl, (h8 z1 z4 z7 z8 (of_decide_eq_false z9) (of_decide_eq_true z10))⟩))) (fun z10 => (zm_run [(95, 96, 0, 0, 0, 1, []), (96, 99, 19, 100, 0, 0, [])] _ _ _ _ [] 100 [(0, .inr 0), (1, .inl v1), (2, .inl v2)] [.inl (1 : Int32)] μ (by decide +kernel) rfl rfl (zm_zret (nx := 101) (a := 0) (b := 0) (k := 0) (sw := []) (zq_of (by decide +kernel)) (Or.inr rfl) ⟨_, rfl, (h9 z1 z4 z7 z8 (of_decide_eq_false z9) (of_decide_eq_false z10))⟩))))))))) (fun z8 => (zm_run [(101, 102, 0, 0, 0, 1, [])] _ _ _ _ [] 102 [(0, .inr 0), (1, .inl v1), (2, .inl v2)] [.inl (1 : Int32)] μ (by decide +kernel) rfl rfl (zm_zret (nx := 103) (a := 0) (b := 0) (k := 0) (sw := []) (zq_of (by decide +kernel)) (Or.inr rfl) ⟨_, rfl, (h10 z1 z4 z7 z8)⟩))))))))))))

theorem k11_83 {X : zm_T} {d : Nat} {s0 : Int32} {μ : zm_u} {P : Int32 → zm_u → Prop}
    (h0 : s0 = 0 ∨ s0 = 1)
    (h1 : P s0 μ) :
    zV X d 11 83 [] [.inl s0] μ (zpi P) :=
  (zm_zret (nx := 84) (a := 0) (b := 0) (k := 0) (sw := []) (zq_of (by decide +kernel)) h0 ⟨_, rfl, h1⟩)

/-! R.partsOf (II)I : 12 -/
set_option maxRecDepth 100000 in
theorem k12_0 {X : zm_T} {d : Nat} {v0 v1 : Int32} {μ : zm_u} {P : Int32 → zm_u → Prop}
    (h0 : v0 < 0 → P (0 : Int32) μ)
    (h1 : ¬ (v0 < 0) → v0 ≤ (17 : Int32) → ¬ v0 = (17 : Int32) → 0 ≤ (v0).toInt ∧ (v0).toInt < 18)
    (h2 : ¬ (v0 < 0) → v0 ≤ (17 : Int32) → ¬ v0 = (17 : Int32) → P (zm_pt (v0).toNatClampNeg) μ)
    (h3 : ¬ (v0 < 0) → v0 ≤ (17 : Int32) → v0 = (17 : Int32) → 0 ≤ (v0).toInt ∧ (v0).toInt < 18)
    (h4 : ¬ (v0 < 0) → v0 ≤ (17 : Int32) → v0 = (17 : Int32) → ∃ G : Int32 → zm_u → Prop, zI X d 161 [.inl v1] μ G ∧ ∀ (r : Int32) (μ1 : zm_u), G r μ1 → zV X d 12 27 [] [.inl r, .inl (zm_pt (v0).toNatClampNeg)] μ1 (zpi P))
    (h5 : ¬ (v0 < 0) → ¬ (v0 ≤ (17 : Int32)) → P (0 : Int32) μ) :
    zV X d 12 0 [(0, .inl v0), (1, .inl v1)] [] μ (zpi P) :=
  (zm_run [(0, 1, 1, 0, 0, 0, [])] _ _ _ _ [] 1 [(0, .inl v0), (1, .inl v1)] [.inl v0] μ (by decide +kernel) rfl rfl (zm_if (nx := 4) (a := 10) (b := 2) (k := 0) (sw := []) (zq_of (by decide +kernel)) (fun z1 => (zm_run [(10, 11, 0, 0, 0, 0, [])] _ _ _ _ [] 11 [(0, .inl v0), (1, .inl v1)] [.inl (0 : Int32)] μ (by decide +kernel) rfl rfl (zm_iret (nx := 12) (a := 0) (b := 0) (k := 0) (sw := []) (zq_of (by decide +kernel)) ⟨_, rfl, (h0 (of_decide_eq_true z1))⟩))) (fun z1 => (zm_run [(4, 5, 1, 0, 0, 0, []), (5, 7, 0, 0, 0, 17, [])] _ _ _ _ [] 7 [(0, .inl v0), (1, .inl v1)] [.inl (17 : Int32), .inl v0] μ (by decide +kernel) rfl rfl (zm_icmp (nx := 10) (a := 12) (b := 5) (k := 0) (sw := []) (zq_of (by decide +kernel)) (fun z2 => (zm_run [(12, 13, 1, 0, 0, 0, []), (13, 15, 0, 0, 0, 17, [])] _ _ _ _ [] 15 [(0, .inl v0), (1, .inl v1)] [.inl (17 : Int32), .inl v0] μ (by decide +kernel) rfl rfl (zm_icmp (nx := 18) (a := 31) (b := 1) (k := 0) (sw := []) (zq_of (by decide +kernel)) (fun z3 => (zm_run [(31, 34, 21, 0, 0, 0, []), (34, 35, 1, 0, 0, 0, []), (35, 36, 20, 0, 0, 0, [])] _ _ _ _ [decide (0 ≤ (v0).toInt ∧ (v0).toInt < 18)] 36 [(0, .inl v0), (1, .inl v1)] [.inl (zm_pt (v0).toNatClampNeg)] μ (by decide +kernel) rfl (zm_bc (h1 (of_decide_eq_false z1) (of_decide_eq_true z2) (of_decide_eq_true z3)) rfl) (zm_iret (nx := 37) (a := 0) (b := 0) (k := 0) (sw := []) (zq_of (by decide +kernel)) ⟨_, rfl, (h2 (of_decide_eq_false z1) (of_decide_eq_true z2) (of_decide_eq_true z3))⟩))) (fun z3 => (zm_run [(18, 21, 21, 0, 0, 0, []), (21, 22, 1, 0, 0, 0, []), (22, 23, 20, 0, 0, 0, []), (23, 24, 1, 1, 0, 0, [])] _ _ _ _ [decide (0 ≤ (v0).toInt ∧ (v0).toInt < 18)] 24 [(0, .inl v0), (1, .inl v1)] [.inl v1, .inl (zm_pt (v0).toNatClampNeg)] μ (by decide +kernel) rfl (zm_bc (h3 (of_decide_eq_false z1) (of_decide_eq_true z2) (Classical.byContradiction fun w => (of_decide_eq_false z3) w)) rfl) (by obtain ⟨G, he, hk⟩ := (h4 (of_decide_eq_false z1) (of_decide_eq_true z2) (Classical.byContradiction fun w => (of_decide_eq_false z3) w)); exact zm_callS (as := [.inl v1]) (rest := [.inl (zm_pt (v0).toNatClampNeg)]) (P := zpi G) (nx := 27) (a := 161) (b := 1) (k := 0) (sw := []) (zq_of (by decide +kernel)) rfl rfl rfl he (fun _ μ1 hp => by obtain ⟨v, rfl, hp⟩ := hp; exact (zm_V_pick [] rfl (hk v μ1 hp))))))))) (fun z2 => (zm_run [(10, 11, 0, 0, 0, 0, [])] _ _ _ _ [] 11 [(0, .inl v0), (1, .inl v1)] [.inl (0 : Int32)] μ (by decide +kernel) rfl rfl (zm_iret (nx := 12) (a := 0) (b := 0) (k := 0) (sw := []) (zq_of (by decide +kernel)) ⟨_, rfl, (h5 (of_decide_eq_false z1) (of_decide_eq_false z2))⟩))))))))

theorem k12_27 {X : zm_T} {d : Nat} {s0 s1 : Int32} {μ : zm_u} {P : Int32 → zm_u → Prop}
    (h0 : P (s0 + s1) μ) :
    zV X d 12 27 [] [.inl s1, .inl s0] μ (zpi P) :=
  (zm_run [(27, 28, 10, 0, 0, 0, []), (28, 31, 19, 36, 0, 0, [])] _ _ _ _ [] 36 [] [.inl (s0 + s1)] μ (by decide +kernel) rfl rfl (zm_iret (nx := 37) (a := 0) (b := 0) (k := 0) (sw := []) (zq_of (by decide +kernel)) ⟨_, rfl, h0⟩))

/-! R.isMaker (I)Z : 13 -/
theorem k13_0 {X : zm_T} {d : Nat} {v0 : Int32} {μ : zm_u} {P : Int32 → zm_u → Prop}
    (h0 : v0 < (11 : Int32) → P (0 : Int32) μ)
    (h1 : ¬ (v0 < (11 : Int32)) → (16 : Int32) < v0 → P (0 : Int32) μ)
    (h2 : ¬ (v0 < (11 : Int32)) → ¬ ((16 : Int32) < v0) → P (1 : Int32) μ) :
    zV X d 13 0 [(0, .inl v0)] [] μ (zpi P) :=
  (zm_run [(0, 1, 1, 0, 0, 0, []), (1, 3, 0, 0, 0, 11, [])] _ _ _ _ [] 3 [(0, .inl v0)] [.inl (11 : Int32), .inl v0] μ (by decide +kernel) rfl rfl (zm_icmp (nx := 6) (a := 16) (b := 2) (k := 0) (sw := []) (zq_of (by decide +kernel)) (fun z1 => (zm_run [(16, 17, 0, 0, 0, 0, [])] _ _ _ _ [] 17 [(0, .inl v0)] [.inl (0 : Int32)] μ (by decide +kernel) rfl rfl (zm_zret (nx := 18) (a := 0) (b := 0) (k := 0) (sw := []) (zq_of (by decide +kernel)) (Or.inl rfl) ⟨_, rfl, (h0 (of_decide_eq_true z1))⟩))) (fun z1 => (zm_run [(6, 7, 1, 0, 0, 0, []), (7, 9, 0, 0, 0, 16, [])] _ _ _ _ [] 9 [(0, .inl v0)] [.inl (16 : Int32), .inl v0] μ (by decide +kernel) rfl rfl (zm_icmp (nx := 12) (a := 16) (b := 4) (k := 0) (sw := []) (zq_of (by decide +kernel)) (fun z2 => (zm_run [(16, 17, 0, 0, 0, 0, [])] _ _ _ _ [] 17 [(0, .inl v0)] [.inl (0 : Int32)] μ (by decide +kernel) rfl rfl (zm_zret (nx := 18) (a := 0) (b := 0) (k := 0) (sw := []) (zq_of (by decide +kernel)) (Or.inl rfl) ⟨_, rfl, (h1 (of_decide_eq_false z1) (of_decide_eq_true z2))⟩))) (fun z2 => (zm_run [(12, 13, 0, 0, 0, 1, []), (13, 16, 19, 17, 0, 0, [])] _ _ _ _ [] 17 [(0, .inl v0)] [.inl (1 : Int32)] μ (by decide +kernel) rfl rfl (zm_zret (nx := 18) (a := 0) (b := 0) (k := 0) (sw := []) (zq_of (by decide +kernel)) (Or.inr rfl) ⟨_, rfl, (h2 (of_decide_eq_false z1) (of_decide_eq_false z2))⟩))))))))

/-! Ty.count ()I : 14 -/
theorem k14_0 {X : zm_T} {d : Nat} {μ : zm_u} {P : Int32 → zm_u → Prop}
    (h0 : P (μ 1 3) μ) :
    zV X d 14 0 [(0, .inr 1)] [] μ (zpi P) :=
  (zm_run [(0, 1, 27, 0, 0, 0, []), (1, 4, 4, 3, 1, 0, [])] _ _ _ _ [] 4 [(0, .inr 1)] [.inl (μ 1 3)] μ (by decide +kernel) rfl rfl (zm_iret (nx := 5) (a := 0) (b := 0) (k := 0) (sw := []) (zq_of (by decide +kernel)) ⟨_, rfl, h0⟩))

/-! Ty.has (I)Z : 15 -/
theorem k15_0 {X : zm_T} {d : Nat} {v1 : Int32} {μ : zm_u} {P : Int32 → zm_u → Prop}
    (h0 : v1 < 0 → P (0 : Int32) μ)
    (h1 : ¬ (v1 < 0) → (μ 1 3) ≤ v1 → P (0 : Int32) μ)
    (h2 : ¬ (v1 < 0) → ¬ ((μ 1 3) ≤ v1) → P (1 : Int32) μ) :
    zV X d 15 0 [(0, .inr 1), (1, .inl v1)] [] μ (zpi P) :=
  (zm_run [(0, 1, 1, 1, 0, 0, [])] _ _ _ _ [] 1 [(0, .inr 1), (1, .inl v1)] [.inl v1] μ (by decide +kernel) rfl rfl (zm_if (nx := 4) (a := 16) (b := 2) (k := 0) (sw := []) (zq_of (by decide +kernel)) (fun z1 => (zm_run [(16, 17, 0, 0, 0, 0, [])] _ _ _ _ [] 17 [(0, .inr 1), (1, .inl v1)] [.inl (0 : Int32)] μ (by decide +kernel) rfl rfl (zm_zret (nx := 18) (a := 0) (b := 0) (k := 0) (sw := []) (zq_of (by decide +kernel)) (Or.inl rfl) ⟨_, rfl, (h0 (of_decide_eq_true z1))⟩))) (fun z1 => (zm_run [(4, 5, 1, 1, 0, 0, []), (5, 6, 27, 0, 0, 0, []), (6, 9, 4, 3, 1, 0, [])] _ _ _ _ [] 9 [(0, .inr 1), (1, .inl v1)] [.inl (μ 1 3), .inl v1] μ (by decide +kernel) rfl rfl (zm_icmp (nx := 12) (a := 16) (b := 3) (k := 0) (sw := []) (zq_of (by decide +kernel)) (fun z2 => (zm_run [(16, 17, 0, 0, 0, 0, [])] _ _ _ _ [] 17 [(0, .inr 1), (1, .inl v1)] [.inl (0 : Int32)] μ (by decide +kernel) rfl rfl (zm_zret (nx := 18) (a := 0) (b := 0) (k := 0) (sw := []) (zq_of (by decide +kernel)) (Or.inl rfl) ⟨_, rfl, (h1 (of_decide_eq_false z1) (of_decide_eq_true z2))⟩))) (fun z2 => (zm_run [(12, 13, 0, 0, 0, 1, []), (13, 16, 19, 17, 0, 0, [])] _ _ _ _ [] 17 [(0, .inr 1), (1, .inl v1)] [.inl (1 : Int32)] μ (by decide +kernel) rfl rfl (zm_zret (nx := 18) (a := 0) (b := 0) (k := 0) (sw := []) (zq_of (by decide +kernel)) (Or.inr rfl) ⟨_, rfl, (h2 (of_decide_eq_false z1) (of_decide_eq_false z2))⟩))))))))

/-! Ty.kindOf (I)I : 16 -/
theorem k16_0 {X : zm_T} {d : Nat} {v1 : Int32} {μ : zm_u} {P : Int32 → zm_u → Prop}
    (h0 : ∃ G : Int32 → zm_u → Prop, zI X d 15 [.inr 1, .inl v1] μ G ∧ ∀ (r : Int32) (μ1 : zm_u), G r μ1 → zV X d 16 5 [(0, .inr 1), (1, .inl v1)] [.inl r] μ1 (zpi P)) :
    zV X d 16 0 [(0, .inr 1), (1, .inl v1)] [] μ (zpi P) :=
  (zm_run [(0, 1, 27, 0, 0, 0, []), (1, 2, 1, 1, 0, 0, [])] _ _ _ _ [] 2 [(0, .inr 1), (1, .inl v1)] [.inl v1, .inr 1] μ (by decide +kernel) rfl rfl (by obtain ⟨G, he, hk⟩ := h0; exact zm_callV (as := [.inr 1, .inl v1]) (rest := []) (P := zpi G) (nx := 5) (a := 15) (b := 2) (k := 1) (sw := []) (zq_of (by decide +kernel)) rfl rfl rfl he (fun _ μ1 hp => by obtain ⟨v, rfl, hp⟩ := hp; exact (zm_V_pick [0, 1] rfl (hk v μ1 hp)))))

theorem k16_5 {X : zm_T} {d : Nat} {s0 v1 : Int32} {μ : zm_u} {P : Int32 → zm_u → Prop}
    (h0 : s0 = 0 → P (-1 : Int32) μ)
    (h1 : ¬ (s0 = 0) → 0 ≤ (v1).toInt ∧ (v1).toInt < ((466 : Nat) : Int))
    (h2 : ¬ (s0 = 0) → P (μ 6 (v1).toNatClampNeg) μ) :
    zV X d 16 5 [(0, .inr 1), (1, .inl v1)] [.inl s0] μ (zpi P) :=
  (zm_if (nx := 8) (a := 17) (b := 0) (k := 0) (sw := []) (zq_of (by decide +kernel)) (fun z1 => (zm_run [(17, 18, 0, 0, 0, (-1), [])] _ _ _ _ [] 18 [(0, .inr 1), (1, .inl v1)] [.inl (-1 : Int32)] μ (by decide +kernel) rfl rfl (zm_iret (nx := 19) (a := 0) (b := 0) (k := 0) (sw := []) (zq_of (by decide +kernel)) ⟨_, rfl, (h0 (of_decide_eq_true z1))⟩))) (fun z1 => (zm_run [(8, 9, 27, 0, 0, 0, []), (9, 12, 4, 0, 1, 0, []), (12, 13, 1, 1, 0, 0, []), (13, 14, 6, 0, 0, 0, []), (14, 17, 19, 18, 0, 0, [])] _ _ _ _ [decide (0 ≤ (v1).toInt ∧ (v1).toInt < ((466 : Nat) : Int))] 18 [(0, .inr 1), (1, .inl v1)] [.inl (μ 6 (v1).toNatClampNeg)] μ (by decide +kernel) rfl (zm_bc (h1 (of_decide_eq_false z1)) rfl) (zm_iret (nx := 19) (a := 0) (b := 0) (k := 0) (sw := []) (zq_of (by decide +kernel)) ⟨_, rfl, (h2 (of_decide_eq_false z1))⟩))))

/-! Ty.firstOf (I)I : 17 -/
theorem k17_0 {X : zm_T} {d : Nat} {v1 : Int32} {μ : zm_u} {P : Int32 → zm_u → Prop}
    (h0 : ∃ G : Int32 → zm_u → Prop, zI X d 15 [.inr 1, .inl v1] μ G ∧ ∀ (r : Int32) (μ1 : zm_u), G r μ1 → zV X d 17 5 [(0, .inr 1), (1, .inl v1)] [.inl r] μ1 (zpi P)) :
    zV X d 17 0 [(0, .inr 1), (1, .inl v1)] [] μ (zpi P) :=
  (zm_run [(0, 1, 27, 0, 0, 0, []), (1, 2, 1, 1, 0, 0, [])] _ _ _ _ [] 2 [(0, .inr 1), (1, .inl v1)] [.inl v1, .inr 1] μ (by decide +kernel) rfl rfl (by obtain ⟨G, he, hk⟩ := h0; exact zm_callV (as := [.inr 1, .inl v1]) (rest := []) (P := zpi G) (nx := 5) (a := 15) (b := 2) (k := 1) (sw := []) (zq_of (by decide +kernel)) rfl rfl rfl he (fun _ μ1 hp => by obtain ⟨v, rfl, hp⟩ := hp; exact (zm_V_pick [0, 1] rfl (hk v μ1 hp)))))

theorem k17_5 {X : zm_T} {d : Nat} {s0 v1 : Int32} {μ : zm_u} {P : Int32 → zm_u → Prop}
    (h0 : s0 = 0 → P (-1 : Int32) μ)
    (h1 : ¬ (s0 = 0) → 0 ≤ (v1).toInt ∧ (v1).toInt < ((466 : Nat) : Int))
    (h2 : ¬ (s0 = 0) → P (μ 7 (v1).toNatClampNeg) μ) :
    zV X d 17 5 [(0, .inr 1), (1, .inl v1)] [.inl s0] μ (zpi P) :=
  (zm_if (nx := 8) (a := 17) (b := 0) (k := 0) (sw := []) (zq_of (by decide +kernel)) (fun z1 => (zm_run [(17, 18, 0, 0, 0, (-1), [])] _ _ _ _ [] 18 [(0, .inr 1), (1, .inl v1)] [.inl (-1 : Int32)] μ (by decide +kernel) rfl rfl (zm_iret (nx := 19) (a := 0) (b := 0) (k := 0) (sw := []) (zq_of (by decide +kernel)) ⟨_, rfl, (h0 (of_decide_eq_true z1))⟩))) (fun z1 => (zm_run [(8, 9, 27, 0, 0, 0, []), (9, 12, 4, 1, 1, 0, []), (12, 13, 1, 1, 0, 0, []), (13, 14, 6, 0, 0, 0, []), (14, 17, 19, 18, 0, 0, [])] _ _ _ _ [decide (0 ≤ (v1).toInt ∧ (v1).toInt < ((466 : Nat) : Int))] 18 [(0, .inr 1), (1, .inl v1)] [.inl (μ 7 (v1).toNatClampNeg)] μ (by decide +kernel) rfl (zm_bc (h1 (of_decide_eq_false z1)) rfl) (zm_iret (nx := 19) (a := 0) (b := 0) (k := 0) (sw := []) (zq_of (by decide +kernel)) ⟨_, rfl, (h2 (of_decide_eq_false z1))⟩))))

/-! Ty.secondOf (I)I : 18 -/
theorem k18_0 {X : zm_T} {d : Nat} {v1 : Int32} {μ : zm_u} {P : Int32 → zm_u → Prop}
    (h0 : ∃ G : Int32 → zm_u → Prop, zI X d 15 [.inr 1, .inl v1] μ G ∧ ∀ (r : Int32) (μ1 : zm_u), G r μ1 → zV X d 18 5 [(0, .inr 1), (1, .inl v1)] [.inl r] μ1 (zpi P)) :
    zV X d 18 0 [(0, .inr 1), (1, .inl v1)] [] μ (zpi P) :=
  (zm_run [(0, 1, 27, 0, 0, 0, []), (1, 2, 1, 1, 0, 0, [])] _ _ _ _ [] 2 [(0, .inr 1), (1, .inl v1)] [.inl v1, .inr 1] μ (by decide +kernel) rfl rfl (by obtain ⟨G, he, hk⟩ := h0; exact zm_callV (as := [.inr 1, .inl v1]) (rest := []) (P := zpi G) (nx := 5) (a := 15) (b := 2) (k := 1) (sw := []) (zq_of (by decide +kernel)) rfl rfl rfl he (fun _ μ1 hp => by obtain ⟨v, rfl, hp⟩ := hp; exact (zm_V_pick [0, 1] rfl (hk v μ1 hp)))))

theorem k18_5 {X : zm_T} {d : Nat} {s0 v1 : Int32} {μ : zm_u} {P : Int32 → zm_u → Prop}
    (h0 : s0 = 0 → P (-1 : Int32) μ)
    (h1 : ¬ (s0 = 0) → 0 ≤ (v1).toInt ∧ (v1).toInt < ((466 : Nat) : Int))
    (h2 : ¬ (s0 = 0) → P (μ 8 (v1).toNatClampNeg) μ) :
    zV X d 18 5 [(0, .inr 1), (1, .inl v1)] [.inl s0] μ (zpi P) :=
  (zm_if (nx := 8) (a := 17) (b := 0) (k := 0) (sw := []) (zq_of (by decide +kernel)) (fun z1 => (zm_run [(17, 18, 0, 0, 0, (-1), [])] _ _ _ _ [] 18 [(0, .inr 1), (1, .inl v1)] [.inl (-1 : Int32)] μ (by decide +kernel) rfl rfl (zm_iret (nx := 19) (a := 0) (b := 0) (k := 0) (sw := []) (zq_of (by decide +kernel)) ⟨_, rfl, (h0 (of_decide_eq_true z1))⟩))) (fun z1 => (zm_run [(8, 9, 27, 0, 0, 0, []), (9, 12, 4, 2, 1, 0, []), (12, 13, 1, 1, 0, 0, []), (13, 14, 6, 0, 0, 0, []), (14, 17, 19, 18, 0, 0, [])] _ _ _ _ [decide (0 ≤ (v1).toInt ∧ (v1).toInt < ((466 : Nat) : Int))] 18 [(0, .inr 1), (1, .inl v1)] [.inl (μ 8 (v1).toNatClampNeg)] μ (by decide +kernel) rfl (zm_bc (h1 (of_decide_eq_false z1)) rfl) (zm_iret (nx := 19) (a := 0) (b := 0) (k := 0) (sw := []) (zq_of (by decide +kernel)) ⟨_, rfl, (h2 (of_decide_eq_false z1))⟩))))

/-! Ty.canBeMade (III)Z : 19 -/
set_option maxRecDepth 100000 in
theorem k19_0 {X : zm_T} {d : Nat} {v1 v2 v3 : Int32} {μ : zm_u} {P : Int32 → zm_u → Prop}
    (h0 : v1 = 0 → ∃ G : Int32 → zm_u → Prop, zI X d 15 [.inr 1, .inl v2] μ G ∧ ∀ (r : Int32) (μ1 : zm_u), G r μ1 → zV X d 19 33 [(0, .inr 1), (3, .inl v3)] [.inl r] μ1 (zpi P))
    (h1 : ¬ v1 = 0 → v1 = 1 → ∃ G : Int32 → zm_u → Prop, zI X d 15 [.inr 1, .inl v2] μ G ∧ ∀ (r : Int32) (μ1 : zm_u), G r μ1 → zV X d 19 55 [] [.inl r] μ1 (zpi P))
    (h2 : ¬ v1 = 0 → ¬ v1 = 1 → v1 = 2 → v2 < 0 → P (0 : Int32) μ)
    (h3 : ¬ v1 = 0 → ¬ v1 = 1 → v1 = 2 → ¬ (v2 < 0) → (3 : Int32) ≤ v2 → P (0 : Int32) μ)
    (h4 : ¬ v1 = 0 → ¬ v1 = 1 → v1 = 2 → ¬ (v2 < 0) → ¬ ((3 : Int32) ≤ v2) → P (1 : Int32) μ)
    (h5 : ¬ v1 = 0 → ¬ v1 = 1 → ¬ v1 = 2 → P (0 : Int32) μ) :
    zV X d 19 0 [(0, .inr 1), (1, .inl v1), (2, .inl v2), (3, .inl v3)] [] μ (zpi P) :=
  (zm_run [(0, 1, 1, 1, 0, 0, [])] _ _ _ _ [] 1 [(0, .inr 1), (1, .inl v1), (2, .inl v2), (3, .inl v3)] [.inl v1] μ (by decide +kernel) rfl rfl (zm_switch (nx := 28) (a := 71) (b := 0) (k := 0) (sw := [(0, 28), (1, 50), (2, 56)]) (zq_of (by decide +kernel)) (zsw_e (fun z1 => (zm_run [(28, 29, 27, 0, 0, 0, []), (29, 30, 1, 2, 0, 0, [])] _ _ _ _ [] 30 [(0, .inr 1), (1, .inl v1), (2, .inl v2), (3, .inl v3)] [.inl v2, .inr 1] μ (by decide +kernel) rfl rfl (by obtain ⟨G, he, hk⟩ := (h0 z1); exact zm_callV (as := [.inr 1, .inl v2]) (rest := []) (P := zpi G) (nx := 33) (a := 15) (b := 2) (k := 1) (sw := []) (zq_of (by decide +kernel)) rfl rfl rfl he (fun _ μ1 hp => by obtain ⟨v, rfl, hp⟩ := hp; exact (zm_V_pick [0, 3] rfl (hk v μ1 hp)))))) (fun z1 => (zsw_e (fun z2 => (zm_run [(50, 51, 27, 0, 0, 0, []), (51, 52, 1, 2, 0, 0, [])] _ _ _ _ [] 52 [(0, .inr 1), (1, .inl v1), (2, .inl v2), (3, .inl v3)] [.inl v2, .inr 1] μ (by decide +kernel) rfl rfl (by obtain ⟨G, he, hk⟩ := (h1 z1 z2); exact zm_callV (as := [.inr 1, .inl v2]) (rest := []) (P := zpi G) (nx := 55) (a := 15) (b := 2) (k := 1) (sw := []) (zq_of (by decide +kernel)) rfl rfl rfl he (fun _ μ1 hp => by obtain ⟨v, rfl, hp⟩ := hp; exact (zm_V_pick [] rfl (hk v μ1 hp)))))) (fun z2 => (zsw_e (fun z3 => (zm_run [(56, 57, 1, 2, 0, 0, [])] _ _ _ _ [] 57 [(0, .inr 1), (1, .inl v1), (2, .inl v2), (3, .inl v3)] [.inl v2] μ (by decide +kernel) rfl rfl (zm_if (nx := 60) (a := 69) (b := 2) (k := 0) (sw := []) (zq_of (by decide +kernel)) (fun z4 => (zm_run [(69, 70, 0, 0, 0, 0, [])] _ _ _ _ [] 70 [(0, .inr 1), (1, .inl v1), (2, .inl v2), (3, .inl v3)] [.inl (0 : Int32)] μ (by decide +kernel) rfl rfl (zm_zret (nx := 71) (a := 0) (b := 0) (k := 0) (sw := []) (zq_of (by decide +kernel)) (Or.inl rfl) ⟨_, rfl, (h2 z1 z2 z3 (of_decide_eq_true z4))⟩))) (fun z4 => (zm_run [(60, 61, 1, 2, 0, 0, []), (61, 62, 0, 0, 0, 3, [])] _ _ _ _ [] 62 [(0, .inr 1), (1, .inl v1), (2, .inl v2), (3, .inl v3)] [.inl (3 : Int32), .inl v2] μ (by decide +kernel) rfl rfl (zm_icmp (nx := 65) (a := 69) (b := 3) (k := 0) (sw := []) (zq_of (by decide +kernel)) (fun z5 => (zm_run [(69, 70, 0, 0, 0, 0, [])] _ _ _ _ [] 70 [(0, .inr 1), (1, .inl v1), (2, .inl v2), (3, .inl v3)] [.inl (0 : Int32)] μ (by decide +kernel) rfl rfl (zm_zret (nx := 71) (a := 0) (b := 0) (k := 0) (sw := []) (zq_of (by decide +kernel)) (Or.inl rfl) ⟨_, rfl, (h3 z1 z2 z3 (of_decide_eq_false z4) (of_decide_eq_true z5))⟩))) (fun z5 => (zm_run [(65, 66, 0, 0, 0, 1, []), (66, 69, 19, 70, 0, 0, [])] _ _ _ _ [] 70 [(0, .inr 1), (1, .inl v1), (2, .inl v2), (3, .inl v3)] [.inl (1 : Int32)] μ (by decide +kernel) rfl rfl (zm_zret (nx := 71) (a := 0) (b := 0) (k := 0) (sw := []) (zq_of (by decide +kernel)) (Or.inr rfl) ⟨_, rfl, (h4 z1 z2 z3 (of_decide_eq_false z4) (of_decide_eq_false z5))⟩))))))))) (fun z3 => (zm_run [(71, 72, 0, 0, 0, 0, [])] _ _ _ _ [] 72 [(0, .inr 1), (1, .inl v1), (2, .inl v2), (3, .inl v3)] [.inl (0 : Int32)] μ (by decide +kernel) rfl rfl (zm_zret (nx := 73) (a := 0) (b := 0) (k := 0) (sw := []) (zq_of (by decide +kernel)) (Or.inl rfl) ⟨_, rfl, (h5 z1 z2 z3)⟩))))))))))

theorem k19_33 {X : zm_T} {d : Nat} {s0 v3 : Int32} {μ : zm_u} {P : Int32 → zm_u → Prop}
    (h0 : s0 = 0 → P (0 : Int32) μ)
    (h1 : ¬ (s0 = 0) → ∃ G : Int32 → zm_u → Prop, zI X d 15 [.inr 1, .inl v3] μ G ∧ ∀ (r : Int32) (μ1 : zm_u), G r μ1 → zV X d 19 41 [] [.inl r] μ1 (zpi P)) :
    zV X d 19 33 [(0, .inr 1), (3, .inl v3)] [.inl s0] μ (zpi P) :=
  (zm_if (nx := 36) (a := 48) (b := 0) (k := 0) (sw := []) (zq_of (by decide +kernel)) (fun z1 => (zm_run [(48, 49, 0, 0, 0, 0, [])] _ _ _ _ [] 49 [(0, .inr 1), (3, .inl v3)] [.inl (0 : Int32)] μ (by decide +kernel) rfl rfl (zm_zret (nx := 50) (a := 0) (b := 0) (k := 0) (sw := []) (zq_of (by decide +kernel)) (Or.inl rfl) ⟨_, rfl, (h0 (of_decide_eq_true z1))⟩))) (fun z1 => (zm_run [(36, 37, 27, 0, 0, 0, []), (37, 38, 1, 3, 0, 0, [])] _ _ _ _ [] 38 [(0, .inr 1), (3, .inl v3)] [.inl v3, .inr 1] μ (by decide +kernel) rfl rfl (by obtain ⟨G, he, hk⟩ := (h1 (of_decide_eq_false z1)); exact zm_callV (as := [.inr 1, .inl v3]) (rest := []) (P := zpi G) (nx := 41) (a := 15) (b := 2) (k := 1) (sw := []) (zq_of (by decide +kernel)) rfl rfl rfl he (fun _ μ1 hp => by obtain ⟨v, rfl, hp⟩ := hp; exact (zm_V_pick [] rfl (hk v μ1 hp)))))))

theorem k19_55 {X : zm_T} {d : Nat} {s0 : Int32} {μ : zm_u} {P : Int32 → zm_u → Prop}
    (h0 : s0 = 0 ∨ s0 = 1)
    (h1 : P s0 μ) :
    zV X d 19 55 [] [.inl s0] μ (zpi P) :=
  (zm_zret (nx := 56) (a := 0) (b := 0) (k := 0) (sw := []) (zq_of (by decide +kernel)) h0 ⟨_, rfl, h1⟩)

theorem k19_41 {X : zm_T} {d : Nat} {s0 : Int32} {μ : zm_u} {P : Int32 → zm_u → Prop}
    (h0 : s0 = 0 → P (0 : Int32) μ)
    (h1 : ¬ (s0 = 0) → P (1 : Int32) μ) :
    zV X d 19 41 [] [.inl s0] μ (zpi P) :=
  (zm_if (nx := 44) (a := 48) (b := 0) (k := 0) (sw := []) (zq_of (by decide +kernel)) (fun z1 => (zm_run [(48, 49, 0, 0, 0, 0, [])] _ _ _ _ [] 49 [] [.inl (0 : Int32)] μ (by decide +kernel) rfl rfl (zm_zret (nx := 50) (a := 0) (b := 0) (k := 0) (sw := []) (zq_of (by decide +kernel)) (Or.inl rfl) ⟨_, rfl, (h0 (of_decide_eq_true z1))⟩))) (fun z1 => (zm_run [(44, 45, 0, 0, 0, 1, []), (45, 48, 19, 49, 0, 0, [])] _ _ _ _ [] 49 [] [.inl (1 : Int32)] μ (by decide +kernel) rfl rfl (zm_zret (nx := 50) (a := 0) (b := 0) (k := 0) (sw := []) (zq_of (by decide +kernel)) (Or.inr rfl) ⟨_, rfl, (h1 (of_decide_eq_false z1))⟩))))

/-! Ty.heightWith (III)I : 20 -/
theorem k20_0 {X : zm_T} {d : Nat} {v1 v2 v3 : Int32} {μ : zm_u} {P : Int32 → zm_u → Prop}
    (h0 : v1 = 0 → ∃ G : Int32 → zm_u → Prop, zI X d 21 [.inr 1, .inl v2, .inl (4 : Int32)] μ G ∧ ∀ (r : Int32) (μ1 : zm_u), G r μ1 → zV X d 20 35 [(0, .inr 1), (3, .inl v3)] [.inl r, .inl (1 : Int32)] μ1 (zpi P))
    (h1 : ¬ v1 = 0 → v1 = 1 → ∃ G : Int32 → zm_u → Prop, zI X d 21 [.inr 1, .inl v2, .inl (4 : Int32)] μ G ∧ ∀ (r : Int32) (μ1 : zm_u), G r μ1 → zV X d 20 53 [] [.inl r, .inl (1 : Int32)] μ1 (zpi P))
    (h2 : ¬ v1 = 0 → ¬ v1 = 1 → P (1 : Int32) μ) :
    zV X d 20 0 [(0, .inr 1), (1, .inl v1), (2, .inl v2), (3, .inl v3)] [] μ (zpi P) :=
  (zm_run [(0, 1, 1, 1, 0, 0, [])] _ _ _ _ [] 1 [(0, .inr 1), (1, .inl v1), (2, .inl v2), (3, .inl v3)] [.inl v1] μ (by decide +kernel) rfl rfl (zm_switch (nx := 28) (a := 55) (b := 0) (k := 0) (sw := [(0, 28), (1, 46)]) (zq_of (by decide +kernel)) (zsw_e (fun z1 => (zm_run [(28, 29, 0, 0, 0, 1, []), (29, 30, 27, 0, 0, 0, []), (30, 31, 1, 2, 0, 0, []), (31, 32, 0, 0, 0, 4, [])] _ _ _ _ [] 32 [(0, .inr 1), (1, .inl v1), (2, .inl v2), (3, .inl v3)] [.inl (4 : Int32), .inl v2, .inr 1, .inl (1 : Int32)] μ (by decide +kernel) rfl rfl (by obtain ⟨G, he, hk⟩ := (h0 z1); exact zm_callV (as := [.inr 1, .inl v2, .inl (4 : Int32)]) (rest := [.inl (1 : Int32)]) (P := zpi G) (nx := 35) (a := 21) (b := 3) (k := 1) (sw := []) (zq_of (by decide +kernel)) rfl rfl rfl he (fun _ μ1 hp => by obtain ⟨v, rfl, hp⟩ := hp; exact (zm_V_pick [0, 3] rfl (hk v μ1 hp)))))) (fun z1 => (zsw_e (fun z2 => (zm_run [(46, 47, 0, 0, 0, 1, []), (47, 48, 27, 0, 0, 0, []), (48, 49, 1, 2, 0, 0, []), (49, 50, 0, 0, 0, 4, [])] _ _ _ _ [] 50 [(0, .inr 1), (1, .inl v1), (2, .inl v2), (3, .inl v3)] [.inl (4 : Int32), .inl v2, .inr 1, .inl (1 : Int32)] μ (by decide +kernel) rfl rfl (by obtain ⟨G, he, hk⟩ := (h1 z1 z2); exact zm_callV (as := [.inr 1, .inl v2, .inl (4 : Int32)]) (rest := [.inl (1 : Int32)]) (P := zpi G) (nx := 53) (a := 21) (b := 3) (k := 1) (sw := []) (zq_of (by decide +kernel)) rfl rfl rfl he (fun _ μ1 hp => by obtain ⟨v, rfl, hp⟩ := hp; exact (zm_V_pick [] rfl (hk v μ1 hp)))))) (fun z2 => (zm_run [(55, 56, 0, 0, 0, 1, [])] _ _ _ _ [] 56 [(0, .inr 1), (1, .inl v1), (2, .inl v2), (3, .inl v3)] [.inl (1 : Int32)] μ (by decide +kernel) rfl rfl (zm_iret (nx := 57) (a := 0) (b := 0) (k := 0) (sw := []) (zq_of (by decide +kernel)) ⟨_, rfl, (h2 z1 z2)⟩))))))))

theorem k20_35 {X : zm_T} {d : Nat} {s0 s1 v3 : Int32} {μ : zm_u} {P : Int32 → zm_u → Prop}
    (h0 : ∃ G : Int32 → zm_u → Prop, zI X d 21 [.inr 1, .inl v3, .inl (4 : Int32)] μ G ∧ ∀ (r : Int32) (μ1 : zm_u), G r μ1 → zV X d 20 41 [] [.inl r, .inl s1, .inl s0] μ1 (zpi P)) :
    zV X d 20 35 [(0, .inr 1), (3, .inl v3)] [.inl s1, .inl s0] μ (zpi P) :=
  (zm_run [(35, 36, 27, 0, 0, 0, []), (36, 37, 1, 3, 0, 0, []), (37, 38, 0, 0, 0, 4, [])] _ _ _ _ [] 38 [(0, .inr 1), (3, .inl v3)] [.inl (4 : Int32), .inl v3, .inr 1, .inl s1, .inl s0] μ (by decide +kernel) rfl rfl (by obtain ⟨G, he, hk⟩ := h0; exact zm_callV (as := [.inr 1, .inl v3, .inl (4 : Int32)]) (rest := [.inl s1, .inl s0]) (P := zpi G) (nx := 41) (a := 21) (b := 3) (k := 1) (sw := []) (zq_of (by decide +kernel)) rfl rfl rfl he (fun _ μ1 hp => by obtain ⟨v, rfl, hp⟩ := hp; exact (zm_V_pick [] rfl (hk v μ1 hp)))))

theorem k20_53 {X : zm_T} {d : Nat} {s0 s1 : Int32} {μ : zm_u} {P : Int32 → zm_u → Prop}
    (h0 : P (s0 + s1) μ) :
    zV X d 20 53 [] [.inl s1, .inl s0] μ (zpi P) :=
  (zm_run [(53, 54, 10, 0, 0, 0, [])] _ _ _ _ [] 54 [] [.inl (s0 + s1)] μ (by decide +kernel) rfl rfl (zm_iret (nx := 55) (a := 0) (b := 0) (k := 0) (sw := []) (zq_of (by decide +kernel)) ⟨_, rfl, h0⟩))

theorem k20_41 {X : zm_T} {d : Nat} {s0 s1 s2 : Int32} {μ : zm_u} {P : Int32 → zm_u → Prop}
    (h0 : P (s0 + (cond (decide (s1 < s2)) s2 s1)) μ) :
    zV X d 20 41 [] [.inl s2, .inl s1, .inl s0] μ (zpi P) :=
  (zm_run [(41, 44, 25, 0, 0, 0, []), (44, 45, 10, 0, 0, 0, [])] _ _ _ _ [true] 45 [] [.inl (s0 + (cond (decide (s1 < s2)) s2 s1))] μ (by decide +kernel) rfl (zm_bt rfl rfl) (zm_iret (nx := 46) (a := 0) (b := 0) (k := 0) (sw := []) (zq_of (by decide +kernel)) ⟨_, rfl, h0⟩))

/-! Ty.heightOf (II)I : 21 -/
theorem k21_0 {X : zm_T} {d : Nat} {v1 v2 : Int32} {μ : zm_u} {P : Int32 → zm_u → Prop}
    (h0 : ¬ v2 = 0 → ∃ G : Int32 → zm_u → Prop, zI X d 16 [.inr 1, .inl v1] μ G ∧ ∀ (r : Int32) (μ1 : zm_u), G r μ1 → zV X d 21 11 [(0, .inr 1), (1, .inl v1), (2, .inl v2)] [.inl r] μ1 (zpi P))
    (h1 : v2 = 0 → P (0 : Int32) μ) :
    zV X d 21 0 [(0, .inr 1), (1, .inl v1), (2, .inl v2)] [] μ (zpi P) :=
  (zm_run [(0, 1, 1, 2, 0, 0, [])] _ _ _ _ [] 1 [(0, .inr 1), (1, .inl v1), (2, .inl v2)] [.inl v2] μ (by decide +kernel) rfl rfl (zm_if (nx := 4) (a := 6) (b := 1) (k := 0) (sw := []) (zq_of (by decide +kernel)) (fun z1 => (zm_run [(6, 7, 27, 0, 0, 0, []), (7, 8, 1, 1, 0, 0, [])] _ _ _ _ [] 8 [(0, .inr 1), (1, .inl v1), (2, .inl v2)] [.inl v1, .inr 1] μ (by decide +kernel) rfl rfl (by obtain ⟨G, he, hk⟩ := (h0 (of_decide_eq_true z1)); exact zm_callV (as := [.inr 1, .inl v1]) (rest := []) (P := zpi G) (nx := 11) (a := 16) (b := 2) (k := 1) (sw := []) (zq_of (by decide +kernel)) rfl rfl rfl he (fun _ μ1 hp => by obtain ⟨v, rfl, hp⟩ := hp; exact (zm_V_pick [0, 1, 2] rfl (hk v μ1 hp)))))) (fun z1 => (zm_run [(4, 5, 0, 0, 0, 0, [])] _ _ _ _ [] 5 [(0, .inr 1), (1, .inl v1), (2, .inl v2)] [.inl (0 : Int32)] μ (by decide +kernel) rfl rfl (zm_iret (nx := 6) (a := 0) (b := 0) (k := 0) (sw := []) (zq_of (by decide +kernel)) ⟨_, rfl, (h1 (Classical.byContradiction fun w => (of_decide_eq_false z1) w))⟩)))))

theorem k21_11 {X : zm_T} {d : Nat} {s0 v1 v2 : Int32} {μ : zm_u} {P : Int32 → zm_u → Prop}
    (h0 : s0 = 0 → ∃ G : Int32 → zm_u → Prop, zI X d 17 [.inr 1, .inl v1] μ G ∧ ∀ (r : Int32) (μ1 : zm_u), G r μ1 → zV X d 21 43 [(0, .inr 1), (1, .inl v1), (2, .inl v2)] [.inl r, .inr 1, .inl (1 : Int32)] μ1 (zpi P))
    (h1 : ¬ s0 = 0 → s0 = 1 → ∃ G : Int32 → zm_u → Prop, zI X d 17 [.inr 1, .inl v1] μ G ∧ ∀ (r : Int32) (μ1 : zm_u), G r μ1 → zV X d 21 73 [(2, .inl v2)] [.inl r, .inr 1, .inl (1 : Int32)] μ1 (zpi P))
    (h2 : ¬ s0 = 0 → ¬ s0 = 1 → P (1 : Int32) μ) :
    zV X d 21 11 [(0, .inr 1), (1, .inl v1), (2, .inl v2)] [.inl s0] μ (zpi P) :=
  (zm_switch (nx := 36) (a := 81) (b := 0) (k := 0) (sw := [(0, 36), (1, 66)]) (zq_of (by decide +kernel)) (zsw_e (fun z1 => (zm_run [(36, 37, 0, 0, 0, 1, []), (37, 38, 27, 0, 0, 0, []), (38, 39, 27, 0, 0, 0, []), (39, 40, 1, 1, 0, 0, [])] _ _ _ _ [] 40 [(0, .inr 1), (1, .inl v1), (2, .inl v2)] [.inl v1, .inr 1, .inr 1, .inl (1 : Int32)] μ (by decide +kernel) rfl rfl (by obtain ⟨G, he, hk⟩ := (h0 z1); exact zm_callV (as := [.inr 1, .inl v1]) (rest := [.inr 1, .inl (1 : Int32)]) (P := zpi G) (nx := 43) (a := 17) (b := 2) (k := 1) (sw := []) (zq_of (by decide +kernel)) rfl rfl rfl he (fun _ μ1 hp => by obtain ⟨v, rfl, hp⟩ := hp; exact (zm_V_pick [0, 1, 2] rfl (hk v μ1 hp)))))) (fun z1 => (zsw_e (fun z2 => (zm_run [(66, 67, 0, 0, 0, 1, []), (67, 68, 27, 0, 0, 0, []), (68, 69, 27, 0, 0, 0, []), (69, 70, 1, 1, 0, 0, [])] _ _ _ _ [] 70 [(0, .inr 1), (1, .inl v1), (2, .inl v2)] [.inl v1, .inr 1, .inr 1, .inl (1 : Int32)] μ (by decide +kernel) rfl rfl (by obtain ⟨G, he, hk⟩ := (h1 z1 z2); exact zm_callV (as := [.inr 1, .inl v1]) (rest := [.inr 1, .inl (1 : Int32)]) (P := zpi G) (nx := 73) (a := 17) (b := 2) (k := 1) (sw := []) (zq_of (by decide +kernel)) rfl rfl rfl he (fun _ μ1 hp => by obtain ⟨v, rfl, hp⟩ := hp; exact (zm_V_pick [2] rfl (hk v μ1 hp)))))) (fun z2 => (zm_run [(81, 82, 0, 0, 0, 1, [])] _ _ _ _ [] 82 [(0, .inr 1), (1, .inl v1), (2, .inl v2)] [.inl (1 : Int32)] μ (by decide +kernel) rfl rfl (zm_iret (nx := 83) (a := 0) (b := 0) (k := 0) (sw := []) (zq_of (by decide +kernel)) ⟨_, rfl, (h2 z1 z2)⟩)))))))

theorem k21_43 {X : zm_T} {d : Nat} {s0 s2 v1 v2 : Int32} {μ : zm_u} {P : Int32 → zm_u → Prop}
    (h0 : ∃ G : Int32 → zm_u → Prop, zI X d 21 [.inr 1, .inl s2, .inl (v2 - (1 : Int32))] μ G ∧ ∀ (r : Int32) (μ1 : zm_u), G r μ1 → zV X d 21 49 [(0, .inr 1), (1, .inl v1), (2, .inl v2)] [.inl r, .inl s0] μ1 (zpi P)) :
    zV X d 21 43 [(0, .inr 1), (1, .inl v1), (2, .inl v2)] [.inl s2, .inr 1, .inl s0] μ (zpi P) :=
  (zm_run [(43, 44, 1, 2, 0, 0, []), (44, 45, 0, 0, 0, 1, []), (45, 46, 11, 0, 0, 0, [])] _ _ _ _ [] 46 [(0, .inr 1), (1, .inl v1), (2, .inl v2)] [.inl (v2 - (1 : Int32)), .inl s2, .inr 1, .inl s0] μ (by decide +kernel) rfl rfl (by obtain ⟨G, he, hk⟩ := h0; exact zm_callV (as := [.inr 1, .inl s2, .inl (v2 - (1 : Int32))]) (rest := [.inl s0]) (P := zpi G) (nx := 49) (a := 21) (b := 3) (k := 1) (sw := []) (zq_of (by decide +kernel)) rfl rfl rfl he (fun _ μ1 hp => by obtain ⟨v, rfl, hp⟩ := hp; exact (zm_V_pick [0, 1, 2] rfl (hk v μ1 hp)))))

theorem k21_73 {X : zm_T} {d : Nat} {s0 s2 v2 : Int32} {μ : zm_u} {P : Int32 → zm_u → Prop}
    (h0 : ∃ G : Int32 → zm_u → Prop, zI X d 21 [.inr 1, .inl s2, .inl (v2 - (1 : Int32))] μ G ∧ ∀ (r : Int32) (μ1 : zm_u), G r μ1 → zV X d 21 79 [] [.inl r, .inl s0] μ1 (zpi P)) :
    zV X d 21 73 [(2, .inl v2)] [.inl s2, .inr 1, .inl s0] μ (zpi P) :=
  (zm_run [(73, 74, 1, 2, 0, 0, []), (74, 75, 0, 0, 0, 1, []), (75, 76, 11, 0, 0, 0, [])] _ _ _ _ [] 76 [(2, .inl v2)] [.inl (v2 - (1 : Int32)), .inl s2, .inr 1, .inl s0] μ (by decide +kernel) rfl rfl (by obtain ⟨G, he, hk⟩ := h0; exact zm_callV (as := [.inr 1, .inl s2, .inl (v2 - (1 : Int32))]) (rest := [.inl s0]) (P := zpi G) (nx := 79) (a := 21) (b := 3) (k := 1) (sw := []) (zq_of (by decide +kernel)) rfl rfl rfl he (fun _ μ1 hp => by obtain ⟨v, rfl, hp⟩ := hp; exact (zm_V_pick [] rfl (hk v μ1 hp)))))

theorem k21_49 {X : zm_T} {d : Nat} {s0 s1 v1 v2 : Int32} {μ : zm_u} {P : Int32 → zm_u → Prop}
    (h0 : ∃ G : Int32 → zm_u → Prop, zI X d 18 [.inr 1, .inl v1] μ G ∧ ∀ (r : Int32) (μ1 : zm_u), G r μ1 → zV X d 21 55 [(2, .inl v2)] [.inl r, .inr 1, .inl s1, .inl s0] μ1 (zpi P)) :
    zV X d 21 49 [(0, .inr 1), (1, .inl v1), (2, .inl v2)] [.inl s1, .inl s0] μ (zpi P) :=
  (zm_run [(49, 50, 27, 0, 0, 0, []), (50, 51, 27, 0, 0, 0, []), (51, 52, 1, 1, 0, 0, [])] _ _ _ _ [] 52 [(0, .inr 1), (1, .inl v1), (2, .inl v2)] [.inl v1, .inr 1, .inr 1, .inl s1, .inl s0] μ (by decide +kernel) rfl rfl (by obtain ⟨G, he, hk⟩ := h0; exact zm_callV (as := [.inr 1, .inl v1]) (rest := [.inr 1, .inl s1, .inl s0]) (P := zpi G) (nx := 55) (a := 18) (b := 2) (k := 1) (sw := []) (zq_of (by decide +kernel)) rfl rfl rfl he (fun _ μ1 hp => by obtain ⟨v, rfl, hp⟩ := hp; exact (zm_V_pick [2] rfl (hk v μ1 hp)))))

theorem k21_79 {X : zm_T} {d : Nat} {s0 s1 : Int32} {μ : zm_u} {P : Int32 → zm_u → Prop}
    (h0 : P (s0 + s1) μ) :
    zV X d 21 79 [] [.inl s1, .inl s0] μ (zpi P) :=
  (zm_run [(79, 80, 10, 0, 0, 0, [])] _ _ _ _ [] 80 [] [.inl (s0 + s1)] μ (by decide +kernel) rfl rfl (zm_iret (nx := 81) (a := 0) (b := 0) (k := 0) (sw := []) (zq_of (by decide +kernel)) ⟨_, rfl, h0⟩))

theorem k21_55 {X : zm_T} {d : Nat} {s0 s1 s3 v2 : Int32} {μ : zm_u} {P : Int32 → zm_u → Prop}
    (h0 : ∃ G : Int32 → zm_u → Prop, zI X d 21 [.inr 1, .inl s3, .inl (v2 - (1 : Int32))] μ G ∧ ∀ (r : Int32) (μ1 : zm_u), G r μ1 → zV X d 21 61 [] [.inl r, .inl s1, .inl s0] μ1 (zpi P)) :
    zV X d 21 55 [(2, .inl v2)] [.inl s3, .inr 1, .inl s1, .inl s0] μ (zpi P) :=
  (zm_run [(55, 56, 1, 2, 0, 0, []), (56, 57, 0, 0, 0, 1, []), (57, 58, 11, 0, 0, 0, [])] _ _ _ _ [] 58 [(2, .inl v2)] [.inl (v2 - (1 : Int32)), .inl s3, .inr 1, .inl s1, .inl s0] μ (by decide +kernel) rfl rfl (by obtain ⟨G, he, hk⟩ := h0; exact zm_callV (as := [.inr 1, .inl s3, .inl (v2 - (1 : Int32))]) (rest := [.inl s1, .inl s0]) (P := zpi G) (nx := 61) (a := 21) (b := 3) (k := 1) (sw := []) (zq_of (by decide +kernel)) rfl rfl rfl he (fun _ μ1 hp => by obtain ⟨v, rfl, hp⟩ := hp; exact (zm_V_pick [] rfl (hk v μ1 hp)))))

theorem k21_61 {X : zm_T} {d : Nat} {s0 s1 s2 : Int32} {μ : zm_u} {P : Int32 → zm_u → Prop}
    (h0 : P (s0 + (cond (decide (s1 < s2)) s2 s1)) μ) :
    zV X d 21 61 [] [.inl s2, .inl s1, .inl s0] μ (zpi P) :=
  (zm_run [(61, 64, 25, 0, 0, 0, []), (64, 65, 10, 0, 0, 0, [])] _ _ _ _ [true] 65 [] [.inl (s0 + (cond (decide (s1 < s2)) s2 s1))] μ (by decide +kernel) rfl (zm_bt rfl rfl) (zm_iret (nx := 66) (a := 0) (b := 0) (k := 0) (sw := []) (zq_of (by decide +kernel)) ⟨_, rfl, h0⟩))

/-! Ty.seek (III)I : 22 -/
theorem k22_0 {X : zm_T} {d : Nat} {v1 v2 v3 : Int32} {μ : zm_u} {P : Int32 → zm_u → Prop}
    (h0 : zV X d 22 3 [(0, .inr 1), (1, .inl v1), (2, .inl v2), (3, .inl v3), (4, .inl (0 : Int32))] [] μ (zpi P)) :
    zV X d 22 0 [(0, .inr 1), (1, .inl v1), (2, .inl v2), (3, .inl v3)] [] μ (zpi P) :=
  (zm_run [(0, 1, 0, 0, 0, 0, []), (1, 3, 2, 4, 0, 0, [])] _ _ _ _ [] 3 [(0, .inr 1), (1, .inl v1), (2, .inl v2), (3, .inl v3), (4, .inl (0 : Int32))] [] μ (by decide +kernel) rfl rfl (zm_V_pick [0, 1, 2, 3, 4] rfl h0))

set_option maxRecDepth 100000 in
theorem k22_3 {X : zm_T} {d : Nat} {v1 v2 v3 v4 : Int32} {μ : zm_u} {P : Int32 → zm_u → Prop}
    (h0 : (μ 1 3) ≤ v4 → P (-1 : Int32) μ)
    (h1 : ¬ ((μ 1 3) ≤ v4) → 0 ≤ (v4).toInt ∧ (v4).toInt < ((466 : Nat) : Int))
    (h2 : ¬ ((μ 1 3) ≤ v4) → ¬ (μ 6 (v4).toNatClampNeg) = v1 → zV X d 22 48 [(0, .inr 1), (1, .inl v1), (2, .inl v2), (3, .inl v3), (4, .inl v4)] [] μ (zpi P))
    (h3 : ¬ ((μ 1 3) ≤ v4) → (μ 6 (v4).toNatClampNeg) = v1 → 0 ≤ (v4).toInt ∧ (v4).toInt < ((466 : Nat) : Int))
    (h4 : ¬ ((μ 1 3) ≤ v4) → (μ 6 (v4).toNatClampNeg) = v1 → ¬ (μ 7 (v4).toNatClampNeg) = v2 → zV X d 22 48 [(0, .inr 1), (1, .inl v1), (2, .inl v2), (3, .inl v3), (4, .inl v4)] [] μ (zpi P))
    (h5 : ¬ ((μ 1 3) ≤ v4) → (μ 6 (v4).toNatClampNeg) = v1 → (μ 7 (v4).toNatClampNeg) = v2 → 0 ≤ (v4).toInt ∧ (v4).toInt < ((466 : Nat) : Int))
    (h6 : ¬ ((μ 1 3) ≤ v4) → (μ 6 (v4).toNatClampNeg) = v1 → (μ 7 (v4).toNatClampNeg) = v2 → ¬ (μ 8 (v4).toNatClampNeg) = v3 → zV X d 22 48 [(0, .inr 1), (1, .inl v1), (2, .inl v2), (3, .inl v3), (4, .inl v4)] [] μ (zpi P))
    (h7 : ¬ ((μ 1 3) ≤ v4) → (μ 6 (v4).toNatClampNeg) = v1 → (μ 7 (v4).toNatClampNeg) = v2 → (μ 8 (v4).toNatClampNeg) = v3 → P v4 μ) :
    zV X d 22 3 [(0, .inr 1), (1, .inl v1), (2, .inl v2), (3, .inl v3), (4, .inl v4)] [] μ (zpi P) :=
  (zm_run [(3, 5, 1, 4, 0, 0, []), (5, 6, 27, 0, 0, 0, []), (6, 9, 4, 3, 1, 0, [])] _ _ _ _ [] 9 [(0, .inr 1), (1, .inl v1), (2, .inl v2), (3, .inl v3), (4, .inl v4)] [.inl (μ 1 3), .inl v4] μ (by decide +kernel) rfl rfl (zm_icmp (nx := 12) (a := 54) (b := 3) (k := 0) (sw := []) (zq_of (by decide +kernel)) (fun z1 => (zm_run [(54, 55, 0, 0, 0, (-1), [])] _ _ _ _ [] 55 [(0, .inr 1), (1, .inl v1), (2, .inl v2), (3, .inl v3), (4, .inl v4)] [.inl (-1 : Int32)] μ (by decide +kernel) rfl rfl (zm_iret (nx := 56) (a := 0) (b := 0) (k := 0) (sw := []) (zq_of (by decide +kernel)) ⟨_, rfl, (h0 (of_decide_eq_true z1))⟩))) (fun z1 => (zm_run [(12, 13, 27, 0, 0, 0, []), (13, 16, 4, 0, 1, 0, []), (16, 18, 1, 4, 0, 0, []), (18, 19, 6, 0, 0, 0, []), (19, 20, 1, 1, 0, 0, [])] _ _ _ _ [decide (0 ≤ (v4).toInt ∧ (v4).toInt < ((466 : Nat) : Int))] 20 [(0, .inr 1), (1, .inl v1), (2, .inl v2), (3, .inl v3), (4, .inl v4)] [.inl v1, .inl (μ 6 (v4).toNatClampNeg)] μ (by decide +kernel) rfl (zm_bc (h1 (of_decide_eq_false z1)) rfl) (zm_icmp (nx := 23) (a := 48) (b := 1) (k := 0) (sw := []) (zq_of (by decide +kernel)) (fun z2 => (zm_V_pick [0, 1, 2, 3, 4] rfl (h2 (of_decide_eq_false z1) (of_decide_eq_true z2)))) (fun z2 => (zm_run [(23, 24, 27, 0, 0, 0, []), (24, 27, 4, 1, 1, 0, []), (27, 29, 1, 4, 0, 0, []), (29, 30, 6, 0, 0, 0, []), (30, 31, 1, 2, 0, 0, [])] _ _ _ _ [decide (0 ≤ (v4).toInt ∧ (v4).toInt < ((466 : Nat) : Int))] 31 [(0, .inr 1), (1, .inl v1), (2, .inl v2), (3, .inl v3), (4, .inl v4)] [.inl v2, .inl (μ 7 (v4).toNatClampNeg)] μ (by decide +kernel) rfl (zm_bc (h3 (of_decide_eq_false z1) (Classical.byContradiction fun w => (of_decide_eq_false z2) w)) rfl) (zm_icmp (nx := 34) (a := 48) (b := 1) (k := 0) (sw := []) (zq_of (by decide +kernel)) (fun z3 => (zm_V_pick [0, 1, 2, 3, 4] rfl (h4 (of_decide_eq_false z1) (Classical.byContradiction fun w => (of_decide_eq_false z2) w) (of_decide_eq_true z3)))) (fun z3 => (zm_run [(34, 35, 27, 0, 0, 0, []), (35, 38, 4, 2, 1, 0, []), (38, 40, 1, 4, 0, 0, []), (40, 41, 6, 0, 0, 0, []), (41, 42, 1, 3, 0, 0, [])] _ _ _ _ [decide (0 ≤ (v4).toInt ∧ (v4).toInt < ((466 : Nat) : Int))] 42 [(0, .inr 1), (1, .inl v1), (2, .inl v2), (3, .inl v3), (4, .inl v4)] [.inl v3, .inl (μ 8 (v4).toNatClampNeg)] μ (by decide +kernel) rfl (zm_bc (h5 (of_decide_eq_false z1) (Classical.byContradiction fun w => (of_decide_eq_false z2) w) (Classical.byContradiction fun w => (of_decide_eq_false z3) w)) rfl) (zm_icmp (nx := 45) (a := 48) (b := 1) (k := 0) (sw := []) (zq_of (by decide +kernel)) (fun z4 => (zm_V_pick [0, 1, 2, 3, 4] rfl (h6 (of_decide_eq_false z1) (Classical.byContradiction fun w => (of_decide_eq_false z2) w) (Classical.byContradiction fun w => (of_decide_eq_false z3) w) (of_decide_eq_true z4)))) (fun z4 => (zm_run [(45, 47, 1, 4, 0, 0, [])] _ _ _ _ [] 47 [(0, .inr 1), (1, .inl v1), (2, .inl v2), (3, .inl v3), (4, .inl v4)] [.inl v4] μ (by decide +kernel) rfl rfl (zm_iret (nx := 48) (a := 0) (b := 0) (k := 0) (sw := []) (zq_of (by decide +kernel)) ⟨_, rfl, (h7 (of_decide_eq_false z1) (Classical.byContradiction fun w => (of_decide_eq_false z2) w) (Classical.byContradiction fun w => (of_decide_eq_false z3) w) (Classical.byContradiction fun w => (of_decide_eq_false z4) w))⟩))))))))))))))

theorem k22_48 {X : zm_T} {d : Nat} {v1 v2 v3 v4 : Int32} {μ : zm_u} {P : Int32 → zm_u → Prop}
    (h0 : zV X d 22 3 [(0, .inr 1), (1, .inl v1), (2, .inl v2), (3, .inl v3), (4, .inl (v4 + 1))] [] μ (zpi P)) :
    zV X d 22 48 [(0, .inr 1), (1, .inl v1), (2, .inl v2), (3, .inl v3), (4, .inl v4)] [] μ (zpi P) :=
  (zm_run [(48, 51, 3, 4, 0, 1, []), (51, 54, 19, 3, 0, 0, [])] _ _ _ _ [] 3 [(0, .inr 1), (1, .inl v1), (2, .inl v2), (3, .inl v3), (4, .inl (v4 + 1))] [] μ (by decide +kernel) rfl rfl (zm_V_pick [0, 1, 2, 3, 4] rfl h0))

/-! Ty.seekOrPut (III)I : 23 -/
theorem k23_0 {X : zm_T} {d : Nat} {v1 v2 v3 : Int32} {μ : zm_u} {P : Int32 → zm_u → Prop}
    (h0 : ∃ G : Int32 → zm_u → Prop, zI X d 22 [.inr 1, .inl v1, .inl v2, .inl v3] μ G ∧ ∀ (r : Int32) (μ1 : zm_u), G r μ1 → zV X d 23 7 [(0, .inr 1), (1, .inl v1), (2, .inl v2), (3, .inl v3)] [.inl r] μ1 (zpi P)) :
    zV X d 23 0 [(0, .inr 1), (1, .inl v1), (2, .inl v2), (3, .inl v3)] [] μ (zpi P) :=
  (zm_run [(0, 1, 27, 0, 0, 0, []), (1, 2, 1, 1, 0, 0, []), (2, 3, 1, 2, 0, 0, []), (3, 4, 1, 3, 0, 0, [])] _ _ _ _ [] 4 [(0, .inr 1), (1, .inl v1), (2, .inl v2), (3, .inl v3)] [.inl v3, .inl v2, .inl v1, .inr 1] μ (by decide +kernel) rfl rfl (by obtain ⟨G, he, hk⟩ := h0; exact zm_callV (as := [.inr 1, .inl v1, .inl v2, .inl v3]) (rest := []) (P := zpi G) (nx := 7) (a := 22) (b := 4) (k := 1) (sw := []) (zq_of (by decide +kernel)) rfl rfl rfl he (fun _ μ1 hp => by obtain ⟨v, rfl, hp⟩ := hp; exact (zm_V_pick [0, 1, 2, 3] rfl (hk v μ1 hp)))))

set_option maxRecDepth 100000 in
theorem k23_7 {X : zm_T} {d : Nat} {s0 v1 v2 v3 : Int32} {μ : zm_u} {P : Int32 → zm_u → Prop}
    (h0 : ¬ s0 = (-1 : Int32) → P s0 μ)
    (h1 : s0 = (-1 : Int32) → (μ 1 3) < (466 : Int32) → 0 ≤ ((μ 1 3)).toInt ∧ ((μ 1 3)).toInt < ((466 : Nat) : Int))
    (h2 : s0 = (-1 : Int32) → (μ 1 3) < (466 : Int32) → 0 ≤ ((μ 1 3)).toInt ∧ ((μ 1 3)).toInt < ((466 : Nat) : Int))
    (h3 : s0 = (-1 : Int32) → (μ 1 3) < (466 : Int32) → 0 ≤ ((μ 1 3)).toInt ∧ ((μ 1 3)).toInt < ((466 : Nat) : Int))
    (h4 : s0 = (-1 : Int32) → (μ 1 3) < (466 : Int32) → P (((μ 1 3) + (1 : Int32)) - (1 : Int32)) (zm_up (zm_up (zm_up (zm_up μ 6 ((μ 1 3)).toNatClampNeg v1) 7 ((μ 1 3)).toNatClampNeg v2) 8 ((μ 1 3)).toNatClampNeg v3) 1 3 ((μ 1 3) + (1 : Int32))))
    (h5 : s0 = (-1 : Int32) → ¬ ((μ 1 3) < (466 : Int32)) → P s0 μ) :
    zV X d 23 7 [(0, .inr 1), (1, .inl v1), (2, .inl v2), (3, .inl v3)] [.inl s0] μ (zpi P) :=
  (zm_run [(7, 9, 2, 4, 0, 0, []), (9, 11, 1, 4, 0, 0, []), (11, 12, 0, 0, 0, (-1), [])] _ _ _ _ [] 12 [(0, .inr 1), (1, .inl v1), (2, .inl v2), (3, .inl v3), (4, .inl s0)] [.inl (-1 : Int32), .inl s0] μ (by decide +kernel) rfl rfl (zm_icmp (nx := 15) (a := 25) (b := 1) (k := 0) (sw := []) (zq_of (by decide +kernel)) (fun z1 => (zm_run [(25, 27, 1, 4, 0, 0, [])] _ _ _ _ [] 27 [(0, .inr 1), (1, .inl v1), (2, .inl v2), (3, .inl v3), (4, .inl s0)] [.inl s0] μ (by decide +kernel) rfl rfl (zm_iret (nx := 28) (a := 0) (b := 0) (k := 0) (sw := []) (zq_of (by decide +kernel)) ⟨_, rfl, (h0 (of_decide_eq_true z1))⟩))) (fun z1 => (zm_run [(15, 16, 27, 0, 0, 0, []), (16, 19, 4, 3, 1, 0, []), (19, 22, 0, 0, 0, 466, [])] _ _ _ _ [] 22 [(0, .inr 1), (1, .inl v1), (2, .inl v2), (3, .inl v3), (4, .inl s0)] [.inl (466 : Int32), .inl (μ 1 3)] μ (by decide +kernel) rfl rfl (zm_icmp (nx := 25) (a := 28) (b := 2) (k := 0) (sw := []) (zq_of (by decide +kernel)) (fun z2 => (zm_run [(28, 29, 27, 0, 0, 0, []), (29, 32, 4, 0, 1, 0, []), (32, 33, 27, 0, 0, 0, []), (33, 36, 4, 3, 1, 0, []), (36, 37, 1, 1, 0, 0, []), (37, 38, 7, 0, 0, 0, []), (38, 39, 27, 0, 0, 0, []), (39, 42, 4, 1, 1, 0, []), (42, 43, 27, 0, 0, 0, []), (43, 46, 4, 3, 1, 0, []), (46, 47, 1, 2, 0, 0, []), (47, 48, 7, 0, 0, 0, []), (48, 49, 27, 0, 0, 0, []), (49, 52, 4, 2, 1, 0, []), (52, 53, 27, 0, 0, 0, []), (53, 56, 4, 3, 1, 0, []), (56, 57, 1, 3, 0, 0, []), (57, 58, 7, 0, 0, 0, []), (58, 59, 27, 0, 0, 0, []), (59, 60, 16, 0, 0, 0, []), (60, 63, 4, 3, 1, 0, []), (63, 64, 0, 0, 0, 1, []), (64, 65, 10, 0, 0, 0, []), (65, 68, 5, 3, 1, 0, []), (68, 69, 27, 0, 0, 0, []), (69, 72, 4, 3, 1, 0, []), (72, 73, 0, 0, 0, 1, []), (73, 74, 11, 0, 0, 0, [])] _ _ _ _ [decide (0 ≤ ((μ 1 3)).toInt ∧ ((μ 1 3)).toInt < ((466 : Nat) : Int)), decide (0 ≤ ((μ 1 3)).toInt ∧ ((μ 1 3)).toInt < ((466 : Nat) : Int)), decide (0 ≤ ((μ 1 3)).toInt ∧ ((μ 1 3)).toInt < ((466 : Nat) : Int))] 74 [(0, .inr 1), (1, .inl v1), (2, .inl v2), (3, .inl v3), (4, .inl s0)] [.inl (((μ 1 3) + (1 : Int32)) - (1 : Int32))] (zm_up (zm_up (zm_up (zm_up μ 6 ((μ 1 3)).toNatClampNeg v1) 7 ((μ 1 3)).toNatClampNeg v2) 8 ((μ 1 3)).toNatClampNeg v3) 1 3 ((μ 1 3) + (1 : Int32))) (by decide +kernel) rfl (zm_bc (h1 (Classical.byContradiction fun w => (of_decide_eq_false z1) w) (of_decide_eq_true z2)) (zm_bc (h2 (Classical.byContradiction fun w => (of_decide_eq_false z1) w) (of_decide_eq_true z2)) (zm_bc (h3 (Classical.byContradiction fun w => (of_decide_eq_false z1) w) (of_decide_eq_true z2)) rfl))) (zm_iret (nx := 75) (a := 0) (b := 0) (k := 0) (sw := []) (zq_of (by decide +kernel)) ⟨_, rfl, (h4 (Classical.byContradiction fun w => (of_decide_eq_false z1) w) (of_decide_eq_true z2))⟩))) (fun z2 => (zm_run [(25, 27, 1, 4, 0, 0, [])] _ _ _ _ [] 27 [(0, .inr 1), (1, .inl v1), (2, .inl v2), (3, .inl v3), (4, .inl s0)] [.inl s0] μ (by decide +kernel) rfl rfl (zm_iret (nx := 28) (a := 0) (b := 0) (k := 0) (sw := []) (zq_of (by decide +kernel)) ⟨_, rfl, (h5 (Classical.byContradiction fun w => (of_decide_eq_false z1) w) (of_decide_eq_false z2))⟩))))))))

/-! Ty.pairOf (II)I : 24 -/
theorem k24_0 {X : zm_T} {d : Nat} {v1 v2 : Int32} {μ : zm_u} {P : Int32 → zm_u → Prop}
    (h0 : ∃ G : Int32 → zm_u → Prop, zI X d 15 [.inr 1, .inl v1] μ G ∧ ∀ (r : Int32) (μ1 : zm_u), G r μ1 → zV X d 24 5 [(0, .inr 1), (1, .inl v1), (2, .inl v2)] [.inl r] μ1 (zpi P)) :
    zV X d 24 0 [(0, .inr 1), (1, .inl v1), (2, .inl v2)] [] μ (zpi P) :=
  (zm_run [(0, 1, 27, 0, 0, 0, []), (1, 2, 1, 1, 0, 0, [])] _ _ _ _ [] 2 [(0, .inr 1), (1, .inl v1), (2, .inl v2)] [.inl v1, .inr 1] μ (by decide +kernel) rfl rfl (by obtain ⟨G, he, hk⟩ := h0; exact zm_callV (as := [.inr 1, .inl v1]) (rest := []) (P := zpi G) (nx := 5) (a := 15) (b := 2) (k := 1) (sw := []) (zq_of (by decide +kernel)) rfl rfl rfl he (fun _ μ1 hp => by obtain ⟨v, rfl, hp⟩ := hp; exact (zm_V_pick [0, 1, 2] rfl (hk v μ1 hp)))))

theorem k24_5 {X : zm_T} {d : Nat} {s0 v1 v2 : Int32} {μ : zm_u} {P : Int32 → zm_u → Prop}
    (h0 : s0 = 0 → P (-1 : Int32) μ)
    (h1 : ¬ (s0 = 0) → ∃ G : Int32 → zm_u → Prop, zI X d 15 [.inr 1, .inl v2] μ G ∧ ∀ (r : Int32) (μ1 : zm_u), G r μ1 → zV X d 24 13 [(0, .inr 1), (1, .inl v1), (2, .inl v2)] [.inl r] μ1 (zpi P)) :
    zV X d 24 5 [(0, .inr 1), (1, .inl v1), (2, .inl v2)] [.inl s0] μ (zpi P) :=
  (zm_if (nx := 8) (a := 26) (b := 0) (k := 0) (sw := []) (zq_of (by decide +kernel)) (fun z1 => (zm_run [(26, 27, 0, 0, 0, (-1), [])] _ _ _ _ [] 27 [(0, .inr 1), (1, .inl v1), (2, .inl v2)] [.inl (-1 : Int32)] μ (by decide +kernel) rfl rfl (zm_iret (nx := 28) (a := 0) (b := 0) (k := 0) (sw := []) (zq_of (by decide +kernel)) ⟨_, rfl, (h0 (of_decide_eq_true z1))⟩))) (fun z1 => (zm_run [(8, 9, 27, 0, 0, 0, []), (9, 10, 1, 2, 0, 0, [])] _ _ _ _ [] 10 [(0, .inr 1), (1, .inl v1), (2, .inl v2)] [.inl v2, .inr 1] μ (by decide +kernel) rfl rfl (by obtain ⟨G, he, hk⟩ := (h1 (of_decide_eq_false z1)); exact zm_callV (as := [.inr 1, .inl v2]) (rest := []) (P := zpi G) (nx := 13) (a := 15) (b := 2) (k := 1) (sw := []) (zq_of (by decide +kernel)) rfl rfl rfl he (fun _ μ1 hp => by obtain ⟨v, rfl, hp⟩ := hp; exact (zm_V_pick [0, 1, 2] rfl (hk v μ1 hp)))))))

theorem k24_13 {X : zm_T} {d : Nat} {s0 v1 v2 : Int32} {μ : zm_u} {P : Int32 → zm_u → Prop}
    (h0 : s0 = 0 → P (-1 : Int32) μ)
    (h1 : ¬ (s0 = 0) → ∃ G : Int32 → zm_u → Prop, zI X d 23 [.inr 1, .inl (0 : Int32), .inl v1, .inl v2] μ G ∧ ∀ (r : Int32) (μ1 : zm_u), G r μ1 → zV X d 24 23 [] [.inl r] μ1 (zpi P)) :
    zV X d 24 13 [(0, .inr 1), (1, .inl v1), (2, .inl v2)] [.inl s0] μ (zpi P) :=
  (zm_if (nx := 16) (a := 26) (b := 0) (k := 0) (sw := []) (zq_of (by decide +kernel)) (fun z1 => (zm_run [(26, 27, 0, 0, 0, (-1), [])] _ _ _ _ [] 27 [(0, .inr 1), (1, .inl v1), (2, .inl v2)] [.inl (-1 : Int32)] μ (by decide +kernel) rfl rfl (zm_iret (nx := 28) (a := 0) (b := 0) (k := 0) (sw := []) (zq_of (by decide +kernel)) ⟨_, rfl, (h0 (of_decide_eq_true z1))⟩))) (fun z1 => (zm_run [(16, 17, 27, 0, 0, 0, []), (17, 18, 0, 0, 0, 0, []), (18, 19, 1, 1, 0, 0, []), (19, 20, 1, 2, 0, 0, [])] _ _ _ _ [] 20 [(0, .inr 1), (1, .inl v1), (2, .inl v2)] [.inl v2, .inl v1, .inl (0 : Int32), .inr 1] μ (by decide +kernel) rfl rfl (by obtain ⟨G, he, hk⟩ := (h1 (of_decide_eq_false z1)); exact zm_callV (as := [.inr 1, .inl (0 : Int32), .inl v1, .inl v2]) (rest := []) (P := zpi G) (nx := 23) (a := 23) (b := 4) (k := 1) (sw := []) (zq_of (by decide +kernel)) rfl rfl rfl he (fun _ μ1 hp => by obtain ⟨v, rfl, hp⟩ := hp; exact (zm_V_pick [] rfl (hk v μ1 hp)))))))

theorem k24_23 {X : zm_T} {d : Nat} {s0 : Int32} {μ : zm_u} {P : Int32 → zm_u → Prop}
    (h0 : P s0 μ) :
    zV X d 24 23 [] [.inl s0] μ (zpi P) :=
  (zm_run [(23, 26, 19, 27, 0, 0, [])] _ _ _ _ [] 27 [] [.inl s0] μ (by decide +kernel) rfl rfl (zm_iret (nx := 28) (a := 0) (b := 0) (k := 0) (sw := []) (zq_of (by decide +kernel)) ⟨_, rfl, h0⟩))

/-! Ty.expOf (I)I : 25 -/
theorem k25_0 {X : zm_T} {d : Nat} {v1 : Int32} {μ : zm_u} {P : Int32 → zm_u → Prop}
    (h0 : ∃ G : Int32 → zm_u → Prop, zI X d 15 [.inr 1, .inl v1] μ G ∧ ∀ (r : Int32) (μ1 : zm_u), G r μ1 → zV X d 25 5 [(0, .inr 1), (1, .inl v1)] [.inl r] μ1 (zpi P)) :
    zV X d 25 0 [(0, .inr 1), (1, .inl v1)] [] μ (zpi P) :=
  (zm_run [(0, 1, 27, 0, 0, 0, []), (1, 2, 1, 1, 0, 0, [])] _ _ _ _ [] 2 [(0, .inr 1), (1, .inl v1)] [.inl v1, .inr 1] μ (by decide +kernel) rfl rfl (by obtain ⟨G, he, hk⟩ := h0; exact zm_callV (as := [.inr 1, .inl v1]) (rest := []) (P := zpi G) (nx := 5) (a := 15) (b := 2) (k := 1) (sw := []) (zq_of (by decide +kernel)) rfl rfl rfl he (fun _ μ1 hp => by obtain ⟨v, rfl, hp⟩ := hp; exact (zm_V_pick [0, 1] rfl (hk v μ1 hp)))))

theorem k25_5 {X : zm_T} {d : Nat} {s0 v1 : Int32} {μ : zm_u} {P : Int32 → zm_u → Prop}
    (h0 : s0 = 0 → P (-1 : Int32) μ)
    (h1 : ¬ (s0 = 0) → ∃ G : Int32 → zm_u → Prop, zI X d 23 [.inr 1, .inl (1 : Int32), .inl v1, .inl (0 : Int32)] μ G ∧ ∀ (r : Int32) (μ1 : zm_u), G r μ1 → zV X d 25 15 [] [.inl r] μ1 (zpi P)) :
    zV X d 25 5 [(0, .inr 1), (1, .inl v1)] [.inl s0] μ (zpi P) :=
  (zm_if (nx := 8) (a := 18) (b := 0) (k := 0) (sw := []) (zq_of (by decide +kernel)) (fun z1 => (zm_run [(18, 19, 0, 0, 0, (-1), [])] _ _ _ _ [] 19 [(0, .inr 1), (1, .inl v1)] [.inl (-1 : Int32)] μ (by decide +kernel) rfl rfl (zm_iret (nx := 20) (a := 0) (b := 0) (k := 0) (sw := []) (zq_of (by decide +kernel)) ⟨_, rfl, (h0 (of_decide_eq_true z1))⟩))) (fun z1 => (zm_run [(8, 9, 27, 0, 0, 0, []), (9, 10, 0, 0, 0, 1, []), (10, 11, 1, 1, 0, 0, []), (11, 12, 0, 0, 0, 0, [])] _ _ _ _ [] 12 [(0, .inr 1), (1, .inl v1)] [.inl (0 : Int32), .inl v1, .inl (1 : Int32), .inr 1] μ (by decide +kernel) rfl rfl (by obtain ⟨G, he, hk⟩ := (h1 (of_decide_eq_false z1)); exact zm_callV (as := [.inr 1, .inl (1 : Int32), .inl v1, .inl (0 : Int32)]) (rest := []) (P := zpi G) (nx := 15) (a := 23) (b := 4) (k := 1) (sw := []) (zq_of (by decide +kernel)) rfl rfl rfl he (fun _ μ1 hp => by obtain ⟨v, rfl, hp⟩ := hp; exact (zm_V_pick [] rfl (hk v μ1 hp)))))))

theorem k25_15 {X : zm_T} {d : Nat} {s0 : Int32} {μ : zm_u} {P : Int32 → zm_u → Prop}
    (h0 : P s0 μ) :
    zV X d 25 15 [] [.inl s0] μ (zpi P) :=
  (zm_run [(15, 18, 19, 19, 0, 0, [])] _ _ _ _ [] 19 [] [.inl s0] μ (by decide +kernel) rfl rfl (zm_iret (nx := 20) (a := 0) (b := 0) (k := 0) (sw := []) (zq_of (by decide +kernel)) ⟨_, rfl, h0⟩))

/-! Ty.nameOf (I)I : 26 -/
theorem k26_0 {X : zm_T} {d : Nat} {v1 : Int32} {μ : zm_u} {P : Int32 → zm_u → Prop}
    (h0 : ∃ G : Int32 → zm_u → Prop, zI X d 23 [.inr 1, .inl (2 : Int32), .inl v1, .inl (0 : Int32)] μ G ∧ ∀ (r : Int32) (μ1 : zm_u), G r μ1 → zV X d 26 7 [] [.inl r] μ1 (zpi P)) :
    zV X d 26 0 [(0, .inr 1), (1, .inl v1)] [] μ (zpi P) :=
  (zm_run [(0, 1, 27, 0, 0, 0, []), (1, 2, 0, 0, 0, 2, []), (2, 3, 1, 1, 0, 0, []), (3, 4, 0, 0, 0, 0, [])] _ _ _ _ [] 4 [(0, .inr 1), (1, .inl v1)] [.inl (0 : Int32), .inl v1, .inl (2 : Int32), .inr 1] μ (by decide +kernel) rfl rfl (by obtain ⟨G, he, hk⟩ := h0; exact zm_callV (as := [.inr 1, .inl (2 : Int32), .inl v1, .inl (0 : Int32)]) (rest := []) (P := zpi G) (nx := 7) (a := 23) (b := 4) (k := 1) (sw := []) (zq_of (by decide +kernel)) rfl rfl rfl he (fun _ μ1 hp => by obtain ⟨v, rfl, hp⟩ := hp; exact (zm_V_pick [] rfl (hk v μ1 hp)))))

theorem k26_7 {X : zm_T} {d : Nat} {s0 : Int32} {μ : zm_u} {P : Int32 → zm_u → Prop}
    (h0 : P s0 μ) :
    zV X d 26 7 [] [.inl s0] μ (zpi P) :=
  (zm_iret (nx := 8) (a := 0) (b := 0) (k := 0) (sw := []) (zq_of (by decide +kernel)) ⟨_, rfl, h0⟩)

/-! Ty.newName ()I : 27 -/
theorem k27_0 {X : zm_T} {d : Nat} {μ : zm_u} {P : Int32 → zm_u → Prop}
    (h0 : ∃ G : Int32 → zm_u → Prop, zI X d 23 [.inr 1, .inl (2 : Int32), .inl ((3 : Int32) + (μ 1 3)), .inl (0 : Int32)] μ G ∧ ∀ (r : Int32) (μ1 : zm_u), G r μ1 → zV X d 27 12 [] [.inl r] μ1 (zpi P)) :
    zV X d 27 0 [(0, .inr 1)] [] μ (zpi P) :=
  (zm_run [(0, 1, 27, 0, 0, 0, []), (1, 2, 0, 0, 0, 2, []), (2, 3, 0, 0, 0, 3, []), (3, 4, 27, 0, 0, 0, []), (4, 7, 4, 3, 1, 0, []), (7, 8, 10, 0, 0, 0, []), (8, 9, 0, 0, 0, 0, [])] _ _ _ _ [] 9 [(0, .inr 1)] [.inl (0 : Int32), .inl ((3 : Int32) + (μ 1 3)), .inl (2 : Int32), .inr 1] μ (by decide +kernel) rfl rfl (by obtain ⟨G, he, hk⟩ := h0; exact zm_callV (as := [.inr 1, .inl (2 : Int32), .inl ((3 : Int32) + (μ 1 3)), .inl (0 : Int32)]) (rest := []) (P := zpi G) (nx := 12) (a := 23) (b := 4) (k := 1) (sw := []) (zq_of (by decide +kernel)) rfl rfl rfl he (fun _ μ1 hp => by obtain ⟨v, rfl, hp⟩ := hp; exact (zm_V_pick [] rfl (hk v μ1 hp)))))

theorem k27_12 {X : zm_T} {d : Nat} {s0 : Int32} {μ : zm_u} {P : Int32 → zm_u → Prop}
    (h0 : P s0 μ) :
    zV X d 27 12 [] [.inl s0] μ (zpi P) :=
  (zm_iret (nx := 13) (a := 0) (b := 0) (k := 0) (sw := []) (zq_of (by decide +kernel)) ⟨_, rfl, h0⟩)

/-! Ty.forgetFrom (I)V : 28 -/
theorem k28_0 {X : zm_T} {d : Nat} {v1 : Int32} {μ : zm_u} {P : zm_u → Prop}
    (h0 : ∃ G : Int32 → zm_u → Prop, zI X d 15 [.inr 1, .inl v1] μ G ∧ ∀ (r : Int32) (μ1 : zm_u), G r μ1 → zV X d 28 5 [(0, .inr 1), (1, .inl v1)] [.inl r] μ1 (zpo P)) :
    zV X d 28 0 [(0, .inr 1), (1, .inl v1)] [] μ (zpo P) :=
  (zm_run [(0, 1, 27, 0, 0, 0, []), (1, 2, 1, 1, 0, 0, [])] _ _ _ _ [] 2 [(0, .inr 1), (1, .inl v1)] [.inl v1, .inr 1] μ (by decide +kernel) rfl rfl (by obtain ⟨G, he, hk⟩ := h0; exact zm_callV (as := [.inr 1, .inl v1]) (rest := []) (P := zpi G) (nx := 5) (a := 15) (b := 2) (k := 1) (sw := []) (zq_of (by decide +kernel)) rfl rfl rfl he (fun _ μ1 hp => by obtain ⟨v, rfl, hp⟩ := hp; exact (zm_V_pick [0, 1] rfl (hk v μ1 hp)))))

theorem k28_5 {X : zm_T} {d : Nat} {s0 v1 : Int32} {μ : zm_u} {P : zm_u → Prop}
    (h0 : s0 = 0 → P μ)
    (h1 : ¬ (s0 = 0) → P (zm_up μ 1 3 v1)) :
    zV X d 28 5 [(0, .inr 1), (1, .inl v1)] [.inl s0] μ (zpo P) :=
  (zm_if (nx := 8) (a := 13) (b := 0) (k := 0) (sw := []) (zq_of (by decide +kernel)) (fun z1 => (zm_vret (nx := 14) (a := 0) (b := 0) (k := 0) (sw := []) (zq_of (by decide +kernel)) ⟨rfl, (h0 (of_decide_eq_true z1))⟩)) (fun z1 => (zm_run [(8, 9, 27, 0, 0, 0, []), (9, 10, 1, 1, 0, 0, []), (10, 13, 5, 3, 1, 0, [])] _ _ _ _ [] 13 [(0, .inr 1), (1, .inl v1)] [] (zm_up μ 1 3 v1) (by decide +kernel) rfl rfl (zm_vret (nx := 14) (a := 0) (b := 0) (k := 0) (sw := []) (zq_of (by decide +kernel)) ⟨rfl, (h1 (of_decide_eq_false z1))⟩))))

/-! Te.onStack ()I : 29 -/
theorem k29_0 {X : zm_T} {d : Nat} {μ : zm_u} {P : Int32 → zm_u → Prop}
    (h0 : P (μ 2 5) μ) :
    zV X d 29 0 [(0, .inr 2)] [] μ (zpi P) :=
  (zm_run [(0, 1, 27, 0, 0, 0, []), (1, 4, 4, 5, 2, 0, [])] _ _ _ _ [] 4 [(0, .inr 2)] [.inl (μ 2 5)] μ (by decide +kernel) rfl rfl (zm_iret (nx := 5) (a := 0) (b := 0) (k := 0) (sw := []) (zq_of (by decide +kernel)) ⟨_, rfl, h0⟩))

/-! Te.body ()I : 30 -/
theorem k30_0 {X : zm_T} {d : Nat} {μ : zm_u} {P : Int32 → zm_u → Prop}
    (h0 : P (μ 2 6) μ) :
    zV X d 30 0 [(0, .inr 2)] [] μ (zpi P) :=
  (zm_run [(0, 1, 27, 0, 0, 0, []), (1, 4, 4, 6, 2, 0, [])] _ _ _ _ [] 4 [(0, .inr 2)] [.inl (μ 2 6)] μ (by decide +kernel) rfl rfl (zm_iret (nx := 5) (a := 0) (b := 0) (k := 0) (sw := []) (zq_of (by decide +kernel)) ⟨_, rfl, h0⟩))

/-! Te.mainTerm ()I : 31 -/
theorem k31_0 {X : zm_T} {d : Nat} {μ : zm_u} {P : Int32 → zm_u → Prop}
    (h0 : P (μ 2 7) μ) :
    zV X d 31 0 [(0, .inr 2)] [] μ (zpi P) :=
  (zm_run [(0, 1, 27, 0, 0, 0, []), (1, 4, 4, 7, 2, 0, [])] _ _ _ _ [] 4 [(0, .inr 2)] [.inl (μ 2 7)] μ (by decide +kernel) rfl rfl (zm_iret (nx := 5) (a := 0) (b := 0) (k := 0) (sw := []) (zq_of (by decide +kernel)) ⟨_, rfl, h0⟩))

/-! Te.opOf (I)I : 32 -/
theorem k32_0 {X : zm_T} {d : Nat} {v1 : Int32} {μ : zm_u} {P : Int32 → zm_u → Prop}
    (h0 : ∃ G : Int32 → zm_u → Prop, zI X d 43 [.inl v1] μ G ∧ ∀ (r : Int32) (μ1 : zm_u), G r μ1 → zV X d 32 4 [(0, .inr 2), (1, .inl v1)] [.inl r] μ1 (zpi P)) :
    zV X d 32 0 [(0, .inr 2), (1, .inl v1)] [] μ (zpi P) :=
  (zm_run [(0, 1, 1, 1, 0, 0, [])] _ _ _ _ [] 1 [(0, .inr 2), (1, .inl v1)] [.inl v1] μ (by decide +kernel) rfl rfl (by obtain ⟨G, he, hk⟩ := h0; exact zm_callS (as := [.inl v1]) (rest := []) (P := zpi G) (nx := 4) (a := 43) (b := 1) (k := 0) (sw := []) (zq_of (by decide +kernel)) rfl rfl rfl he (fun _ μ1 hp => by obtain ⟨v, rfl, hp⟩ := hp; exact (zm_V_pick [0, 1] rfl (hk v μ1 hp)))))

theorem k32_4 {X : zm_T} {d : Nat} {s0 v1 : Int32} {μ : zm_u} {P : Int32 → zm_u → Prop}
    (h0 : s0 = 0 → P (-1 : Int32) μ)
    (h1 : ¬ (s0 = 0) → 0 ≤ (v1).toInt ∧ (v1).toInt < ((560 : Nat) : Int))
    (h2 : ¬ (s0 = 0) → P (μ 9 (v1).toNatClampNeg) μ) :
    zV X d 32 4 [(0, .inr 2), (1, .inl v1)] [.inl s0] μ (zpi P) :=
  (zm_if (nx := 7) (a := 16) (b := 0) (k := 0) (sw := []) (zq_of (by decide +kernel)) (fun z1 => (zm_run [(16, 17, 0, 0, 0, (-1), [])] _ _ _ _ [] 17 [(0, .inr 2), (1, .inl v1)] [.inl (-1 : Int32)] μ (by decide +kernel) rfl rfl (zm_iret (nx := 18) (a := 0) (b := 0) (k := 0) (sw := []) (zq_of (by decide +kernel)) ⟨_, rfl, (h0 (of_decide_eq_true z1))⟩))) (fun z1 => (zm_run [(7, 8, 27, 0, 0, 0, []), (8, 11, 4, 0, 2, 0, []), (11, 12, 1, 1, 0, 0, []), (12, 13, 6, 0, 0, 0, []), (13, 16, 19, 17, 0, 0, [])] _ _ _ _ [decide (0 ≤ (v1).toInt ∧ (v1).toInt < ((560 : Nat) : Int))] 17 [(0, .inr 2), (1, .inl v1)] [.inl (μ 9 (v1).toNatClampNeg)] μ (by decide +kernel) rfl (zm_bc (h1 (of_decide_eq_false z1)) rfl) (zm_iret (nx := 18) (a := 0) (b := 0) (k := 0) (sw := []) (zq_of (by decide +kernel)) ⟨_, rfl, (h2 (of_decide_eq_false z1))⟩))))

/-! Te.argumentOf (I)I : 33 -/
theorem k33_0 {X : zm_T} {d : Nat} {v1 : Int32} {μ : zm_u} {P : Int32 → zm_u → Prop}
    (h0 : ∃ G : Int32 → zm_u → Prop, zI X d 43 [.inl v1] μ G ∧ ∀ (r : Int32) (μ1 : zm_u), G r μ1 → zV X d 33 4 [(0, .inr 2), (1, .inl v1)] [.inl r] μ1 (zpi P)) :
    zV X d 33 0 [(0, .inr 2), (1, .inl v1)] [] μ (zpi P) :=
  (zm_run [(0, 1, 1, 1, 0, 0, [])] _ _ _ _ [] 1 [(0, .inr 2), (1, .inl v1)] [.inl v1] μ (by decide +kernel) rfl rfl (by obtain ⟨G, he, hk⟩ := h0; exact zm_callS (as := [.inl v1]) (rest := []) (P := zpi G) (nx := 4) (a := 43) (b := 1) (k := 0) (sw := []) (zq_of (by decide +kernel)) rfl rfl rfl he (fun _ μ1 hp => by obtain ⟨v, rfl, hp⟩ := hp; exact (zm_V_pick [0, 1] rfl (hk v μ1 hp)))))

theorem k33_4 {X : zm_T} {d : Nat} {s0 v1 : Int32} {μ : zm_u} {P : Int32 → zm_u → Prop}
    (h0 : s0 = 0 → P (-1 : Int32) μ)
    (h1 : ¬ (s0 = 0) → 0 ≤ (v1).toInt ∧ (v1).toInt < ((560 : Nat) : Int))
    (h2 : ¬ (s0 = 0) → P (μ 10 (v1).toNatClampNeg) μ) :
    zV X d 33 4 [(0, .inr 2), (1, .inl v1)] [.inl s0] μ (zpi P) :=
  (zm_if (nx := 7) (a := 16) (b := 0) (k := 0) (sw := []) (zq_of (by decide +kernel)) (fun z1 => (zm_run [(16, 17, 0, 0, 0, (-1), [])] _ _ _ _ [] 17 [(0, .inr 2), (1, .inl v1)] [.inl (-1 : Int32)] μ (by decide +kernel) rfl rfl (zm_iret (nx := 18) (a := 0) (b := 0) (k := 0) (sw := []) (zq_of (by decide +kernel)) ⟨_, rfl, (h0 (of_decide_eq_true z1))⟩))) (fun z1 => (zm_run [(7, 8, 27, 0, 0, 0, []), (8, 11, 4, 1, 2, 0, []), (11, 12, 1, 1, 0, 0, []), (12, 13, 6, 0, 0, 0, []), (13, 16, 19, 17, 0, 0, [])] _ _ _ _ [decide (0 ≤ (v1).toInt ∧ (v1).toInt < ((560 : Nat) : Int))] 17 [(0, .inr 2), (1, .inl v1)] [.inl (μ 10 (v1).toNatClampNeg)] μ (by decide +kernel) rfl (zm_bc (h1 (of_decide_eq_false z1)) rfl) (zm_iret (nx := 18) (a := 0) (b := 0) (k := 0) (sw := []) (zq_of (by decide +kernel)) ⟨_, rfl, (h2 (of_decide_eq_false z1))⟩))))

/-! Te.part (II)I : 34 -/
theorem k34_0 {X : zm_T} {d : Nat} {v1 v2 : Int32} {μ : zm_u} {P : Int32 → zm_u → Prop}
    (h0 : ∃ G : Int32 → zm_u → Prop, zI X d 32 [.inr 2, .inl v1] μ G ∧ ∀ (r : Int32) (μ1 : zm_u), G r μ1 → zV X d 34 9 [(0, .inr 2), (1, .inl v1), (2, .inl v2), (3, .inl (v1 - (1 : Int32)))] [.inl r] μ1 (zpi P)) :
    zV X d 34 0 [(0, .inr 2), (1, .inl v1), (2, .inl v2)] [] μ (zpi P) :=
  (zm_run [(0, 1, 1, 1, 0, 0, []), (1, 2, 0, 0, 0, 1, []), (2, 3, 11, 0, 0, 0, []), (3, 4, 2, 3, 0, 0, []), (4, 5, 27, 0, 0, 0, []), (5, 6, 1, 1, 0, 0, [])] _ _ _ _ [] 6 [(0, .inr 2), (1, .inl v1), (2, .inl v2), (3, .inl (v1 - (1 : Int32)))] [.inl v1, .inr 2] μ (by decide +kernel) rfl rfl (by obtain ⟨G, he, hk⟩ := h0; exact zm_callV (as := [.inr 2, .inl v1]) (rest := []) (P := zpi G) (nx := 9) (a := 32) (b := 2) (k := 2) (sw := []) (zq_of (by decide +kernel)) rfl rfl rfl he (fun _ μ1 hp => by obtain ⟨v, rfl, hp⟩ := hp; exact (zm_V_pick [0, 1, 2, 3] rfl (hk v μ1 hp)))))

theorem k34_9 {X : zm_T} {d : Nat} {s0 v1 v2 v3 : Int32} {μ : zm_u} {P : Int32 → zm_u → Prop}
    (h0 : ∃ G : Int32 → zm_u → Prop, zI X d 33 [.inr 2, .inl v1] μ G ∧ ∀ (r : Int32) (μ1 : zm_u), G r μ1 → zV X d 34 14 [(0, .inr 2), (2, .inl v2), (3, .inl v3)] [.inl r, .inl s0] μ1 (zpi P)) :
    zV X d 34 9 [(0, .inr 2), (1, .inl v1), (2, .inl v2), (3, .inl v3)] [.inl s0] μ (zpi P) :=
  (zm_run [(9, 10, 27, 0, 0, 0, []), (10, 11, 1, 1, 0, 0, [])] _ _ _ _ [] 11 [(0, .inr 2), (1, .inl v1), (2, .inl v2), (3, .inl v3)] [.inl v1, .inr 2, .inl s0] μ (by decide +kernel) rfl rfl (by obtain ⟨G, he, hk⟩ := h0; exact zm_callV (as := [.inr 2, .inl v1]) (rest := [.inl s0]) (P := zpi G) (nx := 14) (a := 33) (b := 2) (k := 2) (sw := []) (zq_of (by decide +kernel)) rfl rfl rfl he (fun _ μ1 hp => by obtain ⟨v, rfl, hp⟩ := hp; exact (zm_V_pick [0, 2, 3] rfl (hk v μ1 hp)))))

theorem k34_14 {X : zm_T} {d : Nat} {s0 s1 v2 v3 : Int32} {μ : zm_u} {P : Int32 → zm_u → Prop}
    (h0 : ∃ G : Int32 → zm_u → Prop, zI X d 12 [.inl s0, .inl s1] μ G ∧ ∀ (r : Int32) (μ1 : zm_u), G r μ1 → zV X d 34 17 [(0, .inr 2), (2, .inl v2), (3, .inl v3)] [.inl r] μ1 (zpi P)) :
    zV X d 34 14 [(0, .inr 2), (2, .inl v2), (3, .inl v3)] [.inl s1, .inl s0] μ (zpi P) :=
  (by obtain ⟨G, he, hk⟩ := h0; exact zm_callS (as := [.inl s0, .inl s1]) (rest := []) (P := zpi G) (nx := 17) (a := 12) (b := 2) (k := 0) (sw := []) (zq_of (by decide +kernel)) rfl rfl rfl he (fun _ μ1 hp => by obtain ⟨v, rfl, hp⟩ := hp; exact (zm_V_pick [0, 2, 3] rfl (hk v μ1 hp))))

theorem k34_17 {X : zm_T} {d : Nat} {s0 v2 v3 : Int32} {μ : zm_u} {P : Int32 → zm_u → Prop}
    (h0 : zV X d 34 21 [(0, .inr 2), (2, .inl v2), (3, .inl v3), (4, .inl (s0 - (1 : Int32)))] [] μ (zpi P)) :
    zV X d 34 17 [(0, .inr 2), (2, .inl v2), (3, .inl v3)] [.inl s0] μ (zpi P) :=
  (zm_run [(17, 18, 0, 0, 0, 1, []), (18, 19, 11, 0, 0, 0, []), (19, 21, 2, 4, 0, 0, [])] _ _ _ _ [] 21 [(0, .inr 2), (2, .inl v2), (3, .inl v3), (4, .inl (s0 - (1 : Int32)))] [] μ (by decide +kernel) rfl rfl (zm_V_pick [0, 2, 3, 4] rfl h0))

theorem k34_21 {X : zm_T} {d : Nat} {v2 v3 v4 : Int32} {μ : zm_u} {P : Int32 → zm_u → Prop}
    (h0 : v4 ≤ v2 → P v3 μ)
    (h1 : ¬ (v4 ≤ v2) → ∃ G : Int32 → zm_u → Prop, zI X d 42 [.inr 2, .inl v3] μ G ∧ ∀ (r : Int32) (μ1 : zm_u), G r μ1 → zV X d 34 33 [(0, .inr 2), (2, .inl v2), (4, .inl v4)] [.inl r, .inl v3] μ1 (zpi P)) :
    zV X d 34 21 [(0, .inr 2), (2, .inl v2), (3, .inl v3), (4, .inl v4)] [] μ (zpi P) :=
  (zm_run [(21, 23, 1, 4, 0, 0, []), (23, 24, 1, 2, 0, 0, [])] _ _ _ _ [] 24 [(0, .inr 2), (2, .inl v2), (3, .inl v3), (4, .inl v4)] [.inl v2, .inl v4] μ (by decide +kernel) rfl rfl (zm_icmp (nx := 27) (a := 41) (b := 5) (k := 0) (sw := []) (zq_of (by decide +kernel)) (fun z1 => (zm_run [(41, 42, 1, 3, 0, 0, [])] _ _ _ _ [] 42 [(0, .inr 2), (2, .inl v2), (3, .inl v3), (4, .inl v4)] [.inl v3] μ (by decide +kernel) rfl rfl (zm_iret (nx := 43) (a := 0) (b := 0) (k := 0) (sw := []) (zq_of (by decide +kernel)) ⟨_, rfl, (h0 (of_decide_eq_true z1))⟩))) (fun z1 => (zm_run [(27, 28, 1, 3, 0, 0, []), (28, 29, 27, 0, 0, 0, []), (29, 30, 1, 3, 0, 0, [])] _ _ _ _ [] 30 [(0, .inr 2), (2, .inl v2), (3, .inl v3), (4, .inl v4)] [.inl v3, .inr 2, .inl v3] μ (by decide +kernel) rfl rfl (by obtain ⟨G, he, hk⟩ := (h1 (of_decide_eq_false z1)); exact zm_callV (as := [.inr 2, .inl v3]) (rest := [.inl v3]) (P := zpi G) (nx := 33) (a := 42) (b := 2) (k := 2) (sw := []) (zq_of (by decide +kernel)) rfl rfl rfl he (fun _ μ1 hp => by obtain ⟨v, rfl, hp⟩ := hp; exact (zm_V_pick [0, 2, 4] rfl (hk v μ1 hp))))))))

theorem k34_33 {X : zm_T} {d : Nat} {s0 s1 v2 v4 : Int32} {μ : zm_u} {P : Int32 → zm_u → Prop}
    (h0 : zV X d 34 21 [(0, .inr 2), (2, .inl v2), (3, .inl (s0 - s1)), (4, .inl (v4 + (-1)))] [] μ (zpi P)) :
    zV X d 34 33 [(0, .inr 2), (2, .inl v2), (4, .inl v4)] [.inl s1, .inl s0] μ (zpi P) :=
  (zm_run [(33, 34, 11, 0, 0, 0, []), (34, 35, 2, 3, 0, 0, []), (35, 38, 3, 4, 0, (-1), []), (38, 41, 19, 21, 0, 0, [])] _ _ _ _ [] 21 [(0, .inr 2), (2, .inl v2), (3, .inl (s0 - s1)), (4, .inl (v4 + (-1)))] [] μ (by decide +kernel) rfl rfl (zm_V_pick [0, 2, 3, 4] rfl h0))

/-! Te.caseFor (II)I : 35 -/
theorem k35_0 {X : zm_T} {d : Nat} {v1 v2 : Int32} {μ : zm_u} {P : Int32 → zm_u → Prop}
    (h0 : ∃ G : Int32 → zm_u → Prop, zI X d 33 [.inr 2, .inl v1] μ G ∧ ∀ (r : Int32) (μ1 : zm_u), G r μ1 → zV X d 35 5 [(0, .inr 2), (1, .inl v1), (2, .inl v2)] [.inl r] μ1 (zpi P)) :
    zV X d 35 0 [(0, .inr 2), (1, .inl v1), (2, .inl v2)] [] μ (zpi P) :=
  (zm_run [(0, 1, 27, 0, 0, 0, []), (1, 2, 1, 1, 0, 0, [])] _ _ _ _ [] 2 [(0, .inr 2), (1, .inl v1), (2, .inl v2)] [.inl v1, .inr 2] μ (by decide +kernel) rfl rfl (by obtain ⟨G, he, hk⟩ := h0; exact zm_callV (as := [.inr 2, .inl v1]) (rest := []) (P := zpi G) (nx := 5) (a := 33) (b := 2) (k := 2) (sw := []) (zq_of (by decide +kernel)) rfl rfl rfl he (fun _ μ1 hp => by obtain ⟨v, rfl, hp⟩ := hp; exact (zm_V_pick [0, 1, 2] rfl (hk v μ1 hp)))))

theorem k35_5 {X : zm_T} {d : Nat} {s0 v1 v2 : Int32} {μ : zm_u} {P : Int32 → zm_u → Prop}
    (h0 : ∃ G : Int32 → zm_u → Prop, zI X d 13 [.inl v2] μ G ∧ ∀ (r : Int32) (μ1 : zm_u), G r μ1 → zV X d 35 18 [(0, .inr 2), (1, .inl v1), (3, .inl s0), (4, .inl ((1 : Int32) <<< ((v2 - (11 : Int32)) &&& 31)))] [.inl r] μ1 (zpi P)) :
    zV X d 35 5 [(0, .inr 2), (1, .inl v1), (2, .inl v2)] [.inl s0] μ (zpi P) :=
  (zm_run [(5, 6, 2, 3, 0, 0, []), (6, 7, 0, 0, 0, 1, []), (7, 8, 1, 2, 0, 0, []), (8, 10, 0, 0, 0, 11, []), (10, 11, 11, 0, 0, 0, []), (11, 12, 14, 0, 0, 0, []), (12, 14, 2, 4, 0, 0, []), (14, 15, 1, 2, 0, 0, [])] _ _ _ _ [] 15 [(0, .inr 2), (1, .inl v1), (2, .inl v2), (3, .inl s0), (4, .inl ((1 : Int32) <<< ((v2 - (11 : Int32)) &&& 31)))] [.inl v2] μ (by decide +kernel) rfl rfl (by obtain ⟨G, he, hk⟩ := h0; exact zm_callS (as := [.inl v2]) (rest := []) (P := zpi G) (nx := 18) (a := 13) (b := 1) (k := 0) (sw := []) (zq_of (by decide +kernel)) rfl rfl rfl he (fun _ μ1 hp => by obtain ⟨v, rfl, hp⟩ := hp; exact (zm_V_pick [0, 1, 3, 4] rfl (hk v μ1 hp)))))

theorem k35_18 {X : zm_T} {d : Nat} {s0 v1 v3 v4 : Int32} {μ : zm_u} {P : Int32 → zm_u → Prop}
    (h0 : s0 = 0 → P (-1 : Int32) μ)
    (h1 : ¬ (s0 = 0) → ¬ (v3 &&& v4) = 0 → ∃ G : Int32 → zm_u → Prop, zI X d 161 [.inl (v3 &&& (v4 - (1 : Int32)))] μ G ∧ ∀ (r : Int32) (μ1 : zm_u), G r μ1 → zV X d 35 42 [] [.inl r, .inl (1 : Int32), .inl v1, .inr 2] μ1 (zpi P))
    (h2 : ¬ (s0 = 0) → (v3 &&& v4) = 0 → P (-1 : Int32) μ) :
    zV X d 35 18 [(0, .inr 2), (1, .inl v1), (3, .inl v3), (4, .inl v4)] [.inl s0] μ (zpi P) :=
  (zm_if (nx := 21) (a := 28) (b := 0) (k := 0) (sw := []) (zq_of (by decide +kernel)) (fun z1 => (zm_run [(28, 29, 0, 0, 0, (-1), [])] _ _ _ _ [] 29 [(0, .inr 2), (1, .inl v1), (3, .inl v3), (4, .inl v4)] [.inl (-1 : Int32)] μ (by decide +kernel) rfl rfl (zm_iret (nx := 30) (a := 0) (b := 0) (k := 0) (sw := []) (zq_of (by decide +kernel)) ⟨_, rfl, (h0 (of_decide_eq_true z1))⟩))) (fun z1 => (zm_run [(21, 22, 1, 3, 0, 0, []), (22, 24, 1, 4, 0, 0, []), (24, 25, 13, 0, 0, 0, [])] _ _ _ _ [] 25 [(0, .inr 2), (1, .inl v1), (3, .inl v3), (4, .inl v4)] [.inl (v3 &&& v4)] μ (by decide +kernel) rfl rfl (zm_if (nx := 28) (a := 30) (b := 1) (k := 0) (sw := []) (zq_of (by decide +kernel)) (fun z2 => (zm_run [(30, 31, 27, 0, 0, 0, []), (31, 32, 1, 1, 0, 0, []), (32, 33, 0, 0, 0, 1, []), (33, 34, 1, 3, 0, 0, []), (34, 36, 1, 4, 0, 0, []), (36, 37, 0, 0, 0, 1, []), (37, 38, 11, 0, 0, 0, []), (38, 39, 13, 0, 0, 0, [])] _ _ _ _ [] 39 [(0, .inr 2), (1, .inl v1), (3, .inl v3), (4, .inl v4)] [.inl (v3 &&& (v4 - (1 : Int32))), .inl (1 : Int32), .inl v1, .inr 2] μ (by decide +kernel) rfl rfl (by obtain ⟨G, he, hk⟩ := (h1 (of_decide_eq_false z1) (of_decide_eq_true z2)); exact zm_callS (as := [.inl (v3 &&& (v4 - (1 : Int32)))]) (rest := [.inl (1 : Int32), .inl v1, .inr 2]) (P := zpi G) (nx := 42) (a := 161) (b := 1) (k := 0) (sw := []) (zq_of (by decide +kernel)) rfl rfl rfl he (fun _ μ1 hp => by obtain ⟨v, rfl, hp⟩ := hp; exact (zm_V_pick [] rfl (hk v μ1 hp)))))) (fun z2 => (zm_run [(28, 29, 0, 0, 0, (-1), [])] _ _ _ _ [] 29 [(0, .inr 2), (1, .inl v1), (3, .inl v3), (4, .inl v4)] [.inl (-1 : Int32)] μ (by decide +kernel) rfl rfl (zm_iret (nx := 30) (a := 0) (b := 0) (k := 0) (sw := []) (zq_of (by decide +kernel)) ⟨_, rfl, (h2 (of_decide_eq_false z1) (Classical.byContradiction fun w => (of_decide_eq_false z2) w))⟩)))))))

theorem k35_42 {X : zm_T} {d : Nat} {s1 s2 s3 : Int32} {μ : zm_u} {P : Int32 → zm_u → Prop}
    (h0 : ∃ G : Int32 → zm_u → Prop, zI X d 34 [.inr 2, .inl s1, .inl (s2 + s3)] μ G ∧ ∀ (r : Int32) (μ1 : zm_u), G r μ1 → zV X d 35 46 [] [.inl r] μ1 (zpi P)) :
    zV X d 35 42 [] [.inl s3, .inl s2, .inl s1, .inr 2] μ (zpi P) :=
  (zm_run [(42, 43, 10, 0, 0, 0, [])] _ _ _ _ [] 43 [] [.inl (s2 + s3), .inl s1, .inr 2] μ (by decide +kernel) rfl rfl (by obtain ⟨G, he, hk⟩ := h0; exact zm_callV (as := [.inr 2, .inl s1, .inl (s2 + s3)]) (rest := []) (P := zpi G) (nx := 46) (a := 34) (b := 3) (k := 2) (sw := []) (zq_of (by decide +kernel)) rfl rfl rfl he (fun _ μ1 hp => by obtain ⟨v, rfl, hp⟩ := hp; exact (zm_V_pick [] rfl (hk v μ1 hp)))))

theorem k35_46 {X : zm_T} {d : Nat} {s0 : Int32} {μ : zm_u} {P : Int32 → zm_u → Prop}
    (h0 : P s0 μ) :
    zV X d 35 46 [] [.inl s0] μ (zpi P) :=
  (zm_iret (nx := 47) (a := 0) (b := 0) (k := 0) (sw := []) (zq_of (by decide +kernel)) ⟨_, rfl, h0⟩)

/-! Te.put (II)I : 36 -/
theorem k36_0 {X : zm_T} {d : Nat} {v1 v2 : Int32} {μ : zm_u} {P : Int32 → zm_u → Prop}
    (h0 : ∃ G : Int32 → zm_u → Prop, zI X d 12 [.inl v1, .inl v2] μ G ∧ ∀ (r : Int32) (μ1 : zm_u), G r μ1 → zV X d 36 5 [(0, .inr 2), (1, .inl v1), (2, .inl v2)] [.inl r] μ1 (zpi P)) :
    zV X d 36 0 [(0, .inr 2), (1, .inl v1), (2, .inl v2)] [] μ (zpi P) :=
  (zm_run [(0, 1, 1, 1, 0, 0, []), (1, 2, 1, 2, 0, 0, [])] _ _ _ _ [] 2 [(0, .inr 2), (1, .inl v1), (2, .inl v2)] [.inl v2, .inl v1] μ (by decide +kernel) rfl rfl (by obtain ⟨G, he, hk⟩ := h0; exact zm_callS (as := [.inl v1, .inl v2]) (rest := []) (P := zpi G) (nx := 5) (a := 12) (b := 2) (k := 0) (sw := []) (zq_of (by decide +kernel)) rfl rfl rfl he (fun _ μ1 hp => by obtain ⟨v, rfl, hp⟩ := hp; exact (zm_V_pick [0, 1, 2] rfl (hk v μ1 hp)))))

theorem k36_5 {X : zm_T} {d : Nat} {s0 v1 v2 : Int32} {μ : zm_u} {P : Int32 → zm_u → Prop}
    (h0 : zV X d 36 12 [(0, .inr 2), (1, .inl v1), (2, .inl v2), (3, .inl s0), (4, .inl (1 : Int32)), (5, .inl (0 : Int32))] [] μ (zpi P)) :
    zV X d 36 5 [(0, .inr 2), (1, .inl v1), (2, .inl v2)] [.inl s0] μ (zpi P) :=
  (zm_run [(5, 6, 2, 3, 0, 0, []), (6, 7, 0, 0, 0, 1, []), (7, 9, 2, 4, 0, 0, []), (9, 10, 0, 0, 0, 0, []), (10, 12, 2, 5, 0, 0, [])] _ _ _ _ [] 12 [(0, .inr 2), (1, .inl v1), (2, .inl v2), (3, .inl s0), (4, .inl (1 : Int32)), (5, .inl (0 : Int32))] [] μ (by decide +kernel) rfl rfl (zm_V_pick [0, 1, 2, 3, 4, 5] rfl h0))

theorem k36_12 {X : zm_T} {d : Nat} {v1 v2 v3 v4 v5 : Int32} {μ : zm_u} {P : Int32 → zm_u → Prop}
    (h0 : v3 ≤ v5 → ∃ G : Int32 → zm_u → Prop, zI X d 37 [.inr 2, .inl v3] μ G ∧ ∀ (r : Int32) (μ1 : zm_u), G r μ1 → zV X d 36 46 [(0, .inr 2), (1, .inl v1), (2, .inl v2), (3, .inl v3), (4, .inl v4)] [.inl r, .inl (1 : Int32)] μ1 (zpi P))
    (h1 : ¬ (v3 ≤ v5) → ∃ G : Int32 → zm_u → Prop, zI X d 42 [.inr 2, .inl ((μ 2 4) - v4)] μ G ∧ ∀ (r : Int32) (μ1 : zm_u), G r μ1 → zV X d 36 31 [(0, .inr 2), (1, .inl v1), (2, .inl v2), (3, .inl v3), (5, .inl v5)] [.inl r, .inl v4] μ1 (zpi P)) :
    zV X d 36 12 [(0, .inr 2), (1, .inl v1), (2, .inl v2), (3, .inl v3), (4, .inl v4), (5, .inl v5)] [] μ (zpi P) :=
  (zm_run [(12, 14, 1, 5, 0, 0, []), (14, 15, 1, 3, 0, 0, [])] _ _ _ _ [] 15 [(0, .inr 2), (1, .inl v1), (2, .inl v2), (3, .inl v3), (4, .inl v4), (5, .inl v5)] [.inl v3, .inl v5] μ (by decide +kernel) rfl rfl (zm_icmp (nx := 18) (a := 40) (b := 3) (k := 0) (sw := []) (zq_of (by decide +kernel)) (fun z1 => (zm_run [(40, 41, 0, 0, 0, 1, []), (41, 42, 27, 0, 0, 0, []), (42, 43, 1, 3, 0, 0, [])] _ _ _ _ [] 43 [(0, .inr 2), (1, .inl v1), (2, .inl v2), (3, .inl v3), (4, .inl v4), (5, .inl v5)] [.inl v3, .inr 2, .inl (1 : Int32)] μ (by decide +kernel) rfl rfl (by obtain ⟨G, he, hk⟩ := (h0 (of_decide_eq_true z1)); exact zm_callV (as := [.inr 2, .inl v3]) (rest := [.inl (1 : Int32)]) (P := zpi G) (nx := 46) (a := 37) (b := 2) (k := 2) (sw := []) (zq_of (by decide +kernel)) rfl rfl rfl he (fun _ μ1 hp => by obtain ⟨v, rfl, hp⟩ := hp; exact (zm_V_pick [0, 1, 2, 3, 4] rfl (hk v μ1 hp)))))) (fun z1 => (zm_run [(18, 20, 1, 4, 0, 0, []), (20, 21, 27, 0, 0, 0, []), (21, 22, 27, 0, 0, 0, []), (22, 25, 4, 4, 2, 0, []), (25, 27, 1, 4, 0, 0, []), (27, 28, 11, 0, 0, 0, [])] _ _ _ _ [] 28 [(0, .inr 2), (1, .inl v1), (2, .inl v2), (3, .inl v3), (4, .inl v4), (5, .inl v5)] [.inl ((μ 2 4) - v4), .inr 2, .inl v4] μ (by decide +kernel) rfl rfl (by obtain ⟨G, he, hk⟩ := (h1 (of_decide_eq_false z1)); exact zm_callV (as := [.inr 2, .inl ((μ 2 4) - v4)]) (rest := [.inl v4]) (P := zpi G) (nx := 31) (a := 42) (b := 2) (k := 2) (sw := []) (zq_of (by decide +kernel)) rfl rfl rfl he (fun _ μ1 hp => by obtain ⟨v, rfl, hp⟩ := hp; exact (zm_V_pick [0, 1, 2, 3, 5] rfl (hk v μ1 hp))))))))

theorem k36_46 {X : zm_T} {d : Nat} {s0 s1 v1 v2 v3 v4 : Int32} {μ : zm_u} {P : Int32 → zm_u → Prop}
    (h0 : (40 : Int32) < v4 → zV X d 36 85 [(0, .inr 2), (1, .inl v1), (2, .inl v2), (4, .inl v4), (5, .inl (s0 + s1)), (6, .inl ((μ 2 5) - v3))] [] μ (zpi P))
    (h1 : ¬ ((40 : Int32) < v4) → (6 : Int32) < (s0 + s1) → zV X d 36 85 [(0, .inr 2), (1, .inl v1), (2, .inl v2), (4, .inl v4), (5, .inl (s0 + s1)), (6, .inl ((μ 2 5) - v3))] [] μ (zpi P))
    (h2 : ¬ ((40 : Int32) < v4) → ¬ ((6 : Int32) < (s0 + s1)) → (480 : Int32) ≤ (μ 2 4) → zV X d 36 85 [(0, .inr 2), (1, .inl v1), (2, .inl v2), (4, .inl v4), (5, .inl (s0 + s1)), (6, .inl ((μ 2 5) - v3))] [] μ (zpi P))
    (h3 : ¬ ((40 : Int32) < v4) → ¬ ((6 : Int32) < (s0 + s1)) → ¬ ((480 : Int32) ≤ (μ 2 4)) → zV X d 36 86 [(0, .inr 2), (1, .inl v1), (2, .inl v2), (4, .inl v4), (5, .inl (s0 + s1)), (6, .inl ((μ 2 5) - v3))] [.inl (1 : Int32)] μ (zpi P)) :
    zV X d 36 46 [(0, .inr 2), (1, .inl v1), (2, .inl v2), (3, .inl v3), (4, .inl v4)] [.inl s1, .inl s0] μ (zpi P) :=
  (zm_run [(46, 47, 10, 0, 0, 0, []), (47, 49, 2, 5, 0, 0, []), (49, 50, 27, 0, 0, 0, []), (50, 53, 4, 5, 2, 0, []), (53, 54, 1, 3, 0, 0, []), (54, 55, 11, 0, 0, 0, []), (55, 57, 2, 6, 0, 0, []), (57, 59, 1, 4, 0, 0, []), (59, 61, 0, 0, 0, 40, [])] _ _ _ _ [] 61 [(0, .inr 2), (1, .inl v1), (2, .inl v2), (3, .inl v3), (4, .inl v4), (5, .inl (s0 + s1)), (6, .inl ((μ 2 5) - v3))] [.inl (40 : Int32), .inl v4] μ (by decide +kernel) rfl rfl (zm_icmp (nx := 64) (a := 85) (b := 4) (k := 0) (sw := []) (zq_of (by decide +kernel)) (fun z1 => (zm_V_pick [0, 1, 2, 4, 5, 6] rfl (h0 (of_decide_eq_true z1)))) (fun z1 => (zm_run [(64, 66, 1, 5, 0, 0, []), (66, 68, 0, 0, 0, 6, [])] _ _ _ _ [] 68 [(0, .inr 2), (1, .inl v1), (2, .inl v2), (3, .inl v3), (4, .inl v4), (5, .inl (s0 + s1)), (6, .inl ((μ 2 5) - v3))] [.inl (6 : Int32), .inl (s0 + s1)] μ (by decide +kernel) rfl rfl (zm_icmp (nx := 71) (a := 85) (b := 4) (k := 0) (sw := []) (zq_of (by decide +kernel)) (fun z2 => (zm_V_pick [0, 1, 2, 4, 5, 6] rfl (h1 (of_decide_eq_false z1) (of_decide_eq_true z2)))) (fun z2 => (zm_run [(71, 72, 27, 0, 0, 0, []), (72, 75, 4, 4, 2, 0, []), (75, 78, 0, 0, 0, 480, [])] _ _ _ _ [] 78 [(0, .inr 2), (1, .inl v1), (2, .inl v2), (3, .inl v3), (4, .inl v4), (5, .inl (s0 + s1)), (6, .inl ((μ 2 5) - v3))] [.inl (480 : Int32), .inl (μ 2 4)] μ (by decide +kernel) rfl rfl (zm_icmp (nx := 81) (a := 85) (b := 3) (k := 0) (sw := []) (zq_of (by decide +kernel)) (fun z3 => (zm_V_pick [0, 1, 2, 4, 5, 6] rfl (h2 (of_decide_eq_false z1) (of_decide_eq_false z2) (of_decide_eq_true z3)))) (fun z3 => (zm_run [(81, 82, 0, 0, 0, 1, []), (82, 85, 19, 86, 0, 0, [])] _ _ _ _ [] 86 [(0, .inr 2), (1, .inl v1), (2, .inl v2), (3, .inl v3), (4, .inl v4), (5, .inl (s0 + s1)), (6, .inl ((μ 2 5) - v3))] [.inl (1 : Int32)] μ (by decide +kernel) rfl rfl (zm_V_pick [0, 1, 2, 4, 5, 6] rfl (h3 (of_decide_eq_false z1) (of_decide_eq_false z2) (of_decide_eq_false z3)))))))))))))

theorem k36_31 {X : zm_T} {d : Nat} {s0 s1 v1 v2 v3 v5 : Int32} {μ : zm_u} {P : Int32 → zm_u → Prop}
    (h0 : zV X d 36 12 [(0, .inr 2), (1, .inl v1), (2, .inl v2), (3, .inl v3), (4, .inl (s0 + s1)), (5, .inl (v5 + 1))] [] μ (zpi P)) :
    zV X d 36 31 [(0, .inr 2), (1, .inl v1), (2, .inl v2), (3, .inl v3), (5, .inl v5)] [.inl s1, .inl s0] μ (zpi P) :=
  (zm_run [(31, 32, 10, 0, 0, 0, []), (32, 34, 2, 4, 0, 0, []), (34, 37, 3, 5, 0, 1, []), (37, 40, 19, 12, 0, 0, [])] _ _ _ _ [] 12 [(0, .inr 2), (1, .inl v1), (2, .inl v2), (3, .inl v3), (4, .inl (s0 + s1)), (5, .inl (v5 + 1))] [] μ (by decide +kernel) rfl rfl (zm_V_pick [0, 1, 2, 3, 4, 5] rfl h0))

theorem k36_85 {X : zm_T} {d : Nat} {v1 v2 v4 v5 v6 : Int32} {μ : zm_u} {P : Int32 → zm_u → Prop}
    (h0 : zV X d 36 86 [(0, .inr 2), (1, .inl v1), (2, .inl v2), (4, .inl v4), (5, .inl v5), (6, .inl v6)] [.inl (0 : Int32)] μ (zpi P)) :
    zV X d 36 85 [(0, .inr 2), (1, .inl v1), (2, .inl v2), (4, .inl v4), (5, .inl v5), (6, .inl v6)] [] μ (zpi P) :=
  (zm_run [(85, 86, 0, 0, 0, 0, [])] _ _ _ _ [] 86 [(0, .inr 2), (1, .inl v1), (2, .inl v2), (4, .inl v4), (5, .inl v5), (6, .inl v6)] [.inl (0 : Int32)] μ (by decide +kernel) rfl rfl (zm_V_pick [0, 1, 2, 4, 5, 6] rfl h0))

set_option maxRecDepth 100000 in
theorem k36_86 {X : zm_T} {d : Nat} {s0 v1 v2 v4 v5 v6 : Int32} {μ : zm_u} {P : Int32 → zm_u → Prop}
    (h0 : v6 < 0 → P (-2 : Int32) μ)
    (h1 : ¬ (v6 < 0) → (12 : Int32) ≤ v6 → P (-2 : Int32) μ)
    (h2 : ¬ (v6 < 0) → ¬ ((12 : Int32) ≤ v6) → ¬ s0 = 0 → 0 ≤ ((μ 2 4)).toInt ∧ ((μ 2 4)).toInt < ((560 : Nat) : Int))
    (h3 : ¬ (v6 < 0) → ¬ ((12 : Int32) ≤ v6) → ¬ s0 = 0 → 0 ≤ ((μ 2 4)).toInt ∧ ((μ 2 4)).toInt < ((560 : Nat) : Int))
    (h4 : ¬ (v6 < 0) → ¬ ((12 : Int32) ≤ v6) → ¬ s0 = 0 → 0 ≤ ((μ 2 4)).toInt ∧ ((μ 2 4)).toInt < ((560 : Nat) : Int))
    (h5 : ¬ (v6 < 0) → ¬ ((12 : Int32) ≤ v6) → ¬ s0 = 0 → 0 ≤ (v6).toInt ∧ (v6).toInt < ((12 : Nat) : Int))
    (h6 : ¬ (v6 < 0) → ¬ ((12 : Int32) ≤ v6) → ¬ s0 = 0 → P v4 (zm_up (zm_up (zm_up (zm_up (zm_up (zm_up μ 9 ((μ 2 4)).toNatClampNeg v1) 10 ((μ 2 4)).toNatClampNeg v2) 11 ((μ 2 4)).toNatClampNeg v4) 12 (v6).toNatClampNeg v5) 2 4 ((μ 2 4) + (1 : Int32))) 2 5 (v6 + (1 : Int32))))
    (h7 : ¬ (v6 < 0) → ¬ ((12 : Int32) ≤ v6) → s0 = 0 → P (-2 : Int32) μ) :
    zV X d 36 86 [(0, .inr 2), (1, .inl v1), (2, .inl v2), (4, .inl v4), (5, .inl v5), (6, .inl v6)] [.inl s0] μ (zpi P) :=
  (zm_run [(86, 88, 2, 7, 0, 0, []), (88, 90, 1, 6, 0, 0, [])] _ _ _ _ [] 90 [(0, .inr 2), (1, .inl v1), (2, .inl v2), (4, .inl v4), (5, .inl v5), (6, .inl v6), (7, .inl s0)] [.inl v6] μ (by decide +kernel) rfl rfl (zm_if (nx := 93) (a := 105) (b := 2) (k := 0) (sw := []) (zq_of (by decide +kernel)) (fun z1 => (zm_run [(105, 107, 0, 0, 0, (-2), [])] _ _ _ _ [] 107 [(0, .inr 2), (1, .inl v1), (2, .inl v2), (4, .inl v4), (5, .inl v5), (6, .inl v6), (7, .inl s0)] [.inl (-2 : Int32)] μ (by decide +kernel) rfl rfl (zm_iret (nx := 108) (a := 0) (b := 0) (k := 0) (sw := []) (zq_of (by decide +kernel)) ⟨_, rfl, (h0 (of_decide_eq_true z1))⟩))) (fun z1 => (zm_run [(93, 95, 1, 6, 0, 0, []), (95, 97, 0, 0, 0, 12, [])] _ _ _ _ [] 97 [(0, .inr 2), (1, .inl v1), (2, .inl v2), (4, .inl v4), (5, .inl v5), (6, .inl v6), (7, .inl s0)] [.inl (12 : Int32), .inl v6] μ (by decide +kernel) rfl rfl (zm_icmp (nx := 100) (a := 105) (b := 3) (k := 0) (sw := []) (zq_of (by decide +kernel)) (fun z2 => (zm_run [(105, 107, 0, 0, 0, (-2), [])] _ _ _ _ [] 107 [(0, .inr 2), (1, .inl v1), (2, .inl v2), (4, .inl v4), (5, .inl v5), (6, .inl v6), (7, .inl s0)] [.inl (-2 : Int32)] μ (by decide +kernel) rfl rfl (zm_iret (nx := 108) (a := 0) (b := 0) (k := 0) (sw := []) (zq_of (by decide +kernel)) ⟨_, rfl, (h1 (of_decide_eq_false z1) (of_decide_eq_true z2))⟩))) (fun z2 => (zm_run [(100, 102, 1, 7, 0, 0, [])] _ _ _ _ [] 102 [(0, .inr 2), (1, .inl v1), (2, .inl v2), (4, .inl v4), (5, .inl v5), (6, .inl v6), (7, .inl s0)] [.inl s0] μ (by decide +kernel) rfl rfl (zm_if (nx := 105) (a := 108) (b := 1) (k := 0) (sw := []) (zq_of (by decide +kernel)) (fun z3 => (zm_run [(108, 109, 27, 0, 0, 0, []), (109, 112, 4, 0, 2, 0, []), (112, 113, 27, 0, 0, 0, []), (113, 116, 4, 4, 2, 0, []), (116, 117, 1, 1, 0, 0, []), (117, 118, 7, 0, 0, 0, []), (118, 119, 27, 0, 0, 0, []), (119, 122, 4, 1, 2, 0, []), (122, 123, 27, 0, 0, 0, []), (123, 126, 4, 4, 2, 0, []), (126, 127, 1, 2, 0, 0, []), (127, 128, 7, 0, 0, 0, []), (128, 129, 27, 0, 0, 0, []), (129, 132, 4, 2, 2, 0, []), (132, 133, 27, 0, 0, 0, []), (133, 136, 4, 4, 2, 0, []), (136, 138, 1, 4, 0, 0, []), (138, 139, 7, 0, 0, 0, []), (139, 140, 27, 0, 0, 0, []), (140, 143, 4, 3, 2, 0, []), (143, 145, 1, 6, 0, 0, []), (145, 147, 1, 5, 0, 0, []), (147, 148, 7, 0, 0, 0, []), (148, 149, 27, 0, 0, 0, []), (149, 150, 16, 0, 0, 0, []), (150, 153, 4, 4, 2, 0, []), (153, 154, 0, 0, 0, 1, []), (154, 155, 10, 0, 0, 0, []), (155, 158, 5, 4, 2, 0, []), (158, 159, 27, 0, 0, 0, []), (159, 161, 1, 6, 0, 0, []), (161, 162, 0, 0, 0, 1, []), (162, 163, 10, 0, 0, 0, []), (163, 166, 5, 5, 2, 0, []), (166, 168, 1, 4, 0, 0, [])] _ _ _ _ [decide (0 ≤ ((μ 2 4)).toInt ∧ ((μ 2 4)).toInt < ((560 : Nat) : Int)), decide (0 ≤ ((μ 2 4)).toInt ∧ ((μ 2 4)).toInt < ((560 : Nat) : Int)), decide (0 ≤ ((μ 2 4)).toInt ∧ ((μ 2 4)).toInt < ((560 : Nat) : Int)), decide (0 ≤ (v6).toInt ∧ (v6).toInt < ((12 : Nat) : Int))] 168 [(0, .inr 2), (1, .inl v1), (2, .inl v2), (4, .inl v4), (5, .inl v5), (6, .inl v6), (7, .inl s0)] [.inl v4] (zm_up (zm_up (zm_up (zm_up (zm_up (zm_up μ 9 ((μ 2 4)).toNatClampNeg v1) 10 ((μ 2 4)).toNatClampNeg v2) 11 ((μ 2 4)).toNatClampNeg v4) 12 (v6).toNatClampNeg v5) 2 4 ((μ 2 4) + (1 : Int32))) 2 5 (v6 + (1 : Int32))) (by decide +kernel) rfl (zm_bc (h2 (of_decide_eq_false z1) (of_decide_eq_false z2) (of_decide_eq_true z3)) (zm_bc (h3 (of_decide_eq_false z1) (of_decide_eq_false z2) (of_decide_eq_true z3)) (zm_bc (h4 (of_decide_eq_false z1) (of_decide_eq_false z2) (of_decide_eq_true z3)) (zm_bc (h5 (of_decide_eq_false z1) (of_decide_eq_false z2) (of_decide_eq_true z3)) rfl)))) (zm_iret (nx := 169) (a := 0) (b := 0) (k := 0) (sw := []) (zq_of (by decide +kernel)) ⟨_, rfl, (h6 (of_decide_eq_false z1) (of_decide_eq_false z2) (of_decide_eq_true z3))⟩))) (fun z3 => (zm_run [(105, 107, 0, 0, 0, (-2), [])] _ _ _ _ [] 107 [(0, .inr 2), (1, .inl v1), (2, .inl v2), (4, .inl v4), (5, .inl v5), (6, .inl v6), (7, .inl s0)] [.inl (-2 : Int32)] μ (by decide +kernel) rfl rfl (zm_iret (nx := 108) (a := 0) (b := 0) (k := 0) (sw := []) (zq_of (by decide +kernel)) ⟨_, rfl, (h7 (of_decide_eq_false z1) (of_decide_eq_false z2) (Classical.byContradiction fun w => (of_decide_eq_false z3) w))⟩)))))))))))

/-! Te.deepestOfLast (I)I : 37 -/
theorem k37_0 {X : zm_T} {d : Nat} {v1 : Int32} {μ : zm_u} {P : Int32 → zm_u → Prop}
    (h0 : zV X d 37 13 [(0, .inr 2), (2, .inl (0 : Int32)), (3, .inl (cond (decide ((0 : Int32) < ((μ 2 5) - v1))) ((μ 2 5) - v1) (0 : Int32)))] [] μ (zpi P)) :
    zV X d 37 0 [(0, .inr 2), (1, .inl v1)] [] μ (zpi P) :=
  (zm_run [(0, 1, 0, 0, 0, 0, []), (1, 2, 2, 2, 0, 0, []), (2, 3, 0, 0, 0, 0, []), (3, 4, 27, 0, 0, 0, []), (4, 7, 4, 5, 2, 0, []), (7, 8, 1, 1, 0, 0, []), (8, 9, 11, 0, 0, 0, []), (9, 12, 25, 0, 0, 0, []), (12, 13, 2, 3, 0, 0, [])] _ _ _ _ [true] 13 [(0, .inr 2), (1, .inl v1), (2, .inl (0 : Int32)), (3, .inl (cond (decide ((0 : Int32) < ((μ 2 5) - v1))) ((μ 2 5) - v1) (0 : Int32)))] [] μ (by decide +kernel) rfl (zm_bt rfl rfl) (zm_V_pick [0, 2, 3] rfl h0))

theorem k37_13 {X : zm_T} {d : Nat} {v2 v3 : Int32} {μ : zm_u} {P : Int32 → zm_u → Prop}
    (h0 : (μ 2 5) ≤ v3 → P v2 μ)
    (h1 : ¬ ((μ 2 5) ≤ v3) → 0 ≤ (v3).toInt ∧ (v3).toInt < ((12 : Nat) : Int))
    (h2 : ¬ ((μ 2 5) ≤ v3) → zV X d 37 13 [(0, .inr 2), (2, .inl (cond (decide (v2 < (μ 12 (v3).toNatClampNeg))) (μ 12 (v3).toNatClampNeg) v2)), (3, .inl (v3 + 1))] [] μ (zpi P)) :
    zV X d 37 13 [(0, .inr 2), (2, .inl v2), (3, .inl v3)] [] μ (zpi P) :=
  (zm_run [(13, 14, 1, 3, 0, 0, []), (14, 15, 27, 0, 0, 0, []), (15, 18, 4, 5, 2, 0, [])] _ _ _ _ [] 18 [(0, .inr 2), (2, .inl v2), (3, .inl v3)] [.inl (μ 2 5), .inl v3] μ (by decide +kernel) rfl rfl (zm_icmp (nx := 21) (a := 38) (b := 3) (k := 0) (sw := []) (zq_of (by decide +kernel)) (fun z1 => (zm_run [(38, 39, 1, 2, 0, 0, [])] _ _ _ _ [] 39 [(0, .inr 2), (2, .inl v2), (3, .inl v3)] [.inl v2] μ (by decide +kernel) rfl rfl (zm_iret (nx := 40) (a := 0) (b := 0) (k := 0) (sw := []) (zq_of (by decide +kernel)) ⟨_, rfl, (h0 (of_decide_eq_true z1))⟩))) (fun z1 => (zm_run [(21, 22, 1, 2, 0, 0, []), (22, 23, 27, 0, 0, 0, []), (23, 26, 4, 3, 2, 0, []), (26, 27, 1, 3, 0, 0, []), (27, 28, 6, 0, 0, 0, []), (28, 31, 25, 0, 0, 0, []), (31, 32, 2, 2, 0, 0, []), (32, 35, 3, 3, 0, 1, []), (35, 38, 19, 13, 0, 0, [])] _ _ _ _ [decide (0 ≤ (v3).toInt ∧ (v3).toInt < ((12 : Nat) : Int)), true] 13 [(0, .inr 2), (2, .inl (cond (decide (v2 < (μ 12 (v3).toNatClampNeg))) (μ 12 (v3).toNatClampNeg) v2)), (3, .inl (v3 + 1))] [] μ (by decide +kernel) rfl (zm_bc (h1 (of_decide_eq_false z1)) (zm_bt rfl rfl)) (zm_V_pick [0, 2, 3] rfl (h2 (of_decide_eq_false z1)))))))

/-! Te.dropLast ()V : 38 -/
theorem k38_0 {X : zm_T} {d : Nat} {μ : zm_u} {P : zm_u → Prop}
    (h0 : (μ 2 5) ≤ 0 → P μ)
    (h1 : ¬ ((μ 2 5) ≤ 0) → (μ 2 4) ≤ 0 → P μ)
    (h2 : ¬ ((μ 2 5) ≤ 0) → ¬ ((μ 2 4) ≤ 0) → ∃ G : Int32 → zm_u → Prop, zI X d 42 [.inr 2, .inl ((μ 2 4) - (1 : Int32))] μ G ∧ ∀ (r : Int32) (μ1 : zm_u), G r μ1 → zV X d 38 29 [(0, .inr 2)] [.inl r, .inl (μ 2 4), .inr 2] μ1 (zpo P)) :
    zV X d 38 0 [(0, .inr 2)] [] μ (zpo P) :=
  (zm_run [(0, 1, 27, 0, 0, 0, []), (1, 4, 4, 5, 2, 0, [])] _ _ _ _ [] 4 [(0, .inr 2)] [.inl (μ 2 5)] μ (by decide +kernel) rfl rfl (zm_if (nx := 7) (a := 43) (b := 5) (k := 0) (sw := []) (zq_of (by decide +kernel)) (fun z1 => (zm_vret (nx := 44) (a := 0) (b := 0) (k := 0) (sw := []) (zq_of (by decide +kernel)) ⟨rfl, (h0 (of_decide_eq_true z1))⟩)) (fun z1 => (zm_run [(7, 8, 27, 0, 0, 0, []), (8, 11, 4, 4, 2, 0, [])] _ _ _ _ [] 11 [(0, .inr 2)] [.inl (μ 2 4)] μ (by decide +kernel) rfl rfl (zm_if (nx := 14) (a := 43) (b := 5) (k := 0) (sw := []) (zq_of (by decide +kernel)) (fun z2 => (zm_vret (nx := 44) (a := 0) (b := 0) (k := 0) (sw := []) (zq_of (by decide +kernel)) ⟨rfl, (h1 (of_decide_eq_false z1) (of_decide_eq_true z2))⟩)) (fun z2 => (zm_run [(14, 15, 27, 0, 0, 0, []), (15, 16, 16, 0, 0, 0, []), (16, 19, 4, 4, 2, 0, []), (19, 20, 27, 0, 0, 0, []), (20, 21, 27, 0, 0, 0, []), (21, 24, 4, 4, 2, 0, []), (24, 25, 0, 0, 0, 1, []), (25, 26, 11, 0, 0, 0, [])] _ _ _ _ [] 26 [(0, .inr 2)] [.inl ((μ 2 4) - (1 : Int32)), .inr 2, .inl (μ 2 4), .inr 2] μ (by decide +kernel) rfl rfl (by obtain ⟨G, he, hk⟩ := (h2 (of_decide_eq_false z1) (of_decide_eq_false z2)); exact zm_callV (as := [.inr 2, .inl ((μ 2 4) - (1 : Int32))]) (rest := [.inl (μ 2 4), .inr 2]) (P := zpi G) (nx := 29) (a := 42) (b := 2) (k := 2) (sw := []) (zq_of (by decide +kernel)) rfl rfl rfl he (fun _ μ1 hp => by obtain ⟨v, rfl, hp⟩ := hp; exact (zm_V_pick [0] rfl (hk v μ1 hp)))))))))))

theorem k38_29 {X : zm_T} {d : Nat} {s1 s2 : Int32} {μ : zm_u} {P : zm_u → Prop}
    (h0 : P (zm_up (zm_up μ 2 4 (s1 - s2)) 2 5 ((μ 2 5) - (1 : Int32)))) :
    zV X d 38 29 [(0, .inr 2)] [.inl s2, .inl s1, .inr 2] μ (zpo P) :=
  (zm_run [(29, 30, 11, 0, 0, 0, []), (30, 33, 5, 4, 2, 0, []), (33, 34, 27, 0, 0, 0, []), (34, 35, 16, 0, 0, 0, []), (35, 38, 4, 5, 2, 0, []), (38, 39, 0, 0, 0, 1, []), (39, 40, 11, 0, 0, 0, []), (40, 43, 5, 5, 2, 0, [])] _ _ _ _ [] 43 [(0, .inr 2)] [] (zm_up (zm_up μ 2 4 (s1 - s2)) 2 5 ((μ 2 5) - (1 : Int32))) (by decide +kernel) rfl rfl (zm_vret (nx := 44) (a := 0) (b := 0) (k := 0) (sw := []) (zq_of (by decide +kernel)) ⟨rfl, h0⟩))

/-! Te.takeBody ()V : 39 -/
theorem k39_0 {X : zm_T} {d : Nat} {μ : zm_u} {P : zm_u → Prop}
    (h0 : ∃ G : Int32 → zm_u → Prop, zI X d 41 [.inr 2, .inl (480 : Int32)] μ G ∧ ∀ (r : Int32) (μ1 : zm_u), G r μ1 → zV X d 39 8 [] [.inl r, .inr 2] μ1 (zpo P)) :
    zV X d 39 0 [(0, .inr 2)] [] μ (zpo P) :=
  (zm_run [(0, 1, 27, 0, 0, 0, []), (1, 2, 27, 0, 0, 0, []), (2, 5, 0, 0, 0, 480, [])] _ _ _ _ [] 5 [(0, .inr 2)] [.inl (480 : Int32), .inr 2, .inr 2] μ (by decide +kernel) rfl rfl (by obtain ⟨G, he, hk⟩ := h0; exact zm_callV (as := [.inr 2, .inl (480 : Int32)]) (rest := [.inr 2]) (P := zpi G) (nx := 8) (a := 41) (b := 2) (k := 2) (sw := []) (zq_of (by decide +kernel)) rfl rfl rfl he (fun _ μ1 hp => by obtain ⟨v, rfl, hp⟩ := hp; exact (zm_V_pick [] rfl (hk v μ1 hp)))))

theorem k39_8 {X : zm_T} {d : Nat} {s1 : Int32} {μ : zm_u} {P : zm_u → Prop}
    (h0 : P (zm_up μ 2 6 s1)) :
    zV X d 39 8 [] [.inl s1, .inr 2] μ (zpo P) :=
  (zm_run [(8, 11, 5, 6, 2, 0, [])] _ _ _ _ [] 11 [] [] (zm_up μ 2 6 s1) (by decide +kernel) rfl rfl (zm_vret (nx := 12) (a := 0) (b := 0) (k := 0) (sw := []) (zq_of (by decide +kernel)) ⟨rfl, h0⟩))

/-! Te.takeMain ()V : 40 -/
theorem k40_0 {X : zm_T} {d : Nat} {μ : zm_u} {P : zm_u → Prop}
    (h0 : ∃ G : Int32 → zm_u → Prop, zI X d 41 [.inr 2, .inl (520 : Int32)] μ G ∧ ∀ (r : Int32) (μ1 : zm_u), G r μ1 → zV X d 40 8 [] [.inl r, .inr 2] μ1 (zpo P)) :
    zV X d 40 0 [(0, .inr 2)] [] μ (zpo P) :=
  (zm_run [(0, 1, 27, 0, 0, 0, []), (1, 2, 27, 0, 0, 0, []), (2, 5, 0, 0, 0, 520, [])] _ _ _ _ [] 5 [(0, .inr 2)] [.inl (520 : Int32), .inr 2, .inr 2] μ (by decide +kernel) rfl rfl (by obtain ⟨G, he, hk⟩ := h0; exact zm_callV (as := [.inr 2, .inl (520 : Int32)]) (rest := [.inr 2]) (P := zpi G) (nx := 8) (a := 41) (b := 2) (k := 2) (sw := []) (zq_of (by decide +kernel)) rfl rfl rfl he (fun _ μ1 hp => by obtain ⟨v, rfl, hp⟩ := hp; exact (zm_V_pick [] rfl (hk v μ1 hp)))))

theorem k40_8 {X : zm_T} {d : Nat} {s1 : Int32} {μ : zm_u} {P : zm_u → Prop}
    (h0 : P (zm_up μ 2 7 s1)) :
    zV X d 40 8 [] [.inl s1, .inr 2] μ (zpo P) :=
  (zm_run [(8, 11, 5, 7, 2, 0, [])] _ _ _ _ [] 11 [] [] (zm_up μ 2 7 s1) (by decide +kernel) rfl rfl (zm_vret (nx := 12) (a := 0) (b := 0) (k := 0) (sw := []) (zq_of (by decide +kernel)) ⟨rfl, h0⟩))

/-! Te.moveLast (I)I : 41 -/
theorem k41_0 {X : zm_T} {d : Nat} {v1 : Int32} {μ : zm_u} {P : Int32 → zm_u → Prop}
    (h0 : ∃ G : Int32 → zm_u → Prop, zI X d 42 [.inr 2, .inl ((μ 2 4) - (1 : Int32))] μ G ∧ ∀ (r : Int32) (μ1 : zm_u), G r μ1 → zV X d 41 10 [(0, .inr 2), (1, .inl v1)] [.inl r] μ1 (zpi P)) :
    zV X d 41 0 [(0, .inr 2), (1, .inl v1)] [] μ (zpi P) :=
  (zm_run [(0, 1, 27, 0, 0, 0, []), (1, 2, 27, 0, 0, 0, []), (2, 5, 4, 4, 2, 0, []), (5, 6, 0, 0, 0, 1, []), (6, 7, 11, 0, 0, 0, [])] _ _ _ _ [] 7 [(0, .inr 2), (1, .inl v1)] [.inl ((μ 2 4) - (1 : Int32)), .inr 2] μ (by decide +kernel) rfl rfl (by obtain ⟨G, he, hk⟩ := h0; exact zm_callV (as := [.inr 2, .inl ((μ 2 4) - (1 : Int32))]) (rest := []) (P := zpi G) (nx := 10) (a := 42) (b := 2) (k := 2) (sw := []) (zq_of (by decide +kernel)) rfl rfl rfl he (fun _ μ1 hp => by obtain ⟨v, rfl, hp⟩ := hp; exact (zm_V_pick [0, 1] rfl (hk v μ1 hp)))))

theorem k41_10 {X : zm_T} {d : Nat} {s0 v1 : Int32} {μ : zm_u} {P : Int32 → zm_u → Prop}
    (h0 : 0 ≤ (s0).toInt ∧ 0 ≤ (v1).toInt ∧ 0 ≤ (((μ 2 4) - s0)).toInt ∧ (((μ 2 4) - s0)).toInt + (s0).toInt ≤ ((560 : Nat) : Int) ∧ (v1).toInt + (s0).toInt ≤ ((560 : Nat) : Int))
    (h1 : 0 ≤ (s0).toInt ∧ 0 ≤ (v1).toInt ∧ 0 ≤ (((μ 2 4) - s0)).toInt ∧ (((μ 2 4) - s0)).toInt + (s0).toInt ≤ ((560 : Nat) : Int) ∧ (v1).toInt + (s0).toInt ≤ ((560 : Nat) : Int))
    (h2 : 0 ≤ (s0).toInt ∧ 0 ≤ (v1).toInt ∧ 0 ≤ (((μ 2 4) - s0)).toInt ∧ (((μ 2 4) - s0)).toInt + (s0).toInt ≤ ((560 : Nat) : Int) ∧ (v1).toInt + (s0).toInt ≤ ((560 : Nat) : Int))
    (h3 : ∃ G : zm_u → Prop, zO X d 38 [.inr 2] (zm_cp (zm_cp (zm_cp μ 9 9 ((μ 2 4) - s0) v1 s0) 10 10 ((μ 2 4) - s0) v1 s0) 11 11 ((μ 2 4) - s0) v1 s0) G ∧ ∀ μ1 : zm_u, G μ1 → zV X d 41 64 [(1, .inl v1), (2, .inl s0)] [] μ1 (zpi P)) :
    zV X d 41 10 [(0, .inr 2), (1, .inl v1)] [.inl s0] μ (zpi P) :=
  (zm_run [(10, 11, 2, 2, 0, 0, []), (11, 12, 27, 0, 0, 0, []), (12, 15, 4, 4, 2, 0, []), (15, 16, 1, 2, 0, 0, []), (16, 17, 11, 0, 0, 0, []), (17, 18, 2, 3, 0, 0, []), (18, 19, 27, 0, 0, 0, []), (19, 22, 4, 0, 2, 0, []), (22, 23, 1, 3, 0, 0, []), (23, 24, 27, 0, 0, 0, []), (24, 27, 4, 0, 2, 0, []), (27, 28, 1, 1, 0, 0, []), (28, 29, 1, 2, 0, 0, []), (29, 32, 26, 0, 0, 0, []), (32, 33, 27, 0, 0, 0, []), (33, 36, 4, 1, 2, 0, []), (36, 37, 1, 3, 0, 0, []), (37, 38, 27, 0, 0, 0, []), (38, 41, 4, 1, 2, 0, []), (41, 42, 1, 1, 0, 0, []), (42, 43, 1, 2, 0, 0, []), (43, 46, 26, 0, 0, 0, []), (46, 47, 27, 0, 0, 0, []), (47, 50, 4, 2, 2, 0, []), (50, 51, 1, 3, 0, 0, []), (51, 52, 27, 0, 0, 0, []), (52, 55, 4, 2, 2, 0, []), (55, 56, 1, 1, 0, 0, []), (56, 57, 1, 2, 0, 0, []), (57, 60, 26, 0, 0, 0, []), (60, 61, 27, 0, 0, 0, [])] _ _ _ _ [true, decide (0 ≤ (s0).toInt ∧ 0 ≤ (v1).toInt ∧ 0 ≤ (((μ 2 4) - s0)).toInt ∧ (((μ 2 4) - s0)).toInt + (s0).toInt ≤ ((560 : Nat) : Int) ∧ (v1).toInt + (s0).toInt ≤ ((560 : Nat) : Int)), true, decide (0 ≤ (s0).toInt ∧ 0 ≤ (v1).toInt ∧ 0 ≤ (((μ 2 4) - s0)).toInt ∧ (((μ 2 4) - s0)).toInt + (s0).toInt ≤ ((560 : Nat) : Int) ∧ (v1).toInt + (s0).toInt ≤ ((560 : Nat) : Int)), true, decide (0 ≤ (s0).toInt ∧ 0 ≤ (v1).toInt ∧ 0 ≤ (((μ 2 4) - s0)).toInt ∧ (((μ 2 4) - s0)).toInt + (s0).toInt ≤ ((560 : Nat) : Int) ∧ (v1).toInt + (s0).toInt ≤ ((560 : Nat) : Int))] 61 [(0, .inr 2), (1, .inl v1), (2, .inl s0), (3, .inl ((μ 2 4) - s0))] [.inr 2] (zm_cp (zm_cp (zm_cp μ 9 9 ((μ 2 4) - s0) v1 s0) 10 10 ((μ 2 4) - s0) v1 s0) 11 11 ((μ 2 4) - s0) v1 s0) (by decide +kernel) rfl (zm_bt rfl (zm_bc h0 (zm_bt rfl (zm_bc h1 (zm_bt rfl (zm_bc h2 rfl)))))) (by obtain ⟨G, he, hk⟩ := h3; exact zm_callV (as := [.inr 2]) (rest := []) (P := zpo G) (nx := 64) (a := 38) (b := 1) (k := 2) (sw := []) (zq_of (by decide +kernel)) rfl rfl rfl he (fun _ μ1 hp => by obtain ⟨rfl, hp⟩ := hp; exact (zm_V_pick [1, 2] rfl (hk μ1 hp)))))

theorem k41_64 {X : zm_T} {d : Nat} {v1 v2 : Int32} {μ : zm_u} {P : Int32 → zm_u → Prop}
    (h0 : P ((v1 + v2) - (1 : Int32)) μ) :
    zV X d 41 64 [(1, .inl v1), (2, .inl v2)] [] μ (zpi P) :=
  (zm_run [(64, 65, 1, 1, 0, 0, []), (65, 66, 1, 2, 0, 0, []), (66, 67, 10, 0, 0, 0, []), (67, 68, 0, 0, 0, 1, []), (68, 69, 11, 0, 0, 0, [])] _ _ _ _ [] 69 [(1, .inl v1), (2, .inl v2)] [.inl ((v1 + v2) - (1 : Int32))] μ (by decide +kernel) rfl rfl (zm_iret (nx := 70) (a := 0) (b := 0) (k := 0) (sw := []) (zq_of (by decide +kernel)) ⟨_, rfl, h0⟩))

/-! Te.sizeOf (I)I : 42 -/
theorem k42_0 {X : zm_T} {d : Nat} {v1 : Int32} {μ : zm_u} {P : Int32 → zm_u → Prop}
    (h0 : ∃ G : Int32 → zm_u → Prop, zI X d 43 [.inl v1] μ G ∧ ∀ (r : Int32) (μ1 : zm_u), G r μ1 → zV X d 42 4 [(0, .inr 2), (1, .inl v1)] [.inl r] μ1 (zpi P)) :
    zV X d 42 0 [(0, .inr 2), (1, .inl v1)] [] μ (zpi P) :=
  (zm_run [(0, 1, 1, 1, 0, 0, [])] _ _ _ _ [] 1 [(0, .inr 2), (1, .inl v1)] [.inl v1] μ (by decide +kernel) rfl rfl (by obtain ⟨G, he, hk⟩ := h0; exact zm_callS (as := [.inl v1]) (rest := []) (P := zpi G) (nx := 4) (a := 43) (b := 1) (k := 0) (sw := []) (zq_of (by decide +kernel)) rfl rfl rfl he (fun _ μ1 hp => by obtain ⟨v, rfl, hp⟩ := hp; exact (zm_V_pick [0, 1] rfl (hk v μ1 hp)))))

theorem k42_4 {X : zm_T} {d : Nat} {s0 v1 : Int32} {μ : zm_u} {P : Int32 → zm_u → Prop}
    (h0 : s0 = 0 → P (0 : Int32) μ)
    (h1 : ¬ (s0 = 0) → 0 ≤ (v1).toInt ∧ (v1).toInt < ((560 : Nat) : Int))
    (h2 : ¬ (s0 = 0) → P (μ 11 (v1).toNatClampNeg) μ) :
    zV X d 42 4 [(0, .inr 2), (1, .inl v1)] [.inl s0] μ (zpi P) :=
  (zm_if (nx := 7) (a := 16) (b := 0) (k := 0) (sw := []) (zq_of (by decide +kernel)) (fun z1 => (zm_run [(16, 17, 0, 0, 0, 0, [])] _ _ _ _ [] 17 [(0, .inr 2), (1, .inl v1)] [.inl (0 : Int32)] μ (by decide +kernel) rfl rfl (zm_iret (nx := 18) (a := 0) (b := 0) (k := 0) (sw := []) (zq_of (by decide +kernel)) ⟨_, rfl, (h0 (of_decide_eq_true z1))⟩))) (fun z1 => (zm_run [(7, 8, 27, 0, 0, 0, []), (8, 11, 4, 2, 2, 0, []), (11, 12, 1, 1, 0, 0, []), (12, 13, 6, 0, 0, 0, []), (13, 16, 19, 17, 0, 0, [])] _ _ _ _ [decide (0 ≤ (v1).toInt ∧ (v1).toInt < ((560 : Nat) : Int))] 17 [(0, .inr 2), (1, .inl v1)] [.inl (μ 11 (v1).toNatClampNeg)] μ (by decide +kernel) rfl (zm_bc (h1 (of_decide_eq_false z1)) rfl) (zm_iret (nx := 18) (a := 0) (b := 0) (k := 0) (sw := []) (zq_of (by decide +kernel)) ⟨_, rfl, (h2 (of_decide_eq_false z1))⟩))))

/-! Te.isPlace (I)Z : 43 -/
theorem k43_0 {X : zm_T} {d : Nat} {v0 : Int32} {μ : zm_u} {P : Int32 → zm_u → Prop}
    (h0 : v0 < 0 → P (0 : Int32) μ)
    (h1 : ¬ (v0 < 0) → (560 : Int32) ≤ v0 → P (0 : Int32) μ)
    (h2 : ¬ (v0 < 0) → ¬ ((560 : Int32) ≤ v0) → P (1 : Int32) μ) :
    zV X d 43 0 [(0, .inl v0)] [] μ (zpi P) :=
  (zm_run [(0, 1, 1, 0, 0, 0, [])] _ _ _ _ [] 1 [(0, .inl v0)] [.inl v0] μ (by decide +kernel) rfl rfl (zm_if (nx := 4) (a := 15) (b := 2) (k := 0) (sw := []) (zq_of (by decide +kernel)) (fun z1 => (zm_run [(15, 16, 0, 0, 0, 0, [])] _ _ _ _ [] 16 [(0, .inl v0)] [.inl (0 : Int32)] μ (by decide +kernel) rfl rfl (zm_zret (nx := 17) (a := 0) (b := 0) (k := 0) (sw := []) (zq_of (by decide +kernel)) (Or.inl rfl) ⟨_, rfl, (h0 (of_decide_eq_true z1))⟩))) (fun z1 => (zm_run [(4, 5, 1, 0, 0, 0, []), (5, 8, 0, 0, 0, 560, [])] _ _ _ _ [] 8 [(0, .inl v0)] [.inl (560 : Int32), .inl v0] μ (by decide +kernel) rfl rfl (zm_icmp (nx := 11) (a := 15) (b := 3) (k := 0) (sw := []) (zq_of (by decide +kernel)) (fun z2 => (zm_run [(15, 16, 0, 0, 0, 0, [])] _ _ _ _ [] 16 [(0, .inl v0)] [.inl (0 : Int32)] μ (by decide +kernel) rfl rfl (zm_zret (nx := 17) (a := 0) (b := 0) (k := 0) (sw := []) (zq_of (by decide +kernel)) (Or.inl rfl) ⟨_, rfl, (h1 (of_decide_eq_false z1) (of_decide_eq_true z2))⟩))) (fun z2 => (zm_run [(11, 12, 0, 0, 0, 1, []), (12, 15, 19, 16, 0, 0, [])] _ _ _ _ [] 16 [(0, .inl v0)] [.inl (1 : Int32)] μ (by decide +kernel) rfl rfl (zm_zret (nx := 17) (a := 0) (b := 0) (k := 0) (sw := []) (zq_of (by decide +kernel)) (Or.inr rfl) ⟨_, rfl, (h2 (of_decide_eq_false z1) (of_decide_eq_false z2))⟩))))))))
end

section
/-! the small machine: memory is a function of cell and slot; values are ints and cell numbers -/
abbrev zm_v : Type := Int32 ⊕ Nat
abbrev zm_u : Type := Nat → Nat → Int32
abbrev zm_L : Type := List (Nat × zm_v)
abbrev zm_S : Type := Nat × zm_L × List zm_v × zm_u
abbrev zm_q : Type := Nat × Nat × Nat × Nat × Nat × Int32 × List (Int32 × Nat)
abbrev zm_h : Type := (Nat × Bool) ⊕ (Nat × List (Option Nat))
abbrev zm_T : Type := Nat × (Nat → Int32)
def zm_up (μ : zm_u) (c i : Nat) (v : Int32) : zm_u := fun c' i' => cond (Nat.beq c' c) (cond (Nat.beq i' i) v (μ c' i')) (μ c' i')
def zm_set (l : zm_L) (i : Nat) (v : zm_v) : zm_L := match l with
  | [] => [(i, v)]
  | (j, w) :: r => cond (Nat.beq i j) ((i, v) :: r) (cond (Nat.ble i j) ((i, v) :: (j, w) :: r) ((j, w) :: zm_set r i v))
def zm_get (l : zm_L) (i : Nat) : Option zm_v := match l with
  | [] => none
  | (j, w) :: r => cond (Nat.beq j i) (some w) (zm_get r i)
def zm_at (tb : List zm_q) (pc : Nat) : Option zm_q := match tb with
  | [] => none
  | q :: r => cond (Nat.beq q.1 pc) (some q) (zm_at r pc)
def zm_pt : Nat → Int32 := fun i => ([0, 0, 0, 2, 2, 3, 2, 1, 1, 1, 1, 1, 1, 2, 3, 2, 1, 1] : List Int32).getD i 0
def zm_cp (μ : zm_u) (f t : Nat) (sp dp n : Int32) : zm_u := fun c i => cond (Nat.beq c t) (if dp.toNatClampNeg ≤ i ∧ i < dp.toNatClampNeg + n.toNatClampNeg then μ f (sp.toNatClampNeg + (i - dp.toNatClampNeg)) else μ c i) (μ c i)
/-- one simple instruction: what must hold for it, and the state behind it -/
def zm_s1 (sh : List zm_h) (X : zm_T) (q : zm_q) (l : zm_L) (st : List zm_v) (μ : zm_u) : Option (List Bool × zm_S) :=
  match q with
  | (_, nx, op, a, b, k, _) =>
  match op with
  | 0 => some ([], nx, l, .inl k :: st, μ)
  | 1 => match zm_get l a with
    | some (.inl v) => some ([], nx, l, .inl v :: st, μ)
    | _ => none
  | 2 => match st with
    | .inl v :: r => some ([], nx, zm_set l a (.inl v), r, μ)
    | _ => none
  | 3 => match zm_get l a with
    | some (.inl x) => some ([], nx, zm_set l a (.inl (x + k)), st, μ)
    | _ => none
  | 4 => match st with
    | .inr j :: r => match sh[j]? with
      | some (.inr (ci, fs)) => match Nat.beq ci b with
        | true => match fs[a]? with
          | some none => some ([], nx, l, .inl (μ j a) :: r, μ)
          | some (some t) => some ([], nx, l, .inr t :: r, μ)
          | none => none
        | false => none
      | _ => none
    | _ => none
  | 5 => match st with
    | .inl x :: .inr j :: r => match sh[j]? with
      | some (.inr (ci, fs)) => match Nat.beq ci b with
        | true => match fs[a]? with
          | some none => some ([], nx, l, r, zm_up μ j a x)
          | _ => none
        | false => none
      | _ => none
    | _ => none
  | 6 => match st with
    | .inl i :: .inr j :: r => match sh[j]? with
      | some (.inl (n, false)) => some ([decide (0 ≤ i.toInt ∧ i.toInt < (n : Int))], nx, l, .inl (μ j i.toNatClampNeg) :: r, μ)
      | _ => none
    | _ => none
  | 7 => match st with
    | .inl x :: .inl i :: .inr j :: r => match sh[j]? with
      | some (.inl (n, false)) => some ([decide (0 ≤ i.toInt ∧ i.toInt < (n : Int))], nx, l, r, zm_up μ j i.toNatClampNeg x)
      | _ => none
    | _ => none
  | 8 => match st with
    | .inl i :: .inr j :: r => match sh[j]? with
      | some (.inl (n, true)) => some ([decide (0 ≤ i.toInt ∧ i.toInt < (n : Int))], nx, l, .inl (μ j i.toNatClampNeg) :: r, μ)
      | _ => none
    | _ => none
  | 9 => match st with
    | .inl x :: .inl i :: .inr j :: r => match sh[j]? with
      | some (.inl (n, true)) => some ([decide (0 ≤ i.toInt ∧ i.toInt < (n : Int)), decide (x = 0 ∨ x = 1)], nx, l, r, zm_up μ j i.toNatClampNeg x)
      | _ => none
    | _ => none
  | 10 => match st with
    | .inl y :: .inl x :: r => some ([], nx, l, .inl (x + y) :: r, μ)
    | _ => none
  | 11 => match st with
    | .inl y :: .inl x :: r => some ([], nx, l, .inl (x - y) :: r, μ)
    | _ => none
  | 12 => match st with
    | .inl y :: .inl x :: r => some ([], nx, l, .inl (x * y) :: r, μ)
    | _ => none
  | 13 => match st with
    | .inl y :: .inl x :: r => some ([], nx, l, .inl (x &&& y) :: r, μ)
    | _ => none
  | 14 => match st with
    | .inl y :: .inl x :: r => some ([], nx, l, .inl (x <<< (y &&& 31)) :: r, μ)
    | _ => none
  | 15 => match st with
    | .inl y :: .inl x :: r => some ([], nx, l, .inl (x >>> (y &&& 31)) :: r, μ)
    | _ => none
  | 16 => match st with
    | v :: r => some ([], nx, l, v :: v :: r, μ)
    | _ => none
  | 17 => match st with
    | v :: w :: r => some ([], nx, l, v :: w :: v :: w :: r, μ)
    | _ => none
  | 18 => match st with
    | _ :: r => some ([], nx, l, r, μ)
    | _ => none
  | 19 => some ([], a, l, st, μ)
  | 20 => match st with
    | .inl i :: .inr 100 :: r => some ([decide (0 ≤ i.toInt ∧ i.toInt < 18)], nx, l, .inl (zm_pt i.toNatClampNeg) :: r, μ)
    | .inl i :: .inr 101 :: r => some ([decide (0 ≤ i.toInt ∧ i.toInt < (X.1 : Int))], nx, l, .inl (X.2 i.toNatClampNeg) :: r, μ)
    | _ => none
  | 21 => some ([], nx, l, .inr 100 :: st, μ)
  | 22 => match st with
    | .inr 101 :: r => some ([], nx, l, .inl (Int32.ofNat X.1) :: r, μ)
    | _ => none
  | 23 => match st with
    | .inl y :: .inl x :: r => some ([], nx, l, .inl (x.toUInt32 >>> (y.toUInt32 &&& Int32.toUInt32 31)).toInt32 :: r, μ)
    | _ => none
  | 24 => match st with
    | .inl x :: .inr j :: r => match sh[j]? with
      | some (.inr (ci, fs)) => match Nat.beq ci b with
        | true => match fs[a]? with
          | some none => some ([decide (x = 0 ∨ x = 1)], nx, l, r, zm_up μ j a x)
          | _ => none
        | false => none
      | _ => none
    | _ => none
  | 25 => match st with
    | .inl y :: .inl x :: r => some ([Nat.ble r.length 8], nx, l, .inl (cond (decide (x < y)) y x) :: r, μ)
    | _ => none
  | 26 => match st with
    | .inl n :: .inl dp :: .inr t :: .inl sp :: .inr f :: r => match sh[f]?, sh[t]? with
      | some (.inl (n0, false)), some (.inl (n1, false)) => some ([Nat.ble r.length 8, decide (0 ≤ n.toInt ∧ 0 ≤ dp.toInt ∧ 0 ≤ sp.toInt ∧ sp.toInt + n.toInt ≤ (n0 : Int) ∧ dp.toInt + n.toInt ≤ (n1 : Int))], nx, l, r, zm_cp μ f t sp dp n)
      | _, _ => none
    | _ => none
  | 27 => match zm_get l a with
    | some (.inr v) => some ([], nx, l, .inr v :: st, μ)
    | _ => none
  | 28 => some ([], nx, l, .inl k :: st, μ)
  | _ => none
def zm_c (b : Nat) (x y : Int32) : Bool := match b with
  | 0 => decide (x = y)
  | 1 => decide (¬ x = y)
  | 2 => decide (x < y)
  | 3 => decide (y ≤ x)
  | 4 => decide (y < x)
  | _ => decide (x ≤ y)
def zm_sw (sw : List (Int32 × Nat)) (d : Nat) (x : Int32) : Nat := match sw with
  | [] => d
  | (k, t) :: r => cond (decide (x = k)) t (zm_sw r d x)
/-- is it an object of that kind -/
def zm_is (sh : List zm_h) (ci : Nat) (as : List zm_v) : Bool := match as with
  | .inr j :: _ => match sh[j]? with
    | some (.inr (c, _)) => Nat.beq c ci
    | _ => false
  | _ => false
def zm_s2 (sh : List zm_h) (call : Nat → List zm_v → zm_u → Option (Option zm_v × zm_u)) (q : zm_q) (l : zm_L) (st : List zm_v) (μ : zm_u) : Option (zm_S ⊕ (Option zm_v × zm_u)) :=
  match q with
  | (_, nx, op, a, b, k, sw) => match op with
    | 30 => match st with
      | .inl x :: r => some (.inl (cond (zm_c b x 0) a nx, l, r, μ))
      | _ => none
    | 31 => match st with
      | .inl y :: .inl x :: r => some (.inl (cond (zm_c b x y) a nx, l, r, μ))
      | _ => none
    | 32 => match st with
      | .inl x :: r => some (.inl (zm_sw sw a x, l, r, μ))
      | _ => none
    | 33 => match st with
      | [.inl v] => some (.inr (some (.inl v), μ))
      | _ => none
    | 34 => match st with
      | [] => some (.inr (none, μ))
      | _ => none
    | 35 => cond (Nat.ble b st.length && Nat.ble (st.drop b).length 8) (match call a (st.take b).reverse μ with
      | some (r, μ') => some (.inl (nx, l, r.toList ++ st.drop b, μ'))
      | none => none) none
    | 36 => cond (Nat.ble b st.length && Nat.ble (st.drop b).length 8 && zm_is sh k.toNatClampNeg (st.take b).reverse) (match call a (st.take b).reverse μ with
      | some (r, μ') => some (.inl (nx, l, r.toList ++ st.drop b, μ'))
      | none => none) none
    | 37 => match st with
      | [.inl v] => cond (decide (v = 0 ∨ v = 1)) (some (.inr (some (.inl v), μ))) none
      | _ => none
    | _ => none
def zm_st (sh : List zm_h) (X : zm_T) (call : Nat → List zm_v → zm_u → Option (Option zm_v × zm_u)) (q : zm_q) (l : zm_L) (st : List zm_v) (μ : zm_u) : Option (zm_S ⊕ (Option zm_v × zm_u)) :=
  match zm_s1 sh X q l st μ with
  | some (bs, s) => cond (bs.all id) (some (.inl s)) none
  | none => zm_s2 sh call q l st μ
def zm_loop (sh : List zm_h) (X : zm_T) (call : Nat → List zm_v → zm_u → Option (Option zm_v × zm_u)) (tb : List zm_q) : Nat → Nat → zm_L → List zm_v → zm_u → Option (Option zm_v × zm_u)
  | 0, _, _, _, _ => none
  | f + 1, pc, l, st, μ => match zm_at tb pc with
    | none => none
    | some q => match zm_st sh X call q l st μ with
      | some (.inl (pc', l', st', μ')) => zm_loop sh X call tb f pc' l' st' μ'
      | some (.inr x) => some x
      | none => none
def zm_args (i : Nat) (as : List zm_v) : zm_L := match as with
  | [] => []
  | v :: r => (i, v) :: zm_args (i + 1) r
def zm_ev (sh : List zm_h) (cd : Nat → List zm_q) (X : zm_T) (F : Nat) : Nat → Nat → List zm_v → zm_u → Option (Option zm_v × zm_u)
  | 0, _, _, _ => none
  | d + 1, n, as, μ => zm_loop sh X (zm_ev sh cd X F d) (cd n) F 0 (zm_args 0 as) [] μ
section ZM
variable {sh : List zm_h} {X : zm_T} {cd : Nat → List zm_q}
theorem zm_st_mono {call call' : Nat → List zm_v → zm_u → Option (Option zm_v × zm_u)} (hc : ∀ n as μ x, call n as μ = some x → call' n as μ = some x) {q : zm_q} {l : zm_L} {st : List zm_v} {μ : zm_u} {x : zm_S ⊕ (Option zm_v × zm_u)} (h : zm_st sh X call q l st μ = some x) : zm_st sh X call' q l st μ = some x := by
  unfold zm_st at h ⊢
  split at h
  · exact h
  · obtain ⟨pc, nx, op, a, b, k, sw⟩ := q
    unfold zm_s2 at h ⊢
    simp only at h ⊢
    split at h
    · exact h
    · exact h
    · exact h
    · exact h
    · exact h
    · cases hb : (Nat.ble b st.length && Nat.ble (st.drop b).length 8) with
      | false => rw [hb] at h; cases h
      | true =>
        rw [hb] at h
        simp only [cond_true] at h ⊢
        cases hq : call a (st.take b).reverse μ with
        | none => rw [hq] at h; cases h
        | some y => rw [hq] at h; rw [hc _ _ _ _ hq]; exact h
    · cases hb : (Nat.ble b st.length && Nat.ble (st.drop b).length 8 && zm_is sh k.toNatClampNeg (st.take b).reverse) with
      | false => rw [hb] at h; cases h
      | true =>
        rw [hb] at h
        simp only [cond_true] at h ⊢
        cases hq : call a (st.take b).reverse μ with
        | none => rw [hq] at h; cases h
        | some y => rw [hq] at h; rw [hc _ _ _ _ hq]; exact h
    · exact h
    · cases h
theorem zm_loop_mono {call call' : Nat → List zm_v → zm_u → Option (Option zm_v × zm_u)} (hc : ∀ n as μ x, call n as μ = some x → call' n as μ = some x) {tb : List zm_q} : ∀ (f f' : Nat) (pc : Nat) (l : zm_L) (st : List zm_v) (μ : zm_u) (x : Option zm_v × zm_u), f ≤ f' → zm_loop sh X call tb f pc l st μ = some x → zm_loop sh X call' tb f' pc l st μ = some x := by
  intro f
  induction f with
  | zero => intro f' pc l st μ x _ h; cases h
  | succ f ih =>
    intro f' pc l st μ x hf h
    obtain ⟨g, rfl⟩ : ∃ g, f' = g + 1 := ⟨f' - 1, by omega⟩
    unfold zm_loop at h ⊢
    cases hq : zm_at tb pc with
    | none => rw [hq] at h; cases h
    | some q =>
      rw [hq] at h
      simp only at h ⊢
      cases hs : zm_st sh X call q l st μ with
      | none => rw [hs] at h; cases h
      | some y =>
        rw [hs] at h
        rw [zm_st_mono hc hs]
        cases y with
        | inl s =>
          obtain ⟨pc', l', st', μ'⟩ := s
          exact ih g pc' l' st' μ' x (by omega) h
        | inr y => exact h
theorem zm_ev_mono {F F' : Nat} (hF : F ≤ F') : ∀ (d d' : Nat), d ≤ d' → ∀ n as μ x, zm_ev sh cd X F d n as μ = some x → zm_ev sh cd X F' d' n as μ = some x := by
  intro d
  induction d with
  | zero => intro d' _ n as μ x h; cases h
  | succ d ih =>
    intro d' hd n as μ x h
    obtain ⟨g, rfl⟩ : ∃ g, d' = g + 1 := ⟨d' - 1, by omega⟩
    unfold zm_ev at h ⊢
    exact zm_loop_mono (fun n as μ x h => ih g (by omega) n as μ x h) F F' _ _ _ _ _ hF h
/-- from this place on the method comes to an end that is as said -/
def zm_V (sh : List zm_h) (cd : Nat → List zm_q) (X : zm_T) (d n pc : Nat) (l : zm_L) (st : List zm_v) (μ : zm_u) (post : Option zm_v → zm_u → Prop) : Prop :=
  ∃ (F : Nat) (r : Option zm_v) (μ' : zm_u), zm_loop sh X (zm_ev sh cd X F d) (cd n) F pc l st μ = some (r, μ') ∧ post r μ'
/-- a call of the method n comes to an end that is as said -/
def zm_E (sh : List zm_h) (cd : Nat → List zm_q) (X : zm_T) (d n : Nat) (as : List zm_v) (μ : zm_u) (post : Option zm_v → zm_u → Prop) : Prop :=
  ∃ (F : Nat) (r : Option zm_v) (μ' : zm_u), zm_ev sh cd X F d n as μ = some (r, μ') ∧ post r μ'
variable {d n pc : Nat} {l : zm_L} {st : List zm_v} {μ : zm_u} {post : Option zm_v → zm_u → Prop}
theorem zm_E_of {as : List zm_v} (h : zm_V sh cd X d n 0 (zm_args 0 as) [] μ post) : zm_E sh cd X (d + 1) n as μ post := h
theorem zm_E_mono {d' : Nat} {as : List zm_v} {post' : Option zm_v → zm_u → Prop} (h : zm_E sh cd X d n as μ post) (hd : d ≤ d') (hp : ∀ r μ', post r μ' → post' r μ') : zm_E sh cd X d' n as μ post' := by
  obtain ⟨F, r, μ', h1, h2⟩ := h
  exact ⟨F, r, μ', zm_ev_mono (Nat.le_refl F) d d' hd _ _ _ _ h1, hp _ _ h2⟩
theorem zm_V_post {post' : Option zm_v → zm_u → Prop} (h : zm_V sh cd X d n pc l st μ post) (hp : ∀ r μ', post r μ' → post' r μ') : zm_V sh cd X d n pc l st μ post' := by
  obtain ⟨F, r, μ', h1, h2⟩ := h
  exact ⟨F, r, μ', h1, hp _ _ h2⟩
theorem zm_V_step {q : zm_q} {pc' : Nat} {l' : zm_L} {st' : List zm_v} {μ' : zm_u} (hq : zm_at (cd n) pc = some q) (hs : ∀ call, zm_st sh X call q l st μ = some (.inl (pc', l', st', μ'))) (k : zm_V sh cd X d n pc' l' st' μ' post) : zm_V sh cd X d n pc l st μ post := by
  obtain ⟨F, r, μ1, h1, h2⟩ := k
  refine ⟨F + 1, r, μ1, ?_, h2⟩
  unfold zm_loop
  rw [hq]
  simp only
  rw [hs]
  exact zm_loop_mono (fun n as μ x h => zm_ev_mono (Nat.le_succ F) d d (Nat.le_refl d) n as μ x h) F F _ _ _ _ _ (Nat.le_refl F) h1
def zm_x (sh : List zm_h) (X : zm_T) : List zm_q → zm_S → Option (List Bool × zm_S)
  | [], s => some ([], s)
  | q :: r, (pc, l, st, μ) => cond (Nat.beq q.1 pc) (match zm_s1 sh X q l st μ with
    | some (bs, s) => match zm_x sh X r s with
      | some (bs', s') => some (bs ++ bs', s')
      | none => none
    | none => none) none
theorem zm_s1_st {call : Nat → List zm_v → zm_u → Option (Option zm_v × zm_u)} {q : zm_q} {bs : List Bool} {s : zm_S} (h : zm_s1 sh X q l st μ = some (bs, s)) (hb : bs.all id = true) : zm_st sh X call q l st μ = some (.inl s) := by
  unfold zm_st
  rw [h]
  simp only
  rw [hb]
  rfl
theorem zm_run : ∀ (qs : List zm_q) (pc : Nat) (l : zm_L) (st : List zm_v) (μ : zm_u) (bs : List Bool) (pc' : Nat) (l' : zm_L) (st' : List zm_v) (μ' : zm_u), qs.all (fun q => zm_at (cd n) q.1 == some q) = true → zm_x sh X qs (pc, l, st, μ) = some (bs, (pc', l', st', μ')) → bs.all id = true →
    zm_V sh cd X d n pc' l' st' μ' post → zm_V sh cd X d n pc l st μ post := by
  intro qs
  induction qs with
  | nil =>
    intro pc l st μ bs pc' l' st' μ' _ hx _ k
    cases hx
    exact k
  | cons q r ih =>
    intro pc l st μ bs pc' l' st' μ' hq hx hb k
    simp only [List.all_cons, Bool.and_eq_true, beq_iff_eq] at hq
    unfold zm_x at hx
    cases hp : Nat.beq q.1 pc with
    | false => rw [hp] at hx; cases hx
    | true =>
      rw [hp] at hx
      simp only [cond_true] at hx
      cases h1 : zm_s1 sh X q l st μ with
      | none => rw [h1] at hx; cases hx
      | some y =>
        obtain ⟨b1, s1⟩ := y
        obtain ⟨pc1, l1, st1, μ1⟩ := s1
        rw [h1] at hx
        simp only at hx
        cases h2 : zm_x sh X r (pc1, l1, st1, μ1) with
        | none => rw [h2] at hx; cases hx
        | some y =>
          obtain ⟨b2, s2⟩ := y
          rw [h2] at hx
          simp only [Option.some.injEq, Prod.mk.injEq] at hx
          obtain ⟨e1, e2⟩ := hx
          subst e1
          rw [List.all_append, Bool.and_eq_true] at hb
          have hpc : q.1 = pc := Nat.eq_of_beq_eq_true hp
          refine zm_V_step (q := q) (by rw [← hpc]; exact hq.1) (fun call => zm_s1_st h1 hb.1) ?_
          exact ih pc1 l1 st1 μ1 b2 pc' l' st' μ' hq.2 (by rw [h2, e2]) hb.2 k
theorem zm_if {nx a b : Nat} {k : Int32} {sw : List (Int32 × Nat)} {x : Int32} {r : List zm_v} (hq : zm_at (cd n) pc = some (pc, nx, 30, a, b, k, sw)) (kt : zm_c b x 0 = true → zm_V sh cd X d n a l r μ post) (kf : zm_c b x 0 = false → zm_V sh cd X d n nx l r μ post) : zm_V sh cd X d n pc l (.inl x :: r) μ post := by
  cases hc : zm_c b x 0 with
  | true => exact zm_V_step hq (fun call => by show some (Sum.inl (cond (zm_c b x 0) a nx, l, r, μ)) = _; rw [hc]; rfl) (kt hc)
  | false => exact zm_V_step hq (fun call => by show some (Sum.inl (cond (zm_c b x 0) a nx, l, r, μ)) = _; rw [hc]; rfl) (kf hc)
theorem zm_icmp {nx a b : Nat} {k : Int32} {sw : List (Int32 × Nat)} {x y : Int32} {r : List zm_v} (hq : zm_at (cd n) pc = some (pc, nx, 31, a, b, k, sw)) (kt : zm_c b x y = true → zm_V sh cd X d n a l r μ post) (kf : zm_c b x y = false → zm_V sh cd X d n nx l r μ post) : zm_V sh cd X d n pc l (.inl y :: .inl x :: r) μ post := by
  cases hc : zm_c b x y with
  | true => exact zm_V_step hq (fun call => by show some (Sum.inl (cond (zm_c b x y) a nx, l, r, μ)) = _; rw [hc]; rfl) (kt hc)
  | false => exact zm_V_step hq (fun call => by show some (Sum.inl (cond (zm_c b x y) a nx, l, r, μ)) = _; rw [hc]; rfl) (kf hc)
theorem zm_switch {nx a b : Nat} {k : Int32} {sw : List (Int32 × Nat)} {x : Int32} {r : List zm_v} (hq : zm_at (cd n) pc = some (pc, nx, 32, a, b, k, sw)) (kk : zm_V sh cd X d n (zm_sw sw a x) l r μ post) : zm_V sh cd X d n pc l (.inl x :: r) μ post :=
  zm_V_step hq (fun call => rfl) kk
theorem zm_iret {nx a b : Nat} {k : Int32} {sw : List (Int32 × Nat)} {v : Int32} (hq : zm_at (cd n) pc = some (pc, nx, 33, a, b, k, sw)) (h : post (some (.inl v)) μ) : zm_V sh cd X d n pc l [.inl v] μ post :=
  ⟨1, _, _, by unfold zm_loop; rw [hq]; rfl, h⟩
theorem zm_zret {nx a b : Nat} {k : Int32} {sw : List (Int32 × Nat)} {v : Int32} (hq : zm_at (cd n) pc = some (pc, nx, 37, a, b, k, sw)) (hv : v = 0 ∨ v = 1) (h : post (some (.inl v)) μ) : zm_V sh cd X d n pc l [.inl v] μ post := by
  refine ⟨1, _, _, ?_, h⟩
  unfold zm_loop
  rw [hq]
  show (match (cond (decide (v = 0 ∨ v = 1)) (some (Sum.inr (some (Sum.inl v), μ))) none : Option (zm_S ⊕ (Option zm_v × zm_u))) with
      | some (.inl (pc', l', st', μ')) => _
      | some (.inr x) => some x
      | none => none) = _
  rw [decide_eq_true hv]
  rfl
theorem zm_vret {nx a b : Nat} {k : Int32} {sw : List (Int32 × Nat)} (hq : zm_at (cd n) pc = some (pc, nx, 34, a, b, k, sw)) (h : post none μ) : zm_V sh cd X d n pc l [] μ post :=
  ⟨1, _, _, by unfold zm_loop; rw [hq]; rfl, h⟩
theorem zm_V_call {q : zm_q} {nx a : Nat} {as rest : List zm_v} {P : Option zm_v → zm_u → Prop} (hq : zm_at (cd n) pc = some q) (hs : ∀ call, zm_st sh X call q l st μ = match call a as μ with
        | some (r, μ') => some (.inl (nx, l, r.toList ++ rest, μ'))
        | none => none) (he : zm_E sh cd X d a as μ P) (k : ∀ r μ', P r μ' → zm_V sh cd X d n nx l (r.toList ++ rest) μ' post) : zm_V sh cd X d n pc l st μ post := by
  obtain ⟨F1, r, μ1, h1, h2⟩ := he
  obtain ⟨F2, r2, μ2, h3, h4⟩ := k r μ1 h2
  refine ⟨F1 + F2 + 1, r2, μ2, ?_, h4⟩
  unfold zm_loop
  rw [hq]
  simp only
  rw [hs, zm_ev_mono (show F1 ≤ F1 + F2 + 1 by omega) d d (Nat.le_refl d) _ _ _ _ h1]
  exact zm_loop_mono (fun n as μ x h => zm_ev_mono (show F2 ≤ F1 + F2 + 1 by omega) d d (Nat.le_refl d) n as μ x h) F2 (F1 + F2) _ _ _ _ _ (by omega) h3
theorem zm_callS {nx a b : Nat} {k : Int32} {sw : List (Int32 × Nat)} {as rest : List zm_v} {P : Option zm_v → zm_u → Prop} (hq : zm_at (cd n) pc = some (pc, nx, 35, a, b, k, sw)) (has : (st.take b).reverse = as) (hr : st.drop b = rest) (hb : (Nat.ble b st.length && Nat.ble (st.drop b).length 8) = true)
    (he : zm_E sh cd X d a as μ P) (kk : ∀ r μ', P r μ' → zm_V sh cd X d n nx l (r.toList ++ rest) μ' post) : zm_V sh cd X d n pc l st μ post := by
  subst has
  subst hr
  refine zm_V_call hq (fun call => ?_) he kk
  show cond (Nat.ble b st.length && Nat.ble (st.drop b).length 8) _ none = _
  rw [hb]
  rfl
theorem zm_callV {nx a b : Nat} {k : Int32} {sw : List (Int32 × Nat)} {as rest : List zm_v} {P : Option zm_v → zm_u → Prop} (hq : zm_at (cd n) pc = some (pc, nx, 36, a, b, k, sw)) (has : (st.take b).reverse = as) (hr : st.drop b = rest) (hb : (Nat.ble b st.length && Nat.ble (st.drop b).length 8 && zm_is sh k.toNatClampNeg as) = true)
    (he : zm_E sh cd X d a as μ P) (kk : ∀ r μ', P r μ' → zm_V sh cd X d n nx l (r.toList ++ rest) μ' post) : zm_V sh cd X d n pc l st μ post := by
  subst has
  subst hr
  refine zm_V_call hq (fun call => ?_) he kk
  show cond (Nat.ble b st.length && Nat.ble (st.drop b).length 8 && zm_is sh k.toNatClampNeg (st.take b).reverse) _ none = _
  rw [hb]
  rfl
end ZM
end
section
/-! fewer locals serve as well; calls with ints -/
section ZN
variable {sh : List zm_h} {X : zm_T} {cd : Nat → List zm_q} {d n pc : Nat} {st : List zm_v} {μ : zm_u} {post : Option zm_v → zm_u → Prop}
def zm_le (l l2 : zm_L) : Prop := ∀ (i : Nat) (v : zm_v), zm_get l i = some v → zm_get l2 i = some v
theorem zm_get_set {i j : Nat} {v : zm_v} : ∀ l : zm_L, zm_get (zm_set l i v) j = cond (Nat.beq i j) (some v) (zm_get l j) := by
  intro l
  induction l with
  | nil =>
    show cond (Nat.beq i j) (some v) none = _
    rfl
  | cons x r ih =>
    obtain ⟨k, w⟩ := x
    unfold zm_set
    cases hb : Nat.beq i k with
    | true =>
      have e := Nat.eq_of_beq_eq_true hb
      subst e
      simp only [cond_true]
      show cond (Nat.beq i j) (some v) (zm_get r j) = cond (Nat.beq i j) (some v) (cond (Nat.beq i j) (some w) (zm_get r j))
      cases Nat.beq i j <;> rfl
    | false =>
      simp only [cond_false]
      cases hl : Nat.ble i k with
      | true =>
        simp only [cond_true]
        rfl
      | false =>
        simp only [cond_false]
        show cond (Nat.beq k j) (some w) (zm_get (zm_set r i v) j) = cond (Nat.beq i j) (some v) (cond (Nat.beq k j) (some w) (zm_get r j))
        rw [ih]
        cases h1 : Nat.beq k j with
        | false => rfl
        | true =>
          have e := Nat.eq_of_beq_eq_true h1
          subst e
          rw [hb]
          rfl
theorem zm_set_le {l l2 : zm_L} (h : zm_le l l2) (i : Nat) (v : zm_v) : zm_le (zm_set l i v) (zm_set l2 i v) := by
  intro j w hj
  rw [zm_get_set] at hj ⊢
  cases hb : Nat.beq i j with
  | true => rw [hb] at hj; exact hj
  | false => rw [hb] at hj; exact h j w hj
theorem zm_s1_le {q : zm_q} {l l2 l' : zm_L} {bs : List Bool} {pc' : Nat} {st' : List zm_v} {μ' : zm_u} (hle : zm_le l l2) (h : zm_s1 sh X q l st μ = some (bs, pc', l', st', μ')) : ∃ l2' : zm_L, zm_s1 sh X q l2 st μ = some (bs, pc', l2', st', μ') ∧ zm_le l' l2' := by
  obtain ⟨pc, nx, op, a, b, k, sw⟩ := q
  unfold zm_s1 at h ⊢
  simp only at h ⊢
  split at h
  · cases h
    exact ⟨l2, rfl, hle⟩
  · split at h
    · rename_i v hv
      cases h
      exact ⟨l2, by rw [hle _ _ hv], hle⟩
    · cases h
  · split at h
    · cases h
      exact ⟨_, rfl, zm_set_le hle _ _⟩
    · cases h
  · split at h
    · rename_i v hv
      cases h
      exact ⟨zm_set l2 a (.inl (v + k)), by rw [hle _ _ hv], zm_set_le hle _ _⟩
    · cases h
  all_goals first
    | (split at h
       · rename_i v hv
         cases h
         exact ⟨l2, by rw [hle _ _ hv], hle⟩
       · cases h)
    | ((repeat' split at h) <;> first
        | (cases h; exact ⟨l2, rfl, hle⟩)
        | (cases h; exact ⟨l2, by simp only [*], hle⟩)
        | (cases h; exact ⟨l2, by simp [*], hle⟩)
        | (cases h; done))
theorem zm_s1_hi {q : zm_q} {l : zm_L} (h : 30 ≤ q.2.2.1) : zm_s1 sh X q l st μ = none := by
  obtain ⟨pc, nx, op, a, b, k, sw⟩ := q
  simp only at h
  obtain ⟨j, rfl⟩ : ∃ j, op = j + 30 := ⟨op - 30, by omega⟩
  simp only [zm_s1]
theorem zm_s2_le {q : zm_q} {l l2 : zm_L} {call : Nat → List zm_v → zm_u → Option (Option zm_v × zm_u)} {y : zm_S ⊕ (Option zm_v × zm_u)} (h : zm_s2 sh call q l st μ = some y) :
    (∃ x, y = .inr x ∧ zm_s2 sh call q l2 st μ = some (.inr x)) ∨ ∃ pc' st' μ', y = .inl (pc', l, st', μ') ∧ zm_s2 sh call q l2 st μ = some (.inl (pc', l2, st', μ')) := by
  obtain ⟨pc, nx, op, a, b, k, sw⟩ := q
  unfold zm_s2 at h ⊢
  simp only at h ⊢
  split at h
  · split at h
    · cases h; exact Or.inr ⟨_, _, _, rfl, rfl⟩
    · cases h
  · split at h
    · cases h; exact Or.inr ⟨_, _, _, rfl, rfl⟩
    · cases h
  · split at h
    · cases h; exact Or.inr ⟨_, _, _, rfl, rfl⟩
    · cases h
  · split at h
    · cases h; exact Or.inl ⟨_, rfl, rfl⟩
    · cases h
  · split at h
    · cases h; exact Or.inl ⟨_, rfl, rfl⟩
    · cases h
  · cases hb : (Nat.ble b st.length && Nat.ble (st.drop b).length 8) with
    | false => rw [hb] at h; cases h
    | true =>
      rw [hb] at h
      simp only [cond_true] at h ⊢
      split at h
      · rename_i r μ1 hc
        cases h
        exact Or.inr ⟨_, _, _, rfl, by first | rfl | rw [hc]⟩
      · cases h
  · cases hb : (Nat.ble b st.length && Nat.ble (st.drop b).length 8 && zm_is sh k.toNatClampNeg (st.take b).reverse) with
    | false => rw [hb] at h; cases h
    | true =>
      rw [hb] at h
      simp only [cond_true] at h ⊢
      split at h
      · rename_i r μ1 hc
        cases h
        exact Or.inr ⟨_, _, _, rfl, by first | rfl | rw [hc]⟩
      · cases h
  · split at h
    · rename_i v
      cases hv : decide (v = 0 ∨ v = 1) with
      | false => rw [hv] at h; cases h
      | true => rw [hv] at h; cases h; exact Or.inl ⟨_, rfl, rfl⟩
    · cases h
  · cases h
theorem zm_s2_op {q : zm_q} {l : zm_L} {call : Nat → List zm_v → zm_u → Option (Option zm_v × zm_u)} {y : zm_S ⊕ (Option zm_v × zm_u)} (h : zm_s2 sh call q l st μ = some y) : 30 ≤ q.2.2.1 := by
  obtain ⟨pc, nx, op, a, b, k, sw⟩ := q
  unfold zm_s2 at h
  simp only at h ⊢
  split at h
  all_goals first
    | decide
    | (cases h; done)
theorem zm_loop_le {call : Nat → List zm_v → zm_u → Option (Option zm_v × zm_u)} {t : List zm_q} {x : Option zm_v × zm_u} : ∀ (f pc : Nat) (l l2 : zm_L) (st : List zm_v) (μ : zm_u), zm_le l l2 → zm_loop sh X call t f pc l st μ = some x → zm_loop sh X call t f pc l2 st μ = some x := by
  intro f
  induction f with
  | zero => intro pc l l2 st μ _ h; cases h
  | succ f ih =>
    intro pc l l2 st μ hle h
    unfold zm_loop at h ⊢
    cases hq : zm_at t pc with
    | none => rw [hq] at h; cases h
    | some q =>
      rw [hq] at h
      simp only at h ⊢
      unfold zm_st at h ⊢
      cases h1 : zm_s1 sh X q l st μ with
      | some y =>
        obtain ⟨bs, pc', l', st', μ'⟩ := y
        obtain ⟨l2', h2, hle'⟩ := zm_s1_le hle h1
        rw [h1] at h
        rw [h2]
        simp only at h ⊢
        cases hb : bs.all id with
        | false => rw [hb] at h; cases h
        | true =>
          rw [hb] at h
          exact ih pc' l' l2' st' μ' hle' h
      | none =>
        rw [h1] at h
        simp only at h
        cases h2 : zm_s2 sh call q l st μ with
        | none => rw [h2] at h; cases h
        | some y =>
          have hop := zm_s2_op h2
          have h3 : zm_s1 sh X q l2 st μ = none := zm_s1_hi hop
          rw [h3]
          simp only
          rw [h2] at h
          rcases zm_s2_le (l2 := l2) h2 with ⟨x', rfl, g2⟩ | ⟨pc', st', μ', rfl, g2⟩
          · rw [g2]; exact h
          · rw [g2]; exact ih pc' l l2 st' μ' hle h
def zm_pick (l : zm_L) (is : List Nat) : zm_L := match is with
  | [] => []
  | i :: r => match zm_get l i with
    | some v => (i, v) :: zm_pick l r
    | none => zm_pick l r
theorem zm_pick_le (l : zm_L) : ∀ is : List Nat, zm_le (zm_pick l is) l := by
  intro is
  induction is with
  | nil => intro i v h; cases h
  | cons i r ih =>
    intro j v h
    unfold zm_pick at h
    cases hg : zm_get l i with
    | none => rw [hg] at h; exact ih j v h
    | some w =>
      rw [hg] at h
      have h' : cond (Nat.beq i j) (some w) (zm_get (zm_pick l r) j) = some v := h
      cases hb : Nat.beq i j with
      | true =>
        rw [hb] at h'
        rw [← Nat.eq_of_beq_eq_true hb, hg]
        exact h'
      | false => rw [hb] at h'; exact ih j v h'
theorem zm_V_pick {l l' : zm_L} (is : List Nat) (hp : zm_pick l is = l') (h : zm_V sh cd X d n pc l' st μ post) : zm_V sh cd X d n pc l st μ post := by
  subst hp
  obtain ⟨F, r, μ', h1, h2⟩ := h
  exact ⟨F, r, μ', zm_loop_le F pc _ _ st μ (zm_pick_le l is) h1, h2⟩
end ZN
theorem zm_bc {A : Prop} {i : Decidable A} {bs : List Bool} (h : A) (t : bs.all id = true) : ((@decide A i) :: bs).all id = true := by
  rw [List.all_cons, t, Bool.and_true]
  exact decide_eq_true h
theorem zm_bt {b : Bool} {bs : List Bool} (h : b = true) (t : bs.all id = true) : (b :: bs).all id = true := by
  rw [List.all_cons, t, Bool.and_true]
  exact h
def zpi (P : Int32 → zm_u → Prop) : Option zm_v → zm_u → Prop := fun r μ => ∃ v : Int32, r = some (.inl v) ∧ P v μ
def zpo (P : zm_u → Prop) : Option zm_v → zm_u → Prop := fun r μ => r = none ∧ P μ
end
section
/-! the small machine's runs are runs of the machine -/
theorem zb_ne {a b : Nat} (h : a ≠ b) : Nat.beq a b = false := by
  cases hb : Nat.beq a b with
  | false => rfl
  | true => exact absurd (Nat.eq_of_beq_eq_true hb) h
theorem zb_of {a b : Nat} (h : Nat.beq a b = false) : a ≠ b := by
  intro e
  subst e
  rw [Nat.beq_refl] at h
  cases h
def zw_v (ad : Nat → Nat) (x : zm_v) : Value := match x with
  | .inl i => .int i
  | .inr j => .ref (ad j)
def zw_f (ad : Nat → Nat) (μ : zm_u) (i f : Nat) (o : Option Nat) : Value := match o with
  | none => .int (μ i f)
  | some j => .ref (ad j)
def zw_e (ad : Nat → Nat) (cA cB : ClassId) (μ : zm_u) (i : Nat) (x : zm_h) : Nat × va_E := (ad i, match x with
  | .inl a => .inl (cond a.2 cB cA, a.1, .inl (μ i))
  | .inr o => .inr (o.1, o.2.mapIdx (zw_f ad μ i)))
def zw_W (sh : List zm_h) (ad : Nat → Nat) (cA cB : ClassId) (μ : zm_u) : va_W := sh.mapIdx (zw_e ad cA cB μ)
def zw_l (ad : Nat → Nat) (l : zm_L) : List (Nat × Value) := l.map (fun q => (q.1, zw_v ad q.2))
def zw_A (sh : List zm_h) (ad : Nat → Nat) : Nat → Prop := fun q => ∃ i : Nat, i < sh.length ∧ q = ad i
theorem zw_at {sh : List zm_h} {ad : Nat → Nat} {cA cB : ClassId} {μ : zm_u} {k : Nat} {x : zm_h} (h : sh[k]? = some x) : (zw_W sh ad cA cB μ)[k]? = some (zw_e ad cA cB μ k x) := by
  unfold zw_W
  rw [List.getElem?_mapIdx, h]
  rfl
theorem zw_of {sh : List zm_h} {ad : Nat → Nat} {cA cB : ClassId} {μ : zm_u} {k : Nat} {q : Nat × va_E} (h : (zw_W sh ad cA cB μ)[k]? = some q) : ∃ x, sh[k]? = some x ∧ q = zw_e ad cA cB μ k x := by
  unfold zw_W at h
  rw [List.getElem?_mapIdx] at h
  cases hx : sh[k]? with
  | none => rw [hx] at h; cases h
  | some x => rw [hx] at h; exact ⟨x, rfl, (Option.some.inj h).symm⟩
theorem zw_e_of {ad : Nat → Nat} {cA cB : ClassId} {μ μ' : zm_u} {k : Nat} {x : zm_h} (h : μ' k = μ k) : zw_e ad cA cB μ' k x = zw_e ad cA cB μ k x := by
  have hf : zw_f ad μ' k = zw_f ad μ k := by
    funext f o
    cases o <;> simp [zw_f, h]
  unfold zw_e
  rw [h, hf]
theorem zw_set {sh : List zm_h} {ad : Nat → Nat} {cA cB : ClassId} {μ μ' : zm_u} {j : Nat} {x : zm_h} (hx : sh[j]? = some x) (h : ∀ k, k ≠ j → μ' k = μ k) : (zw_W sh ad cA cB μ).set j (zw_e ad cA cB μ' j x) = zw_W sh ad cA cB μ' := by
  apply List.ext_getElem?
  intro k
  rw [List.getElem?_set]
  by_cases hk : j = k
  · subst hk
    have hl : j < (zw_W sh ad cA cB μ).length := by
      unfold zw_W
      rw [List.length_mapIdx]
      exact (List.getElem?_eq_some_iff.mp hx).1
    rw [if_pos rfl, if_pos hl, zw_at hx]
  · rw [if_neg hk]
    unfold zw_W
    rw [List.getElem?_mapIdx, List.getElem?_mapIdx]
    cases sh[k]? with
    | none => rfl
    | some y => exact congrArg some (zw_e_of (h k (fun e => hk e.symm))).symm
theorem zm_up_row {μ : zm_u} {j i k : Nat} {v : Int32} (h : k ≠ j) : zm_up μ j i v k = μ k := by
  funext z
  unfold zm_up
  rw [zb_ne h]
  rfl
theorem zm_up_self {μ : zm_u} {j i : Nat} {v : Int32} : zm_up μ j i v j = upd (μ j) i v := by
  funext z
  unfold zm_up upd
  rw [Nat.beq_refl]
  by_cases h : z = i
  · subst h
    simp
  · rw [zb_ne h, if_neg h]
    rfl
theorem zw_seta {sh : List zm_h} {ad : Nat → Nat} {cA cB : ClassId} {μ : zm_u} {j n : Nat} {z : Bool} (hx : sh[j]? = some (.inl (n, z))) (i : Nat) (v : Int32) :
    (zw_W sh ad cA cB μ).set j (ad j, .inl (cond z cB cA, n, .inl (upd (μ j) i v))) = zw_W sh ad cA cB (zm_up μ j i v) := by
  rw [← zw_set (μ := μ) (μ' := zm_up μ j i v) hx (fun k hk => zm_up_row hk)]
  unfold zw_e
  rw [zm_up_self]
theorem zw_setf {sh : List zm_h} {ad : Nat → Nat} {cA cB : ClassId} {μ : zm_u} {j ci a : Nat} {fs : List (Option Nat)} (hx : sh[j]? = some (.inr (ci, fs))) (ha : fs[a]? = some none) (v : Int32) :
    (zw_W sh ad cA cB μ).set j (ad j, .inr (ci, (fs.mapIdx (zw_f ad μ j)).set a (.int v))) = zw_W sh ad cA cB (zm_up μ j a v) := by
  rw [← zw_set (μ := μ) (μ' := zm_up μ j a v) hx (fun k hk => zm_up_row hk)]
  unfold zw_e
  congr 4
  apply List.ext_getElem?
  intro k
  rw [List.getElem?_set]
  by_cases hk : a = k
  · subst hk
    have hl : a < (fs.mapIdx (zw_f ad μ j)).length := by
      rw [List.length_mapIdx]
      exact (List.getElem?_eq_some_iff.mp ha).1
    rw [if_pos rfl, if_pos hl, List.getElem?_mapIdx, ha]
    show _ = some (Value.int (zm_up μ j a v j a))
    rw [zm_up_self]
    simp [upd]
  · rw [if_neg hk, List.getElem?_mapIdx, List.getElem?_mapIdx]
    cases fs[k]? with
    | none => rfl
    | some y =>
      refine congrArg some ?_
      cases y with
      | none =>
        show Value.int (μ j k) = Value.int (zm_up μ j a v j k)
        rw [zm_up_self]
        simp [upd, Ne.symm hk]
      | some t => rfl
theorem zw_D {sh : List zm_h} {ad : Nat → Nat} {cA cB : ClassId} {μ : zm_u} (hi : ∀ i j : Nat, i < sh.length → j < sh.length → ad i = ad j → i = j) : va_D (zw_A sh ad) (zw_W sh ad cA cB μ) := by
  refine ⟨fun i j p q hp hq e => ?_, fun k q hq => ?_⟩
  · obtain ⟨x, hx, rfl⟩ := zw_of hp
    obtain ⟨y, hy, rfl⟩ := zw_of hq
    exact hi i j (List.getElem?_eq_some_iff.mp hx).1 (List.getElem?_eq_some_iff.mp hy).1 e
  · obtain ⟨x, hx, rfl⟩ := zw_of hq
    exact ⟨k, (List.getElem?_eq_some_iff.mp hx).1, rfl⟩
theorem zw_lget {ad : Nat → Nat} : ∀ {l : zm_L} {i : Nat} {v : zm_v}, zm_get l i = some v → (i, zw_v ad v) ∈ zw_l ad l := by
  intro l
  induction l with
  | nil => intro i v h; cases h
  | cons q r ih =>
    obtain ⟨j, w⟩ := q
    intro i v h
    unfold zm_get at h
    cases hb : Nat.beq j i with
    | true =>
      rw [hb] at h
      have e := Nat.eq_of_beq_eq_true hb
      cases h
      subst e
      exact List.mem_cons_self
    | false =>
      rw [hb] at h
      exact List.mem_cons_of_mem _ (ih h)
theorem zw_lset_mem {i : Nat} {v : zm_v} : ∀ {l : zm_L} {q : Nat × zm_v}, q ∈ zm_set l i v → q = (i, v) ∨ q ∈ l := by
  intro l
  induction l with
  | nil => intro q h; exact Or.inl (List.mem_singleton.mp h)
  | cons x r ih =>
    obtain ⟨j, w⟩ := x
    intro q h
    unfold zm_set at h
    cases hb : Nat.beq i j with
    | true =>
      rw [hb] at h
      rcases List.mem_cons.mp h with h | h
      · exact Or.inl h
      · exact Or.inr (List.mem_cons_of_mem _ h)
    | false =>
      rw [hb] at h
      simp only [cond_false] at h
      cases hl : Nat.ble i j with
      | true =>
        rw [hl] at h
        rcases List.mem_cons.mp h with h | h
        · exact Or.inl h
        · exact Or.inr h
      | false =>
        rw [hl] at h
        rcases List.mem_cons.mp h with h | h
        · exact Or.inr (by rw [h]; exact List.mem_cons_self)
        · rcases ih h with h | h
          · exact Or.inl h
          · exact Or.inr (List.mem_cons_of_mem _ h)
/-- locals in rising order -/
def zm_srt (l : zm_L) : Bool := match l with
  | [] => true
  | (i, _) :: r => r.all (fun q => Nat.blt i q.1) && zm_srt r
theorem zm_set_lt {i k : Nat} {v : zm_v} {l : zm_L} (h : l.all (fun q => Nat.blt k q.1) = true) (hk : k < i) : (zm_set l i v).all (fun q => Nat.blt k q.1) = true := by
  rw [List.all_eq_true] at h ⊢
  intro q hq
  rcases zw_lset_mem hq with rfl | hq
  · simpa using hk
  · exact h q hq
theorem zm_set_srt {i : Nat} {v : zm_v} : ∀ {l : zm_L}, zm_srt l = true → zm_srt (zm_set l i v) = true ∧ ∀ q ∈ zm_set l i v, q = (i, v) ∨ (q ∈ l ∧ q.1 ≠ i) := by
  intro l
  induction l with
  | nil => intro _; exact ⟨rfl, fun q h => Or.inl (List.mem_singleton.mp h)⟩
  | cons x r ih =>
    obtain ⟨j, w⟩ := x
    intro h
    unfold zm_srt at h
    rw [Bool.and_eq_true] at h
    obtain ⟨h1, h2⟩ := h
    have h1' : ∀ q ∈ r, j < q.1 := by
      rw [List.all_eq_true] at h1
      intro q hq
      simpa using h1 q hq
    unfold zm_set
    cases hb : Nat.beq i j with
    | true =>
      have e := Nat.eq_of_beq_eq_true hb
      subst e
      simp only [cond_true]
      refine ⟨by unfold zm_srt; rw [Bool.and_eq_true]; exact ⟨h1, h2⟩, fun q hq => ?_⟩
      rcases List.mem_cons.mp hq with hq | hq
      · exact Or.inl hq
      · exact Or.inr ⟨List.mem_cons_of_mem _ hq, by have := h1' q hq; omega⟩
    | false =>
      have hne : i ≠ j := zb_of hb
      simp only [cond_false]
      cases hl : Nat.ble i j with
      | true =>
        have hle : i ≤ j := Nat.le_of_ble_eq_true hl
        simp only [cond_true]
        refine ⟨?_, fun q hq => ?_⟩
        · unfold zm_srt
          rw [Bool.and_eq_true]
          refine ⟨?_, by unfold zm_srt; rw [Bool.and_eq_true]; exact ⟨h1, h2⟩⟩
          rw [List.all_eq_true]
          intro q hq
          rcases List.mem_cons.mp hq with rfl | hq
          · show Nat.blt i j = true
            simp; omega
          · have := h1' q hq
            simp; omega
        · rcases List.mem_cons.mp hq with hq | hq
          · exact Or.inl hq
          · refine Or.inr ⟨hq, ?_⟩
            rcases List.mem_cons.mp hq with rfl | hq
            · exact fun e => hne e.symm
            · have := h1' q hq
              omega
      | false =>
        have hlt : j < i := by
          have h0 : ¬ i ≤ j := fun z => by rw [Nat.ble_eq_true_of_le z] at hl; cases hl
          omega
        simp only [cond_false]
        obtain ⟨g1, g2⟩ := ih h2
        refine ⟨?_, fun q hq => ?_⟩
        · unfold zm_srt
          rw [Bool.and_eq_true]
          exact ⟨zm_set_lt h1 hlt, g1⟩
        · rcases List.mem_cons.mp hq with rfl | hq
          · exact Or.inr ⟨List.mem_cons_self, fun e => hne e.symm⟩
          · rcases g2 q hq with h | ⟨h, h'⟩
            · exact Or.inl h
            · exact Or.inr ⟨List.mem_cons_of_mem _ h, h'⟩
end
section
abbrev zw_Tb : Type := List (Nat × Nat × Nat × Nat)
def zw_lk (big nest : List Cond) (o : String) (i : Nat) (C n d : String) : Prop := Cond.fieldLink o i C n d ∈ big ∨ ∃ h : String, Cond.fieldLinkNest o i C n d h ∈ nest
/-- what the tables of links say -/
def zw_fl (cl : List vw_C) (big nest : List Cond) (cn : Nat → String) (x : Nat × Nat × Nat × Nat) : Prop := ∃ (C : String) (T : u_T) (N : Nat), cl[x.2.2.1]? = some (C, T, N) ∧ x.2.2.2 < N ∧ (T x.2.2.2).1 = C ∧ zw_lk big nest (cn x.1) x.2.1 C (T x.2.2.2).2.1 (T x.2.2.2).2.2.1
def zw_pl (ds : String) (cl : List vw_C) (x : Nat × Nat × Nat × Nat) : Prop := ∃ (C : String) (T : u_T) (N : Nat), cl[x.2.2.1]? = some (C, T, N) ∧ (T x.2.2.2).2.2.2 = false ∧ (T x.2.2.2).2.2.1 = ds
def zw_K (cl : List vw_C) (big nest : List Cond) (cn : Nat → String) (tb : Nat → zw_Tb) : Prop :=
  (∀ x ∈ tb 0, zw_fl cl big nest cn x) ∧ (∀ x ∈ tb 1, zw_fl cl big nest cn x ∧ zw_pl "I" cl x) ∧ (∀ x ∈ tb 2, zw_fl cl big nest cn x ∧ zw_pl "Z" cl x) ∧
  (∀ (c : Nat) (q : vw_C), cl[c]? = some q → (∀ w ∈ u_ws q.1 q.2.1 q.2.2, w ∈ big) ∧ (∃ ty : Nat → FieldType, ∀ k, k < q.2.2 → parseFieldDescriptor (q.2.1 k).2.2.1 = some (ty k)) ∧ (∀ a, a < q.2.2 → ∀ b, b < q.2.2 → a ≠ b → (q.2.1 a).2.1 ≠ (q.2.1 b).2.1)) ∧
  (∀ x ∈ tb 5, zw_lk big nest (cn x.1) x.2.1 "RigidCases" "PARTS" "[I") ∧
  (∀ x ∈ tb 6, Cond.methodLink (cn x.1) x.2.1 Lib.Math.max.name ∈ big ∧ Cond.static Lib.Math.max.name ∈ big ∧ Cond.initialized "java/lang/Math" ∈ big ∧ Cond.code Lib.Math.max.name Lib.Math.max.code 2 (some .int) ∈ big) ∧
  (∀ x ∈ tb 7, Cond.methodLink (cn x.1) x.2.1 arraycopyName ∈ big ∧ Cond.native arraycopyName ∈ big ∧ Cond.static arraycopyName ∈ big ∧ Cond.initialized "java/lang/System" ∈ big) ∧
  (∀ x ∈ tb 8, Cond.constant (cn x.1) x.2.1 (Int32.ofNat x.2.2.1) ∈ big)
def zw_F (sh : List zm_h) (X : zm_T) (ad : Nat → Nat) (cA cB : ClassId) (D : va_G) (cl : List vw_C) (nest : List Cond) (U : State) : Prop :=
  va_K D cl [(cA, .int), (cB, .boolean)] U ∧ (∀ w ∈ nest, va_Nw w U) ∧ va_Z "RigidCases" "PARTS" "[I" (.ref (ad 100)) (zw_A sh ad) U U.heap ∧ va_T .int (ad 100) 18 (fun j => .int (zm_pt j)) (zw_A sh ad) U U.heap ∧ va_T .int (ad 101) X.1 (fun j => .int (X.2 j)) (zw_A sh ad) U U.heap
/-- a frame's standing facts -/
def zw_C (p : Program) (m : MethodId) (c : Code) (cc : ByteArray) (nL : Nat) (s : State) (args : Array Value) (big : List Cond) (on : String) (sh : List zm_h) (X : zm_T) (ad : Nat → Nat) (cA cB : ClassId) (D : va_G) (cl : List vw_C) (nest : List Cond) : Prop :=
  p.tables.exec = Jvm.exec ∧ c.code = cc ∧ c.maxLocals = nL ∧ s.vm.findClass on = some m.cls ∧ (∀ w ∈ big, w.before args s = true) ∧ zw_F sh X ad cA cB D cl nest s ∧ (∀ i j : Nat, i < sh.length → j < sh.length → ad i = ad j → i = j)
def zw_tsw (pc : Nat) (lo : Int) (os : List Int) : List (Int32 × Nat) := match os with
  | [] => []
  | o :: r => (Int32.ofInt lo, ((pc : Int) + o).toNat) :: zw_tsw pc (lo + 1) r
def zw_cnd (b : Nat) : ClassFile.Cond := match b with
  | 0 => .eq
  | 1 => .ne
  | 2 => .lt
  | 3 => .ge
  | 4 => .gt
  | _ => .le
/-- the bytes say what the small machine's table says -/
def zw_ck (cc : ByteArray) (own nL : Nat) (ret : Option FieldType) (tb : Nat → zw_Tb) (np : Nat → Nat) (q : zm_q) : Bool :=
  match q with
  | (pc, nx, op, a, b, k, sw) => match decode cc pc with
    | .error _ => false
    | .ok (ins, len) => Nat.beq nx (pc + len) && (match op with
      | 0 => match ins with
        | .iconst i => Nat.beq len 1 && decide (Int32.ofInt i = k)
        | .bipush i => Nat.beq len 2 && decide ((Int8.ofInt i).toInt32 = k)
        | .sipush i => Nat.beq len 3 && decide ((Int16.ofInt i).toInt32 = k)
        | _ => false
      | 1 => match ins with
        | .iload_n j => Nat.beq len 1 && Nat.beq j.val a
        | .iload j => Nat.beq len 2 && Nat.beq j a
        | _ => false
      | 2 => match ins with
        | .istore_n j => Nat.beq len 1 && (Nat.beq j.val a && Nat.blt a nL)
        | .istore j => Nat.beq len 2 && (Nat.beq j a && Nat.blt a nL)
        | _ => false
      | 3 => match ins with
        | .iinc j i => Nat.beq len 3 && (Nat.beq j a && (Nat.blt a nL && decide (Int32.ofInt i = k)))
        | _ => false
      | 4 => match ins with
        | .getfield i => Nat.beq len 3 && (tb 0).contains (own, i, b, a)
        | _ => false
      | 5 => match ins with
        | .putfield i => Nat.beq len 3 && (tb 1).contains (own, i, b, a)
        | _ => false
      | 6 => match ins with
        | .iaload => Nat.beq len 1
        | _ => false
      | 7 => match ins with
        | .iastore => Nat.beq len 1
        | _ => false
      | 8 => match ins with
        | .baload => Nat.beq len 1
        | _ => false
      | 9 => match ins with
        | .bastore => Nat.beq len 1
        | _ => false
      | 10 => match ins with
        | .iadd => Nat.beq len 1
        | _ => false
      | 11 => match ins with
        | .isub => Nat.beq len 1
        | _ => false
      | 12 => match ins with
        | .imul => Nat.beq len 1
        | _ => false
      | 13 => match ins with
        | .iand => Nat.beq len 1
        | _ => false
      | 14 => match ins with
        | .ishl => Nat.beq len 1
        | _ => false
      | 15 => match ins with
        | .ishr => Nat.beq len 1
        | _ => false
      | 16 => match ins with
        | .dup => Nat.beq len 1
        | _ => false
      | 17 => match ins with
        | .dup2 => Nat.beq len 1
        | _ => false
      | 18 => match ins with
        | .pop => Nat.beq len 1
        | _ => false
      | 20 => match ins with
        | .iaload => Nat.beq len 1
        | _ => false
      | 22 => match ins with
        | .arraylength => Nat.beq len 1
        | _ => false
      | 23 => match ins with
        | .iushr => Nat.beq len 1
        | _ => false
      | 19 => match ins with
        | .goto o => Nat.beq len 3 && decide ((pc : Int) + o = (a : Int))
        | _ => false
      | 21 => match ins with
        | .getstatic i => Nat.beq len 3 && (tb 5).contains (own, i, 0, 0)
        | _ => false
      | 24 => match ins with
        | .putfield i => Nat.beq len 3 && (tb 2).contains (own, i, b, a)
        | _ => false
      | 25 => match ins with
        | .invokestatic i => Nat.beq len 3 && (tb 6).contains (own, i, 0, 0)
        | _ => false
      | 26 => match ins with
        | .invokestatic i => Nat.beq len 3 && (tb 7).contains (own, i, 0, 0)
        | _ => false
      | 27 => match ins with
        | .aload_n j => Nat.beq len 1 && Nat.beq j.val a
        | .aload j => Nat.beq len 2 && Nat.beq j a
        | _ => false
      | 28 => match ins with
        | .ldc i => Nat.beq len 2 && ((tb 8).contains (own, i, a, 0) && decide (Int32.ofNat a = k))
        | .ldc_w i => Nat.beq len 3 && ((tb 8).contains (own, i, a, 0) && decide (Int32.ofNat a = k))
        | _ => false
      | 30 => match ins with
        | .ifCond cd o => Nat.beq len 3 && (decide (cd = zw_cnd b) && decide ((pc : Int) + o = (a : Int)))
        | _ => false
      | 31 => match ins with
        | .if_icmp cd o => Nat.beq len 3 && (decide (cd = zw_cnd b) && decide ((pc : Int) + o = (a : Int)))
        | _ => false
      | 32 => match ins with
        | .tableswitch df lo hi os => decide ((pc : Int) + df = (a : Int)) && (decide (sw = zw_tsw pc lo os.toList) && (decide (hi = lo + (os.size : Int) - 1) && (decide (-1000 ≤ lo ∧ lo ≤ 1000 ∧ os.size ≤ 1000) && os.toList.all (fun o => decide (0 ≤ (pc : Int) + o)))))
        | .lookupswitch df ps => decide ((pc : Int) + df = (a : Int)) && (decide (sw = ps.toList.map (fun y => (Int32.ofInt y.1, ((pc : Int) + y.2).toNat))) && ((ps.toList.zip (ps.toList.drop 1)).all (fun (a, next) => a.1 < next.1) && ps.toList.all (fun y => decide (0 ≤ (pc : Int) + y.2 ∧ -1000 ≤ y.1 ∧ y.1 ≤ 1000))))
        | _ => false
      | 33 => match ins with
        | .ireturn => Nat.beq len 1 && decide (ret = some .int)
        | _ => false
      | 34 => match ins with
        | .return_ => Nat.beq len 1 && decide (ret = none)
        | _ => false
      | 35 => match ins with
        | .invokestatic i => Nat.beq len 3 && ((tb 3).contains (own, i, a, b) && Nat.beq b (np a))
        | _ => false
      | 36 => match ins with
        | .invokevirtual i => Nat.beq len 3 && ((tb 4).contains (own, i, a, k.toNatClampNeg) && Nat.beq b (np a + 1))
        | _ => false
      | 37 => match ins with
        | .ireturn => Nat.beq len 1 && decide (ret = some .boolean)
        | _ => false
      | _ => false)
theorem zw_lvset {ls : Array Slot} {nL i : Nat} {v : zm_v} {lo : zm_L} {ad : Nat → Nat} (h : lv_has ls nL ((i, zw_v ad v) :: (zw_l ad lo).filter (fun q => !(q.1 == i) && !(q.1 + 1 == i && q.2.category == 2)))) (hs : zm_srt lo = true) : lv_has ls nL (zw_l ad (zm_set lo i v)) := by
  refine ⟨h.1, h.2.1, fun q hq => h.2.2 q ?_⟩
  obtain ⟨x, hx, rfl⟩ := List.mem_map.mp hq
  rcases (zm_set_srt hs).2 x hx with rfl | ⟨h1, h2⟩
  · exact List.mem_cons_self
  · refine List.mem_cons_of_mem _ (List.mem_filter.mpr ⟨List.mem_map.mpr ⟨x, h1, rfl⟩, ?_⟩)
    have hc : (zw_v ad x.2).category = 1 := by
      cases x.2 <;> rfl
    simp [h2, hc]
theorem zw_lvat {ls : Array Slot} {nL i : Nat} {v : zm_v} {lo : zm_L} {ad : Nat → Nat} (h : lv_has ls nL (zw_l ad lo)) (hg : zm_get lo i = some v) : ls[i]? = some (.val (zw_v ad v)) := h.2.2 _ (zw_lget hg)
theorem zw_all1 {b : Bool} (h : [b].all id = true) : b = true := by simpa using h
theorem zw_vin {i : Int32} {n : Nat} (h : [decide (0 ≤ i.toInt ∧ i.toInt < (n : Int))].all id = true) : vp_in i n := vp_in_iff.mpr (of_decide_eq_true (zw_all1 h))
section ZX
variable {p : Program} {l : Launch} {e : Env} {R : Room} {s : State} {m : MethodId} {args : Array Value} {below : List Frame} {meth : Method} {c : Code} {cells slots : Nat} {Q : State → Prop}
variable {sh : List zm_h} {X : zm_T} {ad : Nat → Nat} {cA cB : ClassId} {D : va_G} {cl : List vw_C} {big nest : List Cond} {tb : Nat → zw_Tb} {cn : Nat → String} {cc : ByteArray} {nL own : Nat} {ret : Option FieldType} {np : Nat → Nat}
variable {pc nx a b : Nat} {k : Int32} {sw : List (Int32 × Nat)} {lo lo' : zm_L} {st st' : List zm_v} {μ μ' : zm_u} {bs : List Bool} {pc' : Nat} {H : Heap} {locs : List Loc} {ls : Array Slot}
theorem zw_o0 (S : zw_C p m c cc nL s args big (cn own) sh X ad cA cB D cl nest) (K : zw_K cl big nest cn tb) (hR : 1 ≤ R.frames ∧ 40 ≤ R.locals ∧ cells ≤ R.cells ∧ slots ≤ R.slots) (hck : zw_ck cc own nL ret tb np (pc, nx, 0, a, b, k, sw) = true) (h : zm_s1 sh X (pc, nx, 0, a, b, k, sw) lo st μ = some (bs, pc', lo', st', μ')) (hb : bs.all id = true)
    (hP : va_P D cl (zw_W sh ad cA cB μ) H) (hS : va_S (zw_A sh ad) s.heap H locs) (hl : lv_has ls nL (zw_l ad lo)) (hs : zm_srt lo = true)
    (kk : ∀ (H1 : Heap) (locs1 : List Loc) (ls1 : Array Slot), va_P D cl (zw_W sh ad cA cB μ') H1 → va_S (zw_A sh ad) s.heap H1 locs1 → lv_has ls1 nL (zw_l ad lo') → zm_srt lo' = true → W p l e R s m args below meth c H1 locs1 cells slots Q (F0 m pc' ls1 (st'.map (zw_v ad)))) :
    W p l e R s m args below meth c H locs cells slots Q (F0 m pc ls (st.map (zw_v ad))) := by
  obtain ⟨hx, hc, hml, hown, hts, hF, hinj⟩ := S
  simp only [zw_ck] at hck
  split at hck
  · cases hck
  rename_i ins len hd
  rw [Bool.and_eq_true] at hck
  obtain ⟨hnx, hck⟩ := hck
  have hnx := Nat.eq_of_beq_eq_true hnx
  simp only [zm_s1] at h
  cases h
  split at hck
  · simp only [Bool.and_eq_true, decide_eq_true_eq] at hck
    obtain ⟨h1, h2⟩ := hck
    have h1 := Nat.eq_of_beq_eq_true h1
    subst h1
    subst hnx
    exact lv_iconst hx hc hd h2 (kk H locs ls hP hS hl hs)
  · simp only [Bool.and_eq_true, decide_eq_true_eq] at hck
    obtain ⟨h1, h2⟩ := hck
    have h1 := Nat.eq_of_beq_eq_true h1
    subst h1
    subst hnx
    exact lv_bipush hx hc hd h2 (kk H locs ls hP hS hl hs)
  · simp only [Bool.and_eq_true, decide_eq_true_eq] at hck
    obtain ⟨h1, h2⟩ := hck
    have h1 := Nat.eq_of_beq_eq_true h1
    subst h1
    subst hnx
    exact lv_sipush hx hc hd h2 (kk H locs ls hP hS hl hs)
  · cases hck
theorem zw_o1 (S : zw_C p m c cc nL s args big (cn own) sh X ad cA cB D cl nest) (K : zw_K cl big nest cn tb) (hR : 1 ≤ R.frames ∧ 40 ≤ R.locals ∧ cells ≤ R.cells ∧ slots ≤ R.slots) (hck : zw_ck cc own nL ret tb np (pc, nx, 1, a, b, k, sw) = true) (h : zm_s1 sh X (pc, nx, 1, a, b, k, sw) lo st μ = some (bs, pc', lo', st', μ')) (hb : bs.all id = true)
    (hP : va_P D cl (zw_W sh ad cA cB μ) H) (hS : va_S (zw_A sh ad) s.heap H locs) (hl : lv_has ls nL (zw_l ad lo)) (hs : zm_srt lo = true)
    (kk : ∀ (H1 : Heap) (locs1 : List Loc) (ls1 : Array Slot), va_P D cl (zw_W sh ad cA cB μ') H1 → va_S (zw_A sh ad) s.heap H1 locs1 → lv_has ls1 nL (zw_l ad lo') → zm_srt lo' = true → W p l e R s m args below meth c H1 locs1 cells slots Q (F0 m pc' ls1 (st'.map (zw_v ad)))) :
    W p l e R s m args below meth c H locs cells slots Q (F0 m pc ls (st.map (zw_v ad))) := by
  obtain ⟨hx, hc, hml, hown, hts, hF, hinj⟩ := S
  simp only [zw_ck] at hck
  split at hck
  · cases hck
  rename_i ins len hd
  rw [Bool.and_eq_true] at hck
  obtain ⟨hnx, hck⟩ := hck
  have hnx := Nat.eq_of_beq_eq_true hnx
  simp only [zm_s1] at h
  split at h
  · rename_i v hv
    cases h
    split at hck
    · rw [Bool.and_eq_true] at hck
      obtain ⟨h1, h2⟩ := hck
      have h1 := Nat.eq_of_beq_eq_true h1
      have h2 := Nat.eq_of_beq_eq_true h2
      subst h1
      subst hnx
      exact lv_iload_n hx hc hd h2 (zw_lvat hl hv) (kk H locs ls hP hS hl hs)
    · rw [Bool.and_eq_true] at hck
      obtain ⟨h1, h2⟩ := hck
      have h1 := Nat.eq_of_beq_eq_true h1
      have h2 := Nat.eq_of_beq_eq_true h2
      subst h1
      subst hnx
      subst h2
      exact lv_iload hx hc hd (zw_lvat hl hv) (kk H locs ls hP hS hl hs)
    · cases hck
  · cases h
theorem zw_o27 (S : zw_C p m c cc nL s args big (cn own) sh X ad cA cB D cl nest) (K : zw_K cl big nest cn tb) (hR : 1 ≤ R.frames ∧ 40 ≤ R.locals ∧ cells ≤ R.cells ∧ slots ≤ R.slots) (hck : zw_ck cc own nL ret tb np (pc, nx, 27, a, b, k, sw) = true) (h : zm_s1 sh X (pc, nx, 27, a, b, k, sw) lo st μ = some (bs, pc', lo', st', μ')) (hb : bs.all id = true)
    (hP : va_P D cl (zw_W sh ad cA cB μ) H) (hS : va_S (zw_A sh ad) s.heap H locs) (hl : lv_has ls nL (zw_l ad lo)) (hs : zm_srt lo = true)
    (kk : ∀ (H1 : Heap) (locs1 : List Loc) (ls1 : Array Slot), va_P D cl (zw_W sh ad cA cB μ') H1 → va_S (zw_A sh ad) s.heap H1 locs1 → lv_has ls1 nL (zw_l ad lo') → zm_srt lo' = true → W p l e R s m args below meth c H1 locs1 cells slots Q (F0 m pc' ls1 (st'.map (zw_v ad)))) :
    W p l e R s m args below meth c H locs cells slots Q (F0 m pc ls (st.map (zw_v ad))) := by
  obtain ⟨hx, hc, hml, hown, hts, hF, hinj⟩ := S
  simp only [zw_ck] at hck
  split at hck
  · cases hck
  rename_i ins len hd
  rw [Bool.and_eq_true] at hck
  obtain ⟨hnx, hck⟩ := hck
  have hnx := Nat.eq_of_beq_eq_true hnx
  simp only [zm_s1] at h
  split at h
  · rename_i v hv
    cases h
    split at hck
    · rw [Bool.and_eq_true] at hck
      obtain ⟨h1, h2⟩ := hck
      have h1 := Nat.eq_of_beq_eq_true h1
      have h2 := Nat.eq_of_beq_eq_true h2
      subst h1
      subst hnx
      exact lv_aload_n hx hc hd h2 (zw_lvat hl hv) (kk H locs ls hP hS hl hs)
    · rw [Bool.and_eq_true] at hck
      obtain ⟨h1, h2⟩ := hck
      have h1 := Nat.eq_of_beq_eq_true h1
      have h2 := Nat.eq_of_beq_eq_true h2
      subst h1
      subst hnx
      subst h2
      exact lv_aload hx hc hd (zw_lvat hl hv) (kk H locs ls hP hS hl hs)
    · cases hck
  · cases h
theorem zw_o2 (S : zw_C p m c cc nL s args big (cn own) sh X ad cA cB D cl nest) (K : zw_K cl big nest cn tb) (hR : 1 ≤ R.frames ∧ 40 ≤ R.locals ∧ cells ≤ R.cells ∧ slots ≤ R.slots) (hck : zw_ck cc own nL ret tb np (pc, nx, 2, a, b, k, sw) = true) (h : zm_s1 sh X (pc, nx, 2, a, b, k, sw) lo st μ = some (bs, pc', lo', st', μ')) (hb : bs.all id = true)
    (hP : va_P D cl (zw_W sh ad cA cB μ) H) (hS : va_S (zw_A sh ad) s.heap H locs) (hl : lv_has ls nL (zw_l ad lo)) (hs : zm_srt lo = true)
    (kk : ∀ (H1 : Heap) (locs1 : List Loc) (ls1 : Array Slot), va_P D cl (zw_W sh ad cA cB μ') H1 → va_S (zw_A sh ad) s.heap H1 locs1 → lv_has ls1 nL (zw_l ad lo') → zm_srt lo' = true → W p l e R s m args below meth c H1 locs1 cells slots Q (F0 m pc' ls1 (st'.map (zw_v ad)))) :
    W p l e R s m args below meth c H locs cells slots Q (F0 m pc ls (st.map (zw_v ad))) := by
  obtain ⟨hx, hc, hml, hown, hts, hF, hinj⟩ := S
  simp only [zw_ck] at hck
  split at hck
  · cases hck
  rename_i ins len hd
  rw [Bool.and_eq_true] at hck
  obtain ⟨hnx, hck⟩ := hck
  have hnx := Nat.eq_of_beq_eq_true hnx
  simp only [zm_s1] at h
  split at h
  · rename_i v r
    cases h
    split at hck
    · simp only [Bool.and_eq_true] at hck
      obtain ⟨h1, h2, h3⟩ := hck
      have h1 := Nat.eq_of_beq_eq_true h1
      have h2 := Nat.eq_of_beq_eq_true h2
      have h3 : a < nL := by simpa using h3
      subst h1
      subst hnx
      exact lv_istore_n hx hc hd h2 hl h3 rfl (fun ls1 hl1 => kk H locs ls1 hP hS (zw_lvset (v := .inl v) hl1 hs) (zm_set_srt hs).1)
    · simp only [Bool.and_eq_true] at hck
      obtain ⟨h1, h2, h3⟩ := hck
      have h1 := Nat.eq_of_beq_eq_true h1
      have h2 := Nat.eq_of_beq_eq_true h2
      have h3 : a < nL := by simpa using h3
      subst h1
      subst hnx
      subst h2
      exact lv_istore hx hc hd hl h3 rfl (fun ls1 hl1 => kk H locs ls1 hP hS (zw_lvset (v := .inl v) hl1 hs) (zm_set_srt hs).1)
    · cases hck
  · cases h
theorem zw_o3 (S : zw_C p m c cc nL s args big (cn own) sh X ad cA cB D cl nest) (K : zw_K cl big nest cn tb) (hR : 1 ≤ R.frames ∧ 40 ≤ R.locals ∧ cells ≤ R.cells ∧ slots ≤ R.slots) (hck : zw_ck cc own nL ret tb np (pc, nx, 3, a, b, k, sw) = true) (h : zm_s1 sh X (pc, nx, 3, a, b, k, sw) lo st μ = some (bs, pc', lo', st', μ')) (hb : bs.all id = true)
    (hP : va_P D cl (zw_W sh ad cA cB μ) H) (hS : va_S (zw_A sh ad) s.heap H locs) (hl : lv_has ls nL (zw_l ad lo)) (hs : zm_srt lo = true)
    (kk : ∀ (H1 : Heap) (locs1 : List Loc) (ls1 : Array Slot), va_P D cl (zw_W sh ad cA cB μ') H1 → va_S (zw_A sh ad) s.heap H1 locs1 → lv_has ls1 nL (zw_l ad lo') → zm_srt lo' = true → W p l e R s m args below meth c H1 locs1 cells slots Q (F0 m pc' ls1 (st'.map (zw_v ad)))) :
    W p l e R s m args below meth c H locs cells slots Q (F0 m pc ls (st.map (zw_v ad))) := by
  obtain ⟨hx, hc, hml, hown, hts, hF, hinj⟩ := S
  simp only [zw_ck] at hck
  split at hck
  · cases hck
  rename_i ins len hd
  rw [Bool.and_eq_true] at hck
  obtain ⟨hnx, hck⟩ := hck
  have hnx := Nat.eq_of_beq_eq_true hnx
  simp only [zm_s1] at h
  split at h
  · rename_i x hv
    cases h
    split at hck
    · simp only [Bool.and_eq_true, decide_eq_true_eq] at hck
      obtain ⟨h1, h2, h3, h4⟩ := hck
      have h1 := Nat.eq_of_beq_eq_true h1
      have h2 := Nat.eq_of_beq_eq_true h2
      have h3 : a < nL := by simpa using h3
      subst h1
      subst hnx
      subst h2
      subst h4
      obtain ⟨z, hz⟩ := List.getElem?_of_mem (zw_lget (ad := ad) hv)
      exact lv_iinc hx hc hd hl hz rfl h3 rfl (fun ls1 hl1 => kk H locs ls1 hP hS (zw_lvset (v := .inl _) hl1 hs) (zm_set_srt hs).1)
    · cases hck
  · cases h
theorem zw_o4 (S : zw_C p m c cc nL s args big (cn own) sh X ad cA cB D cl nest) (K : zw_K cl big nest cn tb) (hR : 1 ≤ R.frames ∧ 40 ≤ R.locals ∧ cells ≤ R.cells ∧ slots ≤ R.slots) (hck : zw_ck cc own nL ret tb np (pc, nx, 4, a, b, k, sw) = true) (h : zm_s1 sh X (pc, nx, 4, a, b, k, sw) lo st μ = some (bs, pc', lo', st', μ')) (hb : bs.all id = true)
    (hP : va_P D cl (zw_W sh ad cA cB μ) H) (hS : va_S (zw_A sh ad) s.heap H locs) (hl : lv_has ls nL (zw_l ad lo)) (hs : zm_srt lo = true)
    (kk : ∀ (H1 : Heap) (locs1 : List Loc) (ls1 : Array Slot), va_P D cl (zw_W sh ad cA cB μ') H1 → va_S (zw_A sh ad) s.heap H1 locs1 → lv_has ls1 nL (zw_l ad lo') → zm_srt lo' = true → W p l e R s m args below meth c H1 locs1 cells slots Q (F0 m pc' ls1 (st'.map (zw_v ad)))) :
    W p l e R s m args below meth c H locs cells slots Q (F0 m pc ls (st.map (zw_v ad))) := by
  obtain ⟨hx, hc, hml, hown, hts, hF, hinj⟩ := S
  simp only [zw_ck] at hck
  split at hck
  · cases hck
  rename_i ins len hd
  rw [Bool.and_eq_true] at hck
  obtain ⟨hnx, hck⟩ := hck
  have hnx := Nat.eq_of_beq_eq_true hnx
  simp only [zm_s1] at h
  split at h
  · rename_i j r
    split at h
    · rename_i ci fs hj
      split at h
      · rename_i hci
        have hci := Nat.eq_of_beq_eq_true hci
        subst hci
        split at hck
        · rw [Bool.and_eq_true] at hck
          obtain ⟨h1, h2⟩ := hck
          have h1 := Nat.eq_of_beq_eq_true h1
          subst h1
          subst hnx
          have h2 := List.contains_iff_mem.mp h2
          obtain ⟨C, T, N, g1, g2, g3, g4⟩ := K.1 _ h2
          have hw := zw_at (ad := ad) (cA := cA) (cB := cB) (μ := μ) hj
          have key : ∀ v : Value, (fs.mapIdx (zw_f ad μ j))[a]? = some v → W p l e R s m args below meth c H locs cells slots Q (F0 m (pc + 3) ls (v :: r.map (zw_v ad))) → W p l e R s m args below meth c H locs cells slots Q (F0 m pc ls (.ref (ad j) :: r.map (zw_v ad))) := by
            intro v hv kv
            rcases g4 with g4 | ⟨ho, g4⟩
            · exact va_get hx hc hts (K.2.2.2.1 _ _ g1).1 hown hF.1 hP j hw g1 a g2 (hts _ g4) (fun x q => by rw [← g3]; exact q) hv hd kv
            · exact va_getN hx hc hts (K.2.2.2.1 _ _ g1).1 hown hF.1 hP j hw g1 a g2 (va_Nw.use rfl (hF.2.1 _ g4)) (fun x q => by rw [← g3]; exact q) hv hd kv
          split at h
          · rename_i hf
            cases h
            exact key _ (by rw [List.getElem?_mapIdx, hf]; rfl) (kk H locs ls hP hS hl hs)
          · rename_i t hf
            cases h
            exact key _ (by rw [List.getElem?_mapIdx, hf]; rfl) (kk H locs ls hP hS hl hs)
          · cases h
        · cases hck
      · cases h
    · cases h
  · cases h
theorem zw_o5 (S : zw_C p m c cc nL s args big (cn own) sh X ad cA cB D cl nest) (K : zw_K cl big nest cn tb) (hR : 1 ≤ R.frames ∧ 40 ≤ R.locals ∧ cells ≤ R.cells ∧ slots ≤ R.slots) (hck : zw_ck cc own nL ret tb np (pc, nx, 5, a, b, k, sw) = true) (h : zm_s1 sh X (pc, nx, 5, a, b, k, sw) lo st μ = some (bs, pc', lo', st', μ')) (hb : bs.all id = true)
    (hP : va_P D cl (zw_W sh ad cA cB μ) H) (hS : va_S (zw_A sh ad) s.heap H locs) (hl : lv_has ls nL (zw_l ad lo)) (hs : zm_srt lo = true)
    (kk : ∀ (H1 : Heap) (locs1 : List Loc) (ls1 : Array Slot), va_P D cl (zw_W sh ad cA cB μ') H1 → va_S (zw_A sh ad) s.heap H1 locs1 → lv_has ls1 nL (zw_l ad lo') → zm_srt lo' = true → W p l e R s m args below meth c H1 locs1 cells slots Q (F0 m pc' ls1 (st'.map (zw_v ad)))) :
    W p l e R s m args below meth c H locs cells slots Q (F0 m pc ls (st.map (zw_v ad))) := by
  obtain ⟨hx, hc, hml, hown, hts, hF, hinj⟩ := S
  simp only [zw_ck] at hck
  split at hck
  · cases hck
  rename_i ins len hd
  rw [Bool.and_eq_true] at hck
  obtain ⟨hnx, hck⟩ := hck
  have hnx := Nat.eq_of_beq_eq_true hnx
  simp only [zm_s1] at h
  split at h
  · rename_i x j r
    split at h
    · rename_i ci fs hj
      split at h
      · rename_i hci
        have hci := Nat.eq_of_beq_eq_true hci
        subst hci
        split at hck
        · rw [Bool.and_eq_true] at hck
          obtain ⟨h1, h2⟩ := hck
          have h1 := Nat.eq_of_beq_eq_true h1
          subst h1
          subst hnx
          have h2 := List.contains_iff_mem.mp h2
          obtain ⟨⟨C, T, N, g1, g2, g3, g4⟩, C', T', N', g1', g5, g6⟩ := K.2.1 _ h2
          have e0 := g1.symm.trans g1'
          cases e0
          have hw := zw_at (ad := ad) (cA := cA) (cB := cB) (μ := μ) hj
          obtain ⟨k1, ⟨ty, k2⟩, k3⟩ := K.2.2.2.1 _ _ g1
          split at h
          · rename_i hf
            cases h
            have hfl : a < (fs.mapIdx (zw_f ad μ j)).length := by
              rw [List.length_mapIdx]
              exact (List.getElem?_eq_some_iff.mp hf).1
            have hty : parseFieldDescriptor (T a).2.2.1 = some .int := by rw [show (T a).2.2.1 = _ from g6]; rfl
            have fin : ∀ (H1 : Heap) (locs1 : List Loc), va_P D cl ((zw_W sh ad cA cB μ).set j (ad j, .inr (ci, (fs.mapIdx (zw_f ad μ j)).set a (.int x)))) H1 → va_D (zw_A sh ad) ((zw_W sh ad cA cB μ).set j (ad j, .inr (ci, (fs.mapIdx (zw_f ad μ j)).set a (.int x)))) → va_S (zw_A sh ad) s.heap H1 locs1 → W p l e R s m args below meth c H1 locs1 cells slots Q (F0 m (pc + 3) ls (st'.map (zw_v ad))) := by
              intro H1 locs1 hP1 _ hS1
              rw [zw_setf hj hf] at hP1
              exact kk H1 locs1 ls hP1 hS1 hl hs
            rcases g4 with g4 | ⟨ho, g4⟩
            · exact va_put hx hc hts k1 ty k2 k3 hown hF.1 hP (zw_D hinj) hS j hw g1 a g2 (hts _ g4) (fun x q => by rw [← g3]; exact q) g5 hty rfl rfl hfl hd fin
            · exact va_putN hx hc hts k1 ty k2 k3 hown hF.1 hP (zw_D hinj) hS j hw g1 a g2 (va_Nw.use rfl (hF.2.1 _ g4)) (fun x q => by rw [← g3]; exact q) g5 hty rfl rfl hfl hd fin
          · cases h
        · cases hck
      · cases h
    · cases h
  · cases h
theorem zw_o24 (S : zw_C p m c cc nL s args big (cn own) sh X ad cA cB D cl nest) (K : zw_K cl big nest cn tb) (hR : 1 ≤ R.frames ∧ 40 ≤ R.locals ∧ cells ≤ R.cells ∧ slots ≤ R.slots) (hck : zw_ck cc own nL ret tb np (pc, nx, 24, a, b, k, sw) = true) (h : zm_s1 sh X (pc, nx, 24, a, b, k, sw) lo st μ = some (bs, pc', lo', st', μ')) (hb : bs.all id = true)
    (hP : va_P D cl (zw_W sh ad cA cB μ) H) (hS : va_S (zw_A sh ad) s.heap H locs) (hl : lv_has ls nL (zw_l ad lo)) (hs : zm_srt lo = true)
    (kk : ∀ (H1 : Heap) (locs1 : List Loc) (ls1 : Array Slot), va_P D cl (zw_W sh ad cA cB μ') H1 → va_S (zw_A sh ad) s.heap H1 locs1 → lv_has ls1 nL (zw_l ad lo') → zm_srt lo' = true → W p l e R s m args below meth c H1 locs1 cells slots Q (F0 m pc' ls1 (st'.map (zw_v ad)))) :
    W p l e R s m args below meth c H locs cells slots Q (F0 m pc ls (st.map (zw_v ad))) := by
  obtain ⟨hx, hc, hml, hown, hts, hF, hinj⟩ := S
  simp only [zw_ck] at hck
  split at hck
  · cases hck
  rename_i ins len hd
  rw [Bool.and_eq_true] at hck
  obtain ⟨hnx, hck⟩ := hck
  have hnx := Nat.eq_of_beq_eq_true hnx
  simp only [zm_s1] at h
  split at h
  · rename_i x j r
    split at h
    · rename_i ci fs hj
      split at h
      · rename_i hci
        have hci := Nat.eq_of_beq_eq_true hci
        subst hci
        split at hck
        · rw [Bool.and_eq_true] at hck
          obtain ⟨h1, h2⟩ := hck
          have h1 := Nat.eq_of_beq_eq_true h1
          subst h1
          subst hnx
          have h2 := List.contains_iff_mem.mp h2
          obtain ⟨⟨C, T, N, g1, g2, g3, g4⟩, C', T', N', g1', g5, g6⟩ := K.2.2.1 _ h2
          have e0 := g1.symm.trans g1'
          cases e0
          have hw := zw_at (ad := ad) (cA := cA) (cB := cB) (μ := μ) hj
          obtain ⟨k1, ⟨ty, k2⟩, k3⟩ := K.2.2.2.1 _ _ g1
          split at h
          · rename_i hf
            cases h
            have hv : x = 0 ∨ x = 1 := of_decide_eq_true (zw_all1 hb)
            have hfl : a < (fs.mapIdx (zw_f ad μ j)).length := by
              rw [List.length_mapIdx]
              exact (List.getElem?_eq_some_iff.mp hf).1
            have hty : parseFieldDescriptor (T a).2.2.1 = some .boolean := by rw [show (T a).2.2.1 = _ from g6]; rfl
            have fin : ∀ (H1 : Heap) (locs1 : List Loc), va_P D cl ((zw_W sh ad cA cB μ).set j (ad j, .inr (ci, (fs.mapIdx (zw_f ad μ j)).set a (.int x)))) H1 → va_D (zw_A sh ad) ((zw_W sh ad cA cB μ).set j (ad j, .inr (ci, (fs.mapIdx (zw_f ad μ j)).set a (.int x)))) → va_S (zw_A sh ad) s.heap H1 locs1 → W p l e R s m args below meth c H1 locs1 cells slots Q (F0 m (pc + 3) ls (st'.map (zw_v ad))) := by
              intro H1 locs1 hP1 _ hS1
              rw [zw_setf hj hf] at hP1
              exact kk H1 locs1 ls hP1 hS1 hl hs
            rcases g4 with g4 | ⟨ho, g4⟩
            · exact va_put hx hc hts k1 ty k2 k3 hown hF.1 hP (zw_D hinj) hS j hw g1 a g2 (hts _ g4) (fun x q => by rw [← g3]; exact q) g5 hty (by rcases hv with rfl | rfl <;> rfl) (by rcases hv with rfl | rfl <;> rfl) hfl hd fin
            · exact va_putN hx hc hts k1 ty k2 k3 hown hF.1 hP (zw_D hinj) hS j hw g1 a g2 (va_Nw.use rfl (hF.2.1 _ g4)) (fun x q => by rw [← g3]; exact q) g5 hty (by rcases hv with rfl | rfl <;> rfl) (by rcases hv with rfl | rfl <;> rfl) hfl hd fin
          · cases h
        · cases hck
      · cases h
    · cases h
  · cases h
theorem zw_o6 (S : zw_C p m c cc nL s args big (cn own) sh X ad cA cB D cl nest) (K : zw_K cl big nest cn tb) (hR : 1 ≤ R.frames ∧ 40 ≤ R.locals ∧ cells ≤ R.cells ∧ slots ≤ R.slots) (hck : zw_ck cc own nL ret tb np (pc, nx, 6, a, b, k, sw) = true) (h : zm_s1 sh X (pc, nx, 6, a, b, k, sw) lo st μ = some (bs, pc', lo', st', μ')) (hb : bs.all id = true)
    (hP : va_P D cl (zw_W sh ad cA cB μ) H) (hS : va_S (zw_A sh ad) s.heap H locs) (hl : lv_has ls nL (zw_l ad lo)) (hs : zm_srt lo = true)
    (kk : ∀ (H1 : Heap) (locs1 : List Loc) (ls1 : Array Slot), va_P D cl (zw_W sh ad cA cB μ') H1 → va_S (zw_A sh ad) s.heap H1 locs1 → lv_has ls1 nL (zw_l ad lo') → zm_srt lo' = true → W p l e R s m args below meth c H1 locs1 cells slots Q (F0 m pc' ls1 (st'.map (zw_v ad)))) :
    W p l e R s m args below meth c H locs cells slots Q (F0 m pc ls (st.map (zw_v ad))) := by
  obtain ⟨hx, hc, hml, hown, hts, hF, hinj⟩ := S
  simp only [zw_ck] at hck
  split at hck
  · cases hck
  rename_i ins len hd
  rw [Bool.and_eq_true] at hck
  obtain ⟨hnx, hck⟩ := hck
  have hnx := Nat.eq_of_beq_eq_true hnx
  simp only [zm_s1] at h
  split at h
  · rename_i i j r
    split at h
    · rename_i n hj
      cases h
      split at hck
      · have h1 := Nat.eq_of_beq_eq_true hck
        subst h1
        subst hnx
        exact va_iald hx hc hF.1 hP j 0 (zw_at hj) rfl (zw_vin hb) hd (kk H locs ls hP hS hl hs)
      · cases hck
    · cases h
  · cases h
theorem zw_o8 (S : zw_C p m c cc nL s args big (cn own) sh X ad cA cB D cl nest) (K : zw_K cl big nest cn tb) (hR : 1 ≤ R.frames ∧ 40 ≤ R.locals ∧ cells ≤ R.cells ∧ slots ≤ R.slots) (hck : zw_ck cc own nL ret tb np (pc, nx, 8, a, b, k, sw) = true) (h : zm_s1 sh X (pc, nx, 8, a, b, k, sw) lo st μ = some (bs, pc', lo', st', μ')) (hb : bs.all id = true)
    (hP : va_P D cl (zw_W sh ad cA cB μ) H) (hS : va_S (zw_A sh ad) s.heap H locs) (hl : lv_has ls nL (zw_l ad lo)) (hs : zm_srt lo = true)
    (kk : ∀ (H1 : Heap) (locs1 : List Loc) (ls1 : Array Slot), va_P D cl (zw_W sh ad cA cB μ') H1 → va_S (zw_A sh ad) s.heap H1 locs1 → lv_has ls1 nL (zw_l ad lo') → zm_srt lo' = true → W p l e R s m args below meth c H1 locs1 cells slots Q (F0 m pc' ls1 (st'.map (zw_v ad)))) :
    W p l e R s m args below meth c H locs cells slots Q (F0 m pc ls (st.map (zw_v ad))) := by
  obtain ⟨hx, hc, hml, hown, hts, hF, hinj⟩ := S
  simp only [zw_ck] at hck
  split at hck
  · cases hck
  rename_i ins len hd
  rw [Bool.and_eq_true] at hck
  obtain ⟨hnx, hck⟩ := hck
  have hnx := Nat.eq_of_beq_eq_true hnx
  simp only [zm_s1] at h
  split at h
  · rename_i i j r
    split at h
    · rename_i n hj
      cases h
      split at hck
      · have h1 := Nat.eq_of_beq_eq_true hck
        subst h1
        subst hnx
        exact va_zald hx hc hF.1 hP j 1 (zw_at hj) rfl (zw_vin hb) hd (kk H locs ls hP hS hl hs)
      · cases hck
    · cases h
  · cases h
theorem zw_o7 (S : zw_C p m c cc nL s args big (cn own) sh X ad cA cB D cl nest) (K : zw_K cl big nest cn tb) (hR : 1 ≤ R.frames ∧ 40 ≤ R.locals ∧ cells ≤ R.cells ∧ slots ≤ R.slots) (hck : zw_ck cc own nL ret tb np (pc, nx, 7, a, b, k, sw) = true) (h : zm_s1 sh X (pc, nx, 7, a, b, k, sw) lo st μ = some (bs, pc', lo', st', μ')) (hb : bs.all id = true)
    (hP : va_P D cl (zw_W sh ad cA cB μ) H) (hS : va_S (zw_A sh ad) s.heap H locs) (hl : lv_has ls nL (zw_l ad lo)) (hs : zm_srt lo = true)
    (kk : ∀ (H1 : Heap) (locs1 : List Loc) (ls1 : Array Slot), va_P D cl (zw_W sh ad cA cB μ') H1 → va_S (zw_A sh ad) s.heap H1 locs1 → lv_has ls1 nL (zw_l ad lo') → zm_srt lo' = true → W p l e R s m args below meth c H1 locs1 cells slots Q (F0 m pc' ls1 (st'.map (zw_v ad)))) :
    W p l e R s m args below meth c H locs cells slots Q (F0 m pc ls (st.map (zw_v ad))) := by
  obtain ⟨hx, hc, hml, hown, hts, hF, hinj⟩ := S
  simp only [zw_ck] at hck
  split at hck
  · cases hck
  rename_i ins len hd
  rw [Bool.and_eq_true] at hck
  obtain ⟨hnx, hck⟩ := hck
  have hnx := Nat.eq_of_beq_eq_true hnx
  simp only [zm_s1] at h
  split at h
  · rename_i x i j r
    split at h
    · rename_i n hj
      cases h
      split at hck
      · have h1 := Nat.eq_of_beq_eq_true hck
        subst h1
        subst hnx
        refine va_iast hx hc hF.1 hP (zw_D hinj) hS j 0 (zw_at hj) rfl (zw_vin hb) hd (fun H1 locs1 hP1 _ hS1 => ?_)
        have e1 := zw_seta (ad := ad) (cA := cA) (cB := cB) (μ := μ) hj i.toNatClampNeg x
        have hP2 : va_P D cl (zw_W sh ad cA cB (zm_up μ j i.toNatClampNeg x)) H1 := by
          rw [← e1]
          exact hP1
        exact kk H1 locs1 ls hP2 hS1 hl hs
      · cases hck
    · cases h
  · cases h
theorem zw_o9 (S : zw_C p m c cc nL s args big (cn own) sh X ad cA cB D cl nest) (K : zw_K cl big nest cn tb) (hR : 1 ≤ R.frames ∧ 40 ≤ R.locals ∧ cells ≤ R.cells ∧ slots ≤ R.slots) (hck : zw_ck cc own nL ret tb np (pc, nx, 9, a, b, k, sw) = true) (h : zm_s1 sh X (pc, nx, 9, a, b, k, sw) lo st μ = some (bs, pc', lo', st', μ')) (hb : bs.all id = true)
    (hP : va_P D cl (zw_W sh ad cA cB μ) H) (hS : va_S (zw_A sh ad) s.heap H locs) (hl : lv_has ls nL (zw_l ad lo)) (hs : zm_srt lo = true)
    (kk : ∀ (H1 : Heap) (locs1 : List Loc) (ls1 : Array Slot), va_P D cl (zw_W sh ad cA cB μ') H1 → va_S (zw_A sh ad) s.heap H1 locs1 → lv_has ls1 nL (zw_l ad lo') → zm_srt lo' = true → W p l e R s m args below meth c H1 locs1 cells slots Q (F0 m pc' ls1 (st'.map (zw_v ad)))) :
    W p l e R s m args below meth c H locs cells slots Q (F0 m pc ls (st.map (zw_v ad))) := by
  obtain ⟨hx, hc, hml, hown, hts, hF, hinj⟩ := S
  simp only [zw_ck] at hck
  split at hck
  · cases hck
  rename_i ins len hd
  rw [Bool.and_eq_true] at hck
  obtain ⟨hnx, hck⟩ := hck
  have hnx := Nat.eq_of_beq_eq_true hnx
  simp only [zm_s1] at h
  split at h
  · rename_i x i j r
    split at h
    · rename_i n hj
      cases h
      split at hck
      · have h1 := Nat.eq_of_beq_eq_true hck
        subst h1
        subst hnx
        simp only [List.all_cons, List.all_nil, Bool.and_true, id, Bool.and_eq_true, decide_eq_true_eq] at hb
        obtain ⟨hi, hv⟩ := hb
        refine va_zast hx hc hF.1 hP (zw_D hinj) hS j 1 (zw_at hj) rfl (vp_in_iff.mpr hi) hd (fun H1 locs1 hP1 _ hS1 => ?_)
        have hz : vp_nar .boolean x = x := by rcases hv with rfl | rfl <;> rfl
        rw [hz] at hP1
        have e1 := zw_seta (ad := ad) (cA := cA) (cB := cB) (μ := μ) hj i.toNatClampNeg x
        have hP2 : va_P D cl (zw_W sh ad cA cB (zm_up μ j i.toNatClampNeg x)) H1 := by
          rw [← e1]
          exact hP1
        exact kk H1 locs1 ls hP2 hS1 hl hs
      · cases hck
    · cases h
  · cases h
theorem zw_o10 (S : zw_C p m c cc nL s args big (cn own) sh X ad cA cB D cl nest) (K : zw_K cl big nest cn tb) (hR : 1 ≤ R.frames ∧ 40 ≤ R.locals ∧ cells ≤ R.cells ∧ slots ≤ R.slots) (hck : zw_ck cc own nL ret tb np (pc, nx, 10, a, b, k, sw) = true) (h : zm_s1 sh X (pc, nx, 10, a, b, k, sw) lo st μ = some (bs, pc', lo', st', μ')) (hb : bs.all id = true)
    (hP : va_P D cl (zw_W sh ad cA cB μ) H) (hS : va_S (zw_A sh ad) s.heap H locs) (hl : lv_has ls nL (zw_l ad lo)) (hs : zm_srt lo = true)
    (kk : ∀ (H1 : Heap) (locs1 : List Loc) (ls1 : Array Slot), va_P D cl (zw_W sh ad cA cB μ') H1 → va_S (zw_A sh ad) s.heap H1 locs1 → lv_has ls1 nL (zw_l ad lo') → zm_srt lo' = true → W p l e R s m args below meth c H1 locs1 cells slots Q (F0 m pc' ls1 (st'.map (zw_v ad)))) :
    W p l e R s m args below meth c H locs cells slots Q (F0 m pc ls (st.map (zw_v ad))) := by
  obtain ⟨hx, hc, hml, hown, hts, hF, hinj⟩ := S
  simp only [zw_ck] at hck
  split at hck
  · cases hck
  rename_i ins len hd
  rw [Bool.and_eq_true] at hck
  obtain ⟨hnx, hck⟩ := hck
  have hnx := Nat.eq_of_beq_eq_true hnx
  simp only [zm_s1] at h
  split at h
  · rename_i y x r
    cases h
    split at hck
    · have h1 := Nat.eq_of_beq_eq_true hck
      subst h1
      subst hnx
      exact lv_iadd hx hc hd (kk H locs ls hP hS hl hs)
    · cases hck
  · cases h
theorem zw_o11 (S : zw_C p m c cc nL s args big (cn own) sh X ad cA cB D cl nest) (K : zw_K cl big nest cn tb) (hR : 1 ≤ R.frames ∧ 40 ≤ R.locals ∧ cells ≤ R.cells ∧ slots ≤ R.slots) (hck : zw_ck cc own nL ret tb np (pc, nx, 11, a, b, k, sw) = true) (h : zm_s1 sh X (pc, nx, 11, a, b, k, sw) lo st μ = some (bs, pc', lo', st', μ')) (hb : bs.all id = true)
    (hP : va_P D cl (zw_W sh ad cA cB μ) H) (hS : va_S (zw_A sh ad) s.heap H locs) (hl : lv_has ls nL (zw_l ad lo)) (hs : zm_srt lo = true)
    (kk : ∀ (H1 : Heap) (locs1 : List Loc) (ls1 : Array Slot), va_P D cl (zw_W sh ad cA cB μ') H1 → va_S (zw_A sh ad) s.heap H1 locs1 → lv_has ls1 nL (zw_l ad lo') → zm_srt lo' = true → W p l e R s m args below meth c H1 locs1 cells slots Q (F0 m pc' ls1 (st'.map (zw_v ad)))) :
    W p l e R s m args below meth c H locs cells slots Q (F0 m pc ls (st.map (zw_v ad))) := by
  obtain ⟨hx, hc, hml, hown, hts, hF, hinj⟩ := S
  simp only [zw_ck] at hck
  split at hck
  · cases hck
  rename_i ins len hd
  rw [Bool.and_eq_true] at hck
  obtain ⟨hnx, hck⟩ := hck
  have hnx := Nat.eq_of_beq_eq_true hnx
  simp only [zm_s1] at h
  split at h
  · rename_i y x r
    cases h
    split at hck
    · have h1 := Nat.eq_of_beq_eq_true hck
      subst h1
      subst hnx
      exact lv_isub hx hc hd (kk H locs ls hP hS hl hs)
    · cases hck
  · cases h
theorem zw_o12 (S : zw_C p m c cc nL s args big (cn own) sh X ad cA cB D cl nest) (K : zw_K cl big nest cn tb) (hR : 1 ≤ R.frames ∧ 40 ≤ R.locals ∧ cells ≤ R.cells ∧ slots ≤ R.slots) (hck : zw_ck cc own nL ret tb np (pc, nx, 12, a, b, k, sw) = true) (h : zm_s1 sh X (pc, nx, 12, a, b, k, sw) lo st μ = some (bs, pc', lo', st', μ')) (hb : bs.all id = true)
    (hP : va_P D cl (zw_W sh ad cA cB μ) H) (hS : va_S (zw_A sh ad) s.heap H locs) (hl : lv_has ls nL (zw_l ad lo)) (hs : zm_srt lo = true)
    (kk : ∀ (H1 : Heap) (locs1 : List Loc) (ls1 : Array Slot), va_P D cl (zw_W sh ad cA cB μ') H1 → va_S (zw_A sh ad) s.heap H1 locs1 → lv_has ls1 nL (zw_l ad lo') → zm_srt lo' = true → W p l e R s m args below meth c H1 locs1 cells slots Q (F0 m pc' ls1 (st'.map (zw_v ad)))) :
    W p l e R s m args below meth c H locs cells slots Q (F0 m pc ls (st.map (zw_v ad))) := by
  obtain ⟨hx, hc, hml, hown, hts, hF, hinj⟩ := S
  simp only [zw_ck] at hck
  split at hck
  · cases hck
  rename_i ins len hd
  rw [Bool.and_eq_true] at hck
  obtain ⟨hnx, hck⟩ := hck
  have hnx := Nat.eq_of_beq_eq_true hnx
  simp only [zm_s1] at h
  split at h
  · rename_i y x r
    cases h
    split at hck
    · have h1 := Nat.eq_of_beq_eq_true hck
      subst h1
      subst hnx
      exact lv_imul hx hc hd (kk H locs ls hP hS hl hs)
    · cases hck
  · cases h
theorem zw_o13 (S : zw_C p m c cc nL s args big (cn own) sh X ad cA cB D cl nest) (K : zw_K cl big nest cn tb) (hR : 1 ≤ R.frames ∧ 40 ≤ R.locals ∧ cells ≤ R.cells ∧ slots ≤ R.slots) (hck : zw_ck cc own nL ret tb np (pc, nx, 13, a, b, k, sw) = true) (h : zm_s1 sh X (pc, nx, 13, a, b, k, sw) lo st μ = some (bs, pc', lo', st', μ')) (hb : bs.all id = true)
    (hP : va_P D cl (zw_W sh ad cA cB μ) H) (hS : va_S (zw_A sh ad) s.heap H locs) (hl : lv_has ls nL (zw_l ad lo)) (hs : zm_srt lo = true)
    (kk : ∀ (H1 : Heap) (locs1 : List Loc) (ls1 : Array Slot), va_P D cl (zw_W sh ad cA cB μ') H1 → va_S (zw_A sh ad) s.heap H1 locs1 → lv_has ls1 nL (zw_l ad lo') → zm_srt lo' = true → W p l e R s m args below meth c H1 locs1 cells slots Q (F0 m pc' ls1 (st'.map (zw_v ad)))) :
    W p l e R s m args below meth c H locs cells slots Q (F0 m pc ls (st.map (zw_v ad))) := by
  obtain ⟨hx, hc, hml, hown, hts, hF, hinj⟩ := S
  simp only [zw_ck] at hck
  split at hck
  · cases hck
  rename_i ins len hd
  rw [Bool.and_eq_true] at hck
  obtain ⟨hnx, hck⟩ := hck
  have hnx := Nat.eq_of_beq_eq_true hnx
  simp only [zm_s1] at h
  split at h
  · rename_i y x r
    cases h
    split at hck
    · have h1 := Nat.eq_of_beq_eq_true hck
      subst h1
      subst hnx
      exact lv_iand hx hc hd (kk H locs ls hP hS hl hs)
    · cases hck
  · cases h
theorem zw_o14 (S : zw_C p m c cc nL s args big (cn own) sh X ad cA cB D cl nest) (K : zw_K cl big nest cn tb) (hR : 1 ≤ R.frames ∧ 40 ≤ R.locals ∧ cells ≤ R.cells ∧ slots ≤ R.slots) (hck : zw_ck cc own nL ret tb np (pc, nx, 14, a, b, k, sw) = true) (h : zm_s1 sh X (pc, nx, 14, a, b, k, sw) lo st μ = some (bs, pc', lo', st', μ')) (hb : bs.all id = true)
    (hP : va_P D cl (zw_W sh ad cA cB μ) H) (hS : va_S (zw_A sh ad) s.heap H locs) (hl : lv_has ls nL (zw_l ad lo)) (hs : zm_srt lo = true)
    (kk : ∀ (H1 : Heap) (locs1 : List Loc) (ls1 : Array Slot), va_P D cl (zw_W sh ad cA cB μ') H1 → va_S (zw_A sh ad) s.heap H1 locs1 → lv_has ls1 nL (zw_l ad lo') → zm_srt lo' = true → W p l e R s m args below meth c H1 locs1 cells slots Q (F0 m pc' ls1 (st'.map (zw_v ad)))) :
    W p l e R s m args below meth c H locs cells slots Q (F0 m pc ls (st.map (zw_v ad))) := by
  obtain ⟨hx, hc, hml, hown, hts, hF, hinj⟩ := S
  simp only [zw_ck] at hck
  split at hck
  · cases hck
  rename_i ins len hd
  rw [Bool.and_eq_true] at hck
  obtain ⟨hnx, hck⟩ := hck
  have hnx := Nat.eq_of_beq_eq_true hnx
  simp only [zm_s1] at h
  split at h
  · rename_i y x r
    cases h
    split at hck
    · have h1 := Nat.eq_of_beq_eq_true hck
      subst h1
      subst hnx
      exact lv_ishl hx hc hd (kk H locs ls hP hS hl hs)
    · cases hck
  · cases h
theorem zw_o15 (S : zw_C p m c cc nL s args big (cn own) sh X ad cA cB D cl nest) (K : zw_K cl big nest cn tb) (hR : 1 ≤ R.frames ∧ 40 ≤ R.locals ∧ cells ≤ R.cells ∧ slots ≤ R.slots) (hck : zw_ck cc own nL ret tb np (pc, nx, 15, a, b, k, sw) = true) (h : zm_s1 sh X (pc, nx, 15, a, b, k, sw) lo st μ = some (bs, pc', lo', st', μ')) (hb : bs.all id = true)
    (hP : va_P D cl (zw_W sh ad cA cB μ) H) (hS : va_S (zw_A sh ad) s.heap H locs) (hl : lv_has ls nL (zw_l ad lo)) (hs : zm_srt lo = true)
    (kk : ∀ (H1 : Heap) (locs1 : List Loc) (ls1 : Array Slot), va_P D cl (zw_W sh ad cA cB μ') H1 → va_S (zw_A sh ad) s.heap H1 locs1 → lv_has ls1 nL (zw_l ad lo') → zm_srt lo' = true → W p l e R s m args below meth c H1 locs1 cells slots Q (F0 m pc' ls1 (st'.map (zw_v ad)))) :
    W p l e R s m args below meth c H locs cells slots Q (F0 m pc ls (st.map (zw_v ad))) := by
  obtain ⟨hx, hc, hml, hown, hts, hF, hinj⟩ := S
  simp only [zw_ck] at hck
  split at hck
  · cases hck
  rename_i ins len hd
  rw [Bool.and_eq_true] at hck
  obtain ⟨hnx, hck⟩ := hck
  have hnx := Nat.eq_of_beq_eq_true hnx
  simp only [zm_s1] at h
  split at h
  · rename_i y x r
    cases h
    split at hck
    · have h1 := Nat.eq_of_beq_eq_true hck
      subst h1
      subst hnx
      exact lv_ishr hx hc hd (kk H locs ls hP hS hl hs)
    · cases hck
  · cases h
theorem zw_o23 (S : zw_C p m c cc nL s args big (cn own) sh X ad cA cB D cl nest) (K : zw_K cl big nest cn tb) (hR : 1 ≤ R.frames ∧ 40 ≤ R.locals ∧ cells ≤ R.cells ∧ slots ≤ R.slots) (hck : zw_ck cc own nL ret tb np (pc, nx, 23, a, b, k, sw) = true) (h : zm_s1 sh X (pc, nx, 23, a, b, k, sw) lo st μ = some (bs, pc', lo', st', μ')) (hb : bs.all id = true)
    (hP : va_P D cl (zw_W sh ad cA cB μ) H) (hS : va_S (zw_A sh ad) s.heap H locs) (hl : lv_has ls nL (zw_l ad lo)) (hs : zm_srt lo = true)
    (kk : ∀ (H1 : Heap) (locs1 : List Loc) (ls1 : Array Slot), va_P D cl (zw_W sh ad cA cB μ') H1 → va_S (zw_A sh ad) s.heap H1 locs1 → lv_has ls1 nL (zw_l ad lo') → zm_srt lo' = true → W p l e R s m args below meth c H1 locs1 cells slots Q (F0 m pc' ls1 (st'.map (zw_v ad)))) :
    W p l e R s m args below meth c H locs cells slots Q (F0 m pc ls (st.map (zw_v ad))) := by
  obtain ⟨hx, hc, hml, hown, hts, hF, hinj⟩ := S
  simp only [zw_ck] at hck
  split at hck
  · cases hck
  rename_i ins len hd
  rw [Bool.and_eq_true] at hck
  obtain ⟨hnx, hck⟩ := hck
  have hnx := Nat.eq_of_beq_eq_true hnx
  simp only [zm_s1] at h
  split at h
  · rename_i y x r
    cases h
    split at hck
    · have h1 := Nat.eq_of_beq_eq_true hck
      subst h1
      subst hnx
      exact lv_iushr hx hc hd rfl (kk H locs ls hP hS hl hs)
    · cases hck
  · cases h
theorem zw_o16 (S : zw_C p m c cc nL s args big (cn own) sh X ad cA cB D cl nest) (K : zw_K cl big nest cn tb) (hR : 1 ≤ R.frames ∧ 40 ≤ R.locals ∧ cells ≤ R.cells ∧ slots ≤ R.slots) (hck : zw_ck cc own nL ret tb np (pc, nx, 16, a, b, k, sw) = true) (h : zm_s1 sh X (pc, nx, 16, a, b, k, sw) lo st μ = some (bs, pc', lo', st', μ')) (hb : bs.all id = true)
    (hP : va_P D cl (zw_W sh ad cA cB μ) H) (hS : va_S (zw_A sh ad) s.heap H locs) (hl : lv_has ls nL (zw_l ad lo)) (hs : zm_srt lo = true)
    (kk : ∀ (H1 : Heap) (locs1 : List Loc) (ls1 : Array Slot), va_P D cl (zw_W sh ad cA cB μ') H1 → va_S (zw_A sh ad) s.heap H1 locs1 → lv_has ls1 nL (zw_l ad lo') → zm_srt lo' = true → W p l e R s m args below meth c H1 locs1 cells slots Q (F0 m pc' ls1 (st'.map (zw_v ad)))) :
    W p l e R s m args below meth c H locs cells slots Q (F0 m pc ls (st.map (zw_v ad))) := by
  obtain ⟨hx, hc, hml, hown, hts, hF, hinj⟩ := S
  simp only [zw_ck] at hck
  split at hck
  · cases hck
  rename_i ins len hd
  rw [Bool.and_eq_true] at hck
  obtain ⟨hnx, hck⟩ := hck
  have hnx := Nat.eq_of_beq_eq_true hnx
  simp only [zm_s1] at h
  split at h
  · rename_i v r
    cases h
    split at hck
    · have h1 := Nat.eq_of_beq_eq_true hck
      subst h1
      subst hnx
      exact lv_dup hx hc hd (by cases v <;> rfl) (kk H locs ls hP hS hl hs)
    · cases hck
  · cases h
theorem zw_o17 (S : zw_C p m c cc nL s args big (cn own) sh X ad cA cB D cl nest) (K : zw_K cl big nest cn tb) (hR : 1 ≤ R.frames ∧ 40 ≤ R.locals ∧ cells ≤ R.cells ∧ slots ≤ R.slots) (hck : zw_ck cc own nL ret tb np (pc, nx, 17, a, b, k, sw) = true) (h : zm_s1 sh X (pc, nx, 17, a, b, k, sw) lo st μ = some (bs, pc', lo', st', μ')) (hb : bs.all id = true)
    (hP : va_P D cl (zw_W sh ad cA cB μ) H) (hS : va_S (zw_A sh ad) s.heap H locs) (hl : lv_has ls nL (zw_l ad lo)) (hs : zm_srt lo = true)
    (kk : ∀ (H1 : Heap) (locs1 : List Loc) (ls1 : Array Slot), va_P D cl (zw_W sh ad cA cB μ') H1 → va_S (zw_A sh ad) s.heap H1 locs1 → lv_has ls1 nL (zw_l ad lo') → zm_srt lo' = true → W p l e R s m args below meth c H1 locs1 cells slots Q (F0 m pc' ls1 (st'.map (zw_v ad)))) :
    W p l e R s m args below meth c H locs cells slots Q (F0 m pc ls (st.map (zw_v ad))) := by
  obtain ⟨hx, hc, hml, hown, hts, hF, hinj⟩ := S
  simp only [zw_ck] at hck
  split at hck
  · cases hck
  rename_i ins len hd
  rw [Bool.and_eq_true] at hck
  obtain ⟨hnx, hck⟩ := hck
  have hnx := Nat.eq_of_beq_eq_true hnx
  simp only [zm_s1] at h
  split at h
  · rename_i v w r
    cases h
    split at hck
    · have h1 := Nat.eq_of_beq_eq_true hck
      subst h1
      subst hnx
      exact lv_dup2_11 hx hc hd (by cases v <;> rfl) (by cases w <;> rfl) (kk H locs ls hP hS hl hs)
    · cases hck
  · cases h
theorem zw_o18 (S : zw_C p m c cc nL s args big (cn own) sh X ad cA cB D cl nest) (K : zw_K cl big nest cn tb) (hR : 1 ≤ R.frames ∧ 40 ≤ R.locals ∧ cells ≤ R.cells ∧ slots ≤ R.slots) (hck : zw_ck cc own nL ret tb np (pc, nx, 18, a, b, k, sw) = true) (h : zm_s1 sh X (pc, nx, 18, a, b, k, sw) lo st μ = some (bs, pc', lo', st', μ')) (hb : bs.all id = true)
    (hP : va_P D cl (zw_W sh ad cA cB μ) H) (hS : va_S (zw_A sh ad) s.heap H locs) (hl : lv_has ls nL (zw_l ad lo)) (hs : zm_srt lo = true)
    (kk : ∀ (H1 : Heap) (locs1 : List Loc) (ls1 : Array Slot), va_P D cl (zw_W sh ad cA cB μ') H1 → va_S (zw_A sh ad) s.heap H1 locs1 → lv_has ls1 nL (zw_l ad lo') → zm_srt lo' = true → W p l e R s m args below meth c H1 locs1 cells slots Q (F0 m pc' ls1 (st'.map (zw_v ad)))) :
    W p l e R s m args below meth c H locs cells slots Q (F0 m pc ls (st.map (zw_v ad))) := by
  obtain ⟨hx, hc, hml, hown, hts, hF, hinj⟩ := S
  simp only [zw_ck] at hck
  split at hck
  · cases hck
  rename_i ins len hd
  rw [Bool.and_eq_true] at hck
  obtain ⟨hnx, hck⟩ := hck
  have hnx := Nat.eq_of_beq_eq_true hnx
  simp only [zm_s1] at h
  split at h
  · rename_i v r
    cases h
    split at hck
    · have h1 := Nat.eq_of_beq_eq_true hck
      subst h1
      subst hnx
      exact lv_pop hx hc hd (by cases v <;> rfl) (kk H locs ls hP hS hl hs)
    · cases hck
  · cases h
theorem zw_o19 (S : zw_C p m c cc nL s args big (cn own) sh X ad cA cB D cl nest) (K : zw_K cl big nest cn tb) (hR : 1 ≤ R.frames ∧ 40 ≤ R.locals ∧ cells ≤ R.cells ∧ slots ≤ R.slots) (hck : zw_ck cc own nL ret tb np (pc, nx, 19, a, b, k, sw) = true) (h : zm_s1 sh X (pc, nx, 19, a, b, k, sw) lo st μ = some (bs, pc', lo', st', μ')) (hb : bs.all id = true)
    (hP : va_P D cl (zw_W sh ad cA cB μ) H) (hS : va_S (zw_A sh ad) s.heap H locs) (hl : lv_has ls nL (zw_l ad lo)) (hs : zm_srt lo = true)
    (kk : ∀ (H1 : Heap) (locs1 : List Loc) (ls1 : Array Slot), va_P D cl (zw_W sh ad cA cB μ') H1 → va_S (zw_A sh ad) s.heap H1 locs1 → lv_has ls1 nL (zw_l ad lo') → zm_srt lo' = true → W p l e R s m args below meth c H1 locs1 cells slots Q (F0 m pc' ls1 (st'.map (zw_v ad)))) :
    W p l e R s m args below meth c H locs cells slots Q (F0 m pc ls (st.map (zw_v ad))) := by
  obtain ⟨hx, hc, hml, hown, hts, hF, hinj⟩ := S
  simp only [zw_ck] at hck
  split at hck
  · cases hck
  rename_i ins len hd
  rw [Bool.and_eq_true] at hck
  obtain ⟨hnx, hck⟩ := hck
  have hnx := Nat.eq_of_beq_eq_true hnx
  simp only [zm_s1] at h
  cases h
  split at hck
  · simp only [Bool.and_eq_true, decide_eq_true_eq] at hck
    obtain ⟨h1, h2⟩ := hck
    have h1 := Nat.eq_of_beq_eq_true h1
    subst h1
    exact lv_goto hx hc hd h2 (kk H locs ls hP hS hl hs)
  · cases hck
theorem zw_o20 (S : zw_C p m c cc nL s args big (cn own) sh X ad cA cB D cl nest) (K : zw_K cl big nest cn tb) (hR : 1 ≤ R.frames ∧ 40 ≤ R.locals ∧ cells ≤ R.cells ∧ slots ≤ R.slots) (hck : zw_ck cc own nL ret tb np (pc, nx, 20, a, b, k, sw) = true) (h : zm_s1 sh X (pc, nx, 20, a, b, k, sw) lo st μ = some (bs, pc', lo', st', μ')) (hb : bs.all id = true)
    (hP : va_P D cl (zw_W sh ad cA cB μ) H) (hS : va_S (zw_A sh ad) s.heap H locs) (hl : lv_has ls nL (zw_l ad lo)) (hs : zm_srt lo = true)
    (kk : ∀ (H1 : Heap) (locs1 : List Loc) (ls1 : Array Slot), va_P D cl (zw_W sh ad cA cB μ') H1 → va_S (zw_A sh ad) s.heap H1 locs1 → lv_has ls1 nL (zw_l ad lo') → zm_srt lo' = true → W p l e R s m args below meth c H1 locs1 cells slots Q (F0 m pc' ls1 (st'.map (zw_v ad)))) :
    W p l e R s m args below meth c H locs cells slots Q (F0 m pc ls (st.map (zw_v ad))) := by
  obtain ⟨hx, hc, hml, hown, hts, hF, hinj⟩ := S
  simp only [zw_ck] at hck
  split at hck
  · cases hck
  rename_i ins len hd
  rw [Bool.and_eq_true] at hck
  obtain ⟨hnx, hck⟩ := hck
  have hnx := Nat.eq_of_beq_eq_true hnx
  simp only [zm_s1] at h
  split at h
  · rename_i i r
    cases h
    split at hck
    · have h1 := Nat.eq_of_beq_eq_true hck
      subst h1
      subst hnx
      exact va_ti hx hc hF.2.2.2.1 hS (zw_vin (n := 18) hb) rfl hd (kk H locs ls hP hS hl hs)
    · cases hck
  · rename_i i r
    cases h
    split at hck
    · have h1 := Nat.eq_of_beq_eq_true hck
      subst h1
      subst hnx
      exact va_ti hx hc hF.2.2.2.2 hS (zw_vin hb) rfl hd (kk H locs ls hP hS hl hs)
    · cases hck
  · cases h
theorem zw_o21 (S : zw_C p m c cc nL s args big (cn own) sh X ad cA cB D cl nest) (K : zw_K cl big nest cn tb) (hR : 1 ≤ R.frames ∧ 40 ≤ R.locals ∧ cells ≤ R.cells ∧ slots ≤ R.slots) (hck : zw_ck cc own nL ret tb np (pc, nx, 21, a, b, k, sw) = true) (h : zm_s1 sh X (pc, nx, 21, a, b, k, sw) lo st μ = some (bs, pc', lo', st', μ')) (hb : bs.all id = true)
    (hP : va_P D cl (zw_W sh ad cA cB μ) H) (hS : va_S (zw_A sh ad) s.heap H locs) (hl : lv_has ls nL (zw_l ad lo)) (hs : zm_srt lo = true)
    (kk : ∀ (H1 : Heap) (locs1 : List Loc) (ls1 : Array Slot), va_P D cl (zw_W sh ad cA cB μ') H1 → va_S (zw_A sh ad) s.heap H1 locs1 → lv_has ls1 nL (zw_l ad lo') → zm_srt lo' = true → W p l e R s m args below meth c H1 locs1 cells slots Q (F0 m pc' ls1 (st'.map (zw_v ad)))) :
    W p l e R s m args below meth c H locs cells slots Q (F0 m pc ls (st.map (zw_v ad))) := by
  obtain ⟨hx, hc, hml, hown, hts, hF, hinj⟩ := S
  simp only [zw_ck] at hck
  split at hck
  · cases hck
  rename_i ins len hd
  rw [Bool.and_eq_true] at hck
  obtain ⟨hnx, hck⟩ := hck
  have hnx := Nat.eq_of_beq_eq_true hnx
  simp only [zm_s1] at h
  cases h
  split at hck
  · rw [Bool.and_eq_true] at hck
    obtain ⟨h1, h2⟩ := hck
    have h1 := Nat.eq_of_beq_eq_true h1
    subst h1
    subst hnx
    have h2 := List.contains_iff_mem.mp h2
    rcases K.2.2.2.2.1 _ h2 with g | ⟨ho, g⟩
    · exact va_gets hx hc hF.2.2.1 hS hown (hts _ g) (fun _ q => q) hd (kk H locs ls hP hS hl hs)
    · exact va_getsN hx hc hF.2.2.1 hS hown (va_Nw.use rfl (hF.2.1 _ g)) (fun _ q => q) hd (kk H locs ls hP hS hl hs)
  · cases hck
theorem zw_o22 (S : zw_C p m c cc nL s args big (cn own) sh X ad cA cB D cl nest) (K : zw_K cl big nest cn tb) (hR : 1 ≤ R.frames ∧ 40 ≤ R.locals ∧ cells ≤ R.cells ∧ slots ≤ R.slots) (hck : zw_ck cc own nL ret tb np (pc, nx, 22, a, b, k, sw) = true) (h : zm_s1 sh X (pc, nx, 22, a, b, k, sw) lo st μ = some (bs, pc', lo', st', μ')) (hb : bs.all id = true)
    (hP : va_P D cl (zw_W sh ad cA cB μ) H) (hS : va_S (zw_A sh ad) s.heap H locs) (hl : lv_has ls nL (zw_l ad lo)) (hs : zm_srt lo = true)
    (kk : ∀ (H1 : Heap) (locs1 : List Loc) (ls1 : Array Slot), va_P D cl (zw_W sh ad cA cB μ') H1 → va_S (zw_A sh ad) s.heap H1 locs1 → lv_has ls1 nL (zw_l ad lo') → zm_srt lo' = true → W p l e R s m args below meth c H1 locs1 cells slots Q (F0 m pc' ls1 (st'.map (zw_v ad)))) :
    W p l e R s m args below meth c H locs cells slots Q (F0 m pc ls (st.map (zw_v ad))) := by
  obtain ⟨hx, hc, hml, hown, hts, hF, hinj⟩ := S
  simp only [zw_ck] at hck
  split at hck
  · cases hck
  rename_i ins len hd
  rw [Bool.and_eq_true] at hck
  obtain ⟨hnx, hck⟩ := hck
  have hnx := Nat.eq_of_beq_eq_true hnx
  simp only [zm_s1] at h
  split at h
  · rename_i r
    cases h
    split at hck
    · have h1 := Nat.eq_of_beq_eq_true hck
      subst h1
      subst hnx
      exact va_tlen hx hc hF.2.2.2.2 hS rfl hd (kk H locs ls hP hS hl hs)
    · cases hck
  · cases h
theorem zw_cat {ad : Nat → Nat} : ∀ r : List zm_v, ((r.map (zw_v ad)).map fun v => v.category).sum = r.length := by
  intro r
  induction r with
  | nil => rfl
  | cons v t ih =>
    have hv : (zw_v ad v).category = 1 := by cases v <;> rfl
    simp only [List.map_cons, List.sum_cons, List.length_cons, hv, ih]
    omega
theorem zw_o25 (S : zw_C p m c cc nL s args big (cn own) sh X ad cA cB D cl nest) (K : zw_K cl big nest cn tb) (hR : 1 ≤ R.frames ∧ 40 ≤ R.locals ∧ cells ≤ R.cells ∧ slots ≤ R.slots) (hck : zw_ck cc own nL ret tb np (pc, nx, 25, a, b, k, sw) = true) (h : zm_s1 sh X (pc, nx, 25, a, b, k, sw) lo st μ = some (bs, pc', lo', st', μ')) (hb : bs.all id = true)
    (hP : va_P D cl (zw_W sh ad cA cB μ) H) (hS : va_S (zw_A sh ad) s.heap H locs) (hl : lv_has ls nL (zw_l ad lo)) (hs : zm_srt lo = true)
    (kk : ∀ (H1 : Heap) (locs1 : List Loc) (ls1 : Array Slot), va_P D cl (zw_W sh ad cA cB μ') H1 → va_S (zw_A sh ad) s.heap H1 locs1 → lv_has ls1 nL (zw_l ad lo') → zm_srt lo' = true → W p l e R s m args below meth c H1 locs1 cells slots Q (F0 m pc' ls1 (st'.map (zw_v ad)))) :
    W p l e R s m args below meth c H locs cells slots Q (F0 m pc ls (st.map (zw_v ad))) := by
  obtain ⟨hx, hc, hml, hown, hts, hF, hinj⟩ := S
  simp only [zw_ck] at hck
  split at hck
  · cases hck
  rename_i ins len hd
  rw [Bool.and_eq_true] at hck
  obtain ⟨hnx, hck⟩ := hck
  have hnx := Nat.eq_of_beq_eq_true hnx
  simp only [zm_s1] at h
  split at h
  · rename_i y x r
    cases h
    split at hck
    · rw [Bool.and_eq_true] at hck
      obtain ⟨h1, h2⟩ := hck
      have h1 := Nat.eq_of_beq_eq_true h1
      subst h1
      subst hnx
      have h2 := List.contains_iff_mem.mp h2
      obtain ⟨g1, g2, g3, g4⟩ := K.2.2.2.2.2.1 _ h2
      have hr : r.length ≤ 8 := Nat.le_of_ble_eq_true (zw_all1 hb)
      have e1 : (cond (decide (x < y)) y x) = (if x < y then y else x) := by
        by_cases hq : x < y
        · rw [if_pos hq, decide_eq_true hq]; rfl
        · rw [if_neg hq, decide_eq_false hq]; rfl
      have kk := kk H locs ls hP hS hl hs
      rw [e1] at kk
      exact va_mmax hx hc (by rw [hml]; exact hl.1.symm) hown (hts _ g1) (hts _ g2) (hts _ g3) (hts _ g4) hR.1 (by rw [zw_cat]; omega) hR.2.2.1 hR.2.2.2 hd kk
    · cases hck
  · cases h
theorem zw_o26 (S : zw_C p m c cc nL s args big (cn own) sh X ad cA cB D cl nest) (K : zw_K cl big nest cn tb) (hR : 1 ≤ R.frames ∧ 40 ≤ R.locals ∧ cells ≤ R.cells ∧ slots ≤ R.slots) (hck : zw_ck cc own nL ret tb np (pc, nx, 26, a, b, k, sw) = true) (h : zm_s1 sh X (pc, nx, 26, a, b, k, sw) lo st μ = some (bs, pc', lo', st', μ')) (hb : bs.all id = true)
    (hP : va_P D cl (zw_W sh ad cA cB μ) H) (hS : va_S (zw_A sh ad) s.heap H locs) (hl : lv_has ls nL (zw_l ad lo)) (hs : zm_srt lo = true)
    (kk : ∀ (H1 : Heap) (locs1 : List Loc) (ls1 : Array Slot), va_P D cl (zw_W sh ad cA cB μ') H1 → va_S (zw_A sh ad) s.heap H1 locs1 → lv_has ls1 nL (zw_l ad lo') → zm_srt lo' = true → W p l e R s m args below meth c H1 locs1 cells slots Q (F0 m pc' ls1 (st'.map (zw_v ad)))) :
    W p l e R s m args below meth c H locs cells slots Q (F0 m pc ls (st.map (zw_v ad))) := by
  obtain ⟨hx, hc, hml, hown, hts, hF, hinj⟩ := S
  simp only [zw_ck] at hck
  split at hck
  · cases hck
  rename_i ins len hd
  rw [Bool.and_eq_true] at hck
  obtain ⟨hnx, hck⟩ := hck
  have hnx := Nat.eq_of_beq_eq_true hnx
  simp only [zm_s1] at h
  split at h
  · rename_i n dp t sp f r
    split at h
    · rename_i n0 n1 hf ht
      cases h
      split at hck
      · rw [Bool.and_eq_true] at hck
        obtain ⟨h1, h2⟩ := hck
        have h1 := Nat.eq_of_beq_eq_true h1
        subst h1
        subst hnx
        have h2 := List.contains_iff_mem.mp h2
        obtain ⟨g1, g2, g3, g4⟩ := K.2.2.2.2.2.2.1 _ h2
        simp only [List.all_cons, List.all_nil, Bool.and_true, id, Bool.and_eq_true, decide_eq_true_eq] at hb
        obtain ⟨hr, hb⟩ := hb
        have hr : st'.length ≤ 8 := Nat.le_of_ble_eq_true hr
        obtain ⟨b1, b2, b3, b4, b5⟩ := hb
        have h0 : (0 : Int32).toInt = 0 := by decide
        have nn : ∀ z : Int32, 0 ≤ z.toInt → ¬ z < 0 := by
          intro z hz
          rw [Int32.lt_iff_toInt_lt, h0]
          omega
        have cn : ∀ z : Int32, z.toNatClampNeg = z.toInt.toNat := fun z => rfl
        refine va_copyi hx hc (by rw [hml]; exact hl.1.symm) hown (hts _ g1) (hts _ g2) (hts _ g3) (hts _ g4) hF.1 hP (zw_D hinj) hS f t 0 0 (zw_at hf) (zw_at ht) rfl rfl rfl (nn _ b3) (nn _ b2) (nn _ b1) (by rw [cn, cn]; omega) (by rw [cn, cn]; omega) (fun _ _ => rfl) hR.1 (by rw [zw_cat]; show st'.length + (7 + 11) ≤ _; omega) hd (fun H1 locs1 hP1 _ hS1 => ?_)
        refine kk H1 locs1 ls ?_ hS1 hl hs
        have e1 := zw_set (ad := ad) (cA := cA) (cB := cB) (μ := μ) (μ' := zm_cp μ f t sp dp n) ht (fun k hk => by funext i; unfold zm_cp; rw [zb_ne hk]; rfl)
        rw [← e1]
        have e2 : va_cpy (μ f) (μ t) sp.toNatClampNeg dp.toNatClampNeg n.toNatClampNeg = zm_cp μ f t sp dp n t := by
          funext i
          unfold zm_cp
          rw [Nat.beq_refl]
          rfl
        unfold zw_e
        rw [e2] at hP1
        exact hP1
      · cases hck
    · cases h
  · cases h
theorem zw_o28 (S : zw_C p m c cc nL s args big (cn own) sh X ad cA cB D cl nest) (K : zw_K cl big nest cn tb) (hR : 1 ≤ R.frames ∧ 40 ≤ R.locals ∧ cells ≤ R.cells ∧ slots ≤ R.slots) (hck : zw_ck cc own nL ret tb np (pc, nx, 28, a, b, k, sw) = true) (h : zm_s1 sh X (pc, nx, 28, a, b, k, sw) lo st μ = some (bs, pc', lo', st', μ')) (hb : bs.all id = true)
    (hP : va_P D cl (zw_W sh ad cA cB μ) H) (hS : va_S (zw_A sh ad) s.heap H locs) (hl : lv_has ls nL (zw_l ad lo)) (hs : zm_srt lo = true)
    (kk : ∀ (H1 : Heap) (locs1 : List Loc) (ls1 : Array Slot), va_P D cl (zw_W sh ad cA cB μ') H1 → va_S (zw_A sh ad) s.heap H1 locs1 → lv_has ls1 nL (zw_l ad lo') → zm_srt lo' = true → W p l e R s m args below meth c H1 locs1 cells slots Q (F0 m pc' ls1 (st'.map (zw_v ad)))) :
    W p l e R s m args below meth c H locs cells slots Q (F0 m pc ls (st.map (zw_v ad))) := by
  obtain ⟨hx, hc, hml, hown, hts, hF, hinj⟩ := S
  simp only [zw_ck] at hck
  split at hck
  · cases hck
  rename_i ins len hd
  rw [Bool.and_eq_true] at hck
  obtain ⟨hnx, hck⟩ := hck
  have hnx := Nat.eq_of_beq_eq_true hnx
  simp only [zm_s1] at h
  cases h
  split at hck
  · simp only [Bool.and_eq_true, decide_eq_true_eq] at hck
    obtain ⟨h1, h2, h3⟩ := hck
    have h1 := Nat.eq_of_beq_eq_true h1
    subst h1
    subst hnx
    have h2 := List.contains_iff_mem.mp h2
    have g := K.2.2.2.2.2.2.2 _ h2
    subst h3
    exact lv_ldc hx hc hown (hts _ g) hd (kk H locs ls hP hS hl hs)
  · simp only [Bool.and_eq_true, decide_eq_true_eq] at hck
    obtain ⟨h1, h2, h3⟩ := hck
    have h1 := Nat.eq_of_beq_eq_true h1
    subst h1
    subst hnx
    have h2 := List.contains_iff_mem.mp h2
    have g := K.2.2.2.2.2.2.2 _ h2
    subst h3
    exact lv_ldcw hx hc hown (hts _ g) hd (kk H locs ls hP hS hl hs)
  · cases hck
theorem zw_o99 {op : Nat} (h : zm_s1 sh X (pc, nx, op + 29, a, b, k, sw) lo st μ = some (bs, pc', lo', st', μ')) : False := by
  simp only [zm_s1] at h
  cases h
theorem zw_one {q : zm_q} (S : zw_C p m c cc nL s args big (cn own) sh X ad cA cB D cl nest) (K : zw_K cl big nest cn tb) (hR : 1 ≤ R.frames ∧ 40 ≤ R.locals ∧ cells ≤ R.cells ∧ slots ≤ R.slots) (hck : zw_ck cc own nL ret tb np q = true) (h : zm_s1 sh X q lo st μ = some (bs, pc', lo', st', μ')) (hb : bs.all id = true)
    (hP : va_P D cl (zw_W sh ad cA cB μ) H) (hS : va_S (zw_A sh ad) s.heap H locs) (hl : lv_has ls nL (zw_l ad lo)) (hs : zm_srt lo = true)
    (kk : ∀ (H1 : Heap) (locs1 : List Loc) (ls1 : Array Slot), va_P D cl (zw_W sh ad cA cB μ') H1 → va_S (zw_A sh ad) s.heap H1 locs1 → lv_has ls1 nL (zw_l ad lo') → zm_srt lo' = true → W p l e R s m args below meth c H1 locs1 cells slots Q (F0 m pc' ls1 (st'.map (zw_v ad)))) :
    W p l e R s m args below meth c H locs cells slots Q (F0 m q.1 ls (st.map (zw_v ad))) := by
  obtain ⟨pc, nx, op, a, b, k, sw⟩ := q
  match op, hck, h with
  | 0, hck, h => exact zw_o0 S K hR hck h hb hP hS hl hs kk
  | 1, hck, h => exact zw_o1 S K hR hck h hb hP hS hl hs kk
  | 2, hck, h => exact zw_o2 S K hR hck h hb hP hS hl hs kk
  | 3, hck, h => exact zw_o3 S K hR hck h hb hP hS hl hs kk
  | 4, hck, h => exact zw_o4 S K hR hck h hb hP hS hl hs kk
  | 5, hck, h => exact zw_o5 S K hR hck h hb hP hS hl hs kk
  | 6, hck, h => exact zw_o6 S K hR hck h hb hP hS hl hs kk
  | 7, hck, h => exact zw_o7 S K hR hck h hb hP hS hl hs kk
  | 8, hck, h => exact zw_o8 S K hR hck h hb hP hS hl hs kk
  | 9, hck, h => exact zw_o9 S K hR hck h hb hP hS hl hs kk
  | 10, hck, h => exact zw_o10 S K hR hck h hb hP hS hl hs kk
  | 11, hck, h => exact zw_o11 S K hR hck h hb hP hS hl hs kk
  | 12, hck, h => exact zw_o12 S K hR hck h hb hP hS hl hs kk
  | 13, hck, h => exact zw_o13 S K hR hck h hb hP hS hl hs kk
  | 14, hck, h => exact zw_o14 S K hR hck h hb hP hS hl hs kk
  | 15, hck, h => exact zw_o15 S K hR hck h hb hP hS hl hs kk
  | 16, hck, h => exact zw_o16 S K hR hck h hb hP hS hl hs kk
  | 17, hck, h => exact zw_o17 S K hR hck h hb hP hS hl hs kk
  | 18, hck, h => exact zw_o18 S K hR hck h hb hP hS hl hs kk
  | 19, hck, h => exact zw_o19 S K hR hck h hb hP hS hl hs kk
  | 20, hck, h => exact zw_o20 S K hR hck h hb hP hS hl hs kk
  | 21, hck, h => exact zw_o21 S K hR hck h hb hP hS hl hs kk
  | 22, hck, h => exact zw_o22 S K hR hck h hb hP hS hl hs kk
  | 23, hck, h => exact zw_o23 S K hR hck h hb hP hS hl hs kk
  | 24, hck, h => exact zw_o24 S K hR hck h hb hP hS hl hs kk
  | 25, hck, h => exact zw_o25 S K hR hck h hb hP hS hl hs kk
  | 26, hck, h => exact zw_o26 S K hR hck h hb hP hS hl hs kk
  | 27, hck, h => exact zw_o27 S K hR hck h hb hP hS hl hs kk
  | 28, hck, h => exact zw_o28 S K hR hck h hb hP hS hl hs kk
  | op + 29, hck, h => exact (zw_o99 h).elim
end ZX
end
section
abbrev zw_Mt : Type := MethodName × ByteArray × Nat × Option FieldType × Nat
def zw_rm (d : Nat) : Room := { frames := d, cells := 0, slots := 0, locals := 64 * d }
def zw_ws (big : List Cond) (y : zw_Mt) : List Cond := Cond.code y.1 y.2.1 y.2.2.1 y.2.2.2.1 :: big
def zw_Q (sh : List zm_h) (ad : Nat → Nat) (cA cB : ClassId) (D : va_G) (cl : List vw_C) (r : Option zm_v) (μ' : zm_u) : Array Value → State → Outcome → State → Prop :=
  fun _ st oc t => (oc = .returned (r.map (zw_v ad)) ∧ va_P D cl (zw_W sh ad cA cB μ') t.heap) ∧ va_F (zw_A sh ad) st t
def zw_P (sh : List zm_h) (X : zm_T) (ad : Nat → Nat) (cA cB : ClassId) (D : va_G) (cl : List vw_C) (nest : List Cond) (as : List zm_v) (μ : zm_u) : Array Value → State → Prop :=
  va_Pc (as.map (zw_v ad)) (fun U => zw_F sh X ad cA cB D cl nest U ∧ va_P D cl (zw_W sh ad cA cB μ) U.heap)
def zw_Met (l : Launch) (sh : List zm_h) (X : zm_T) (ad : Nat → Nat) (cA cB : ClassId) (D : va_G) (cl : List vw_C) (big nest : List Cond) (M : Nat → zw_Mt) (d n : Nat) (as : List zm_v) (μ : zm_u) (r : Option zm_v) (μ' : zm_u) : Prop :=
  Met l (M n).1 (zw_ws big (M n)) (zw_rm d) (zw_P sh X ad cA cB D cl nest as μ) (zw_Q sh ad cA cB D cl r μ') 0 0 (zw_A sh ad)
def zw_mk (big nest : List Cond) (o : String) (i : Nat) (y : MethodName) : Prop := Cond.methodLink o i y ∈ big ∨ ∃ h : String, Cond.methodLinkNest o i y h ∈ nest
def zw_my (big : List Cond) (M : Nat → zw_Mt) (n np : Nat) : Prop := ((M n).1.cls ≠ "java/lang/invoke/MethodHandle" ∧ (M n).1.cls ≠ "java/lang/invoke/VarHandle" ∧ (parseMethodDescriptor (M n).1.desc).map (fun d => d.parameters.length) = some np) ∧ Cond.initialized (M n).1.cls ∈ big ∧ Cond.code (M n).1 (M n).2.1 (M n).2.2.1 (M n).2.2.2.1 ∈ big ∧ (M n).2.2.1 ≤ 45
/-- what the tables of calls say -/
def zw_KC (cl : List vw_C) (big nest : List Cond) (cn : Nat → String) (tb : Nat → zw_Tb) (M : Nat → zw_Mt) (np : Nat → Nat) (N : Nat) : Prop :=
  (∀ x ∈ tb 3, zw_my big M x.2.2.1 (np x.2.2.1) ∧ zw_mk big nest (cn x.1) x.2.1 (M x.2.2.1).1 ∧ Cond.static (M x.2.2.1).1 ∈ big ∧ x.2.2.1 < N ∧ np x.2.2.1 ≤ (M x.2.2.1).2.2.1) ∧
  (∀ x ∈ tb 4, zw_my big M x.2.2.1 (np x.2.2.1) ∧ zw_mk big nest (cn x.1) x.2.1 (M x.2.2.1).1 ∧ Cond.instanceMethod (M x.2.2.1).1 ∈ big ∧ Cond.selects (M x.2.2.1).1.cls (M x.2.2.1).1 (M x.2.2.1).1 ∈ big ∧ (∃ (T : u_T) (k : Nat), cl[x.2.2.2]? = some ((M x.2.2.1).1.cls, T, k)) ∧ x.2.2.1 < N ∧ np x.2.2.1 + 1 ≤ (M x.2.2.1).2.2.1) ∧
  (∀ w ∈ big, (w.onTables && w.keeps) = true ∨ ∃ ty, w = .arrayClass ty) ∧
  (∀ w ∈ nest, (∃ (a : String) (i : Nat) (b n d h : String), w = .fieldLinkNest a i b n d h) ∨ ∃ (a : String) (i : Nat) (x : MethodName) (h : String), w = .methodLinkNest a i x h)
theorem zw_F.to {sh : List zm_h} {X : zm_T} {ad : Nat → Nat} {cA cB : ClassId} {D : va_G} {cl : List vw_C} {nest : List Cond} {s U : State} {locs : List Loc} (hn : ∀ w ∈ nest, (∃ (a : String) (i : Nat) (b n d h : String), w = .fieldLinkNest a i b n d h) ∨ ∃ (a : String) (i : Nat) (x : MethodName) (h : String), w = .methodLinkNest a i x h)
    (hF : zw_F sh X ad cA cB D cl nest s) (hS : va_S (zw_A sh ad) s.heap U.heap locs) (hW : s.WarmedH U.vm) : zw_F sh X ad cA cB D cl nest U := by
  obtain ⟨h1, h2, h3, h4, h5⟩ := hF
  refine ⟨va_K.moved hW.alike h1, fun w hw => ?_, (va_Z.moved hW.alike h3).kept (fun a ha hb => hS.2.1 a ha hb), (va_T.moved hW.alike h4).kept (fun a ha hb => hS.2.1 a ha hb), (va_T.moved hW.alike h5).kept (fun a ha hb => hS.2.1 a ha hb)⟩
  rcases hn w hw with ⟨a, i, b, n, d, h, rfl⟩ | ⟨a, i, x, h, rfl⟩
  · exact va_Nw.warmF hW (h2 _ hw)
  · exact va_Nw.warmM hW (h2 _ hw)
theorem zw_tsw_at {pc d : Nat} {x : Int32} : ∀ (os : List Int) (lo : Int), -2000 ≤ lo → lo + os.length ≤ 2000 → (zm_sw (zw_tsw pc lo os) d x = d ∧ (x.toInt < lo ∨ lo + os.length ≤ x.toInt)) ∨ (¬ x.toInt < lo ∧ x.toInt < lo + os.length ∧ ∃ o, os[(x.toInt - lo).toNat]? = some o ∧ zm_sw (zw_tsw pc lo os) d x = ((pc : Int) + o).toNat) := by
  intro os
  induction os with
  | nil =>
    intro lo h1 h2
    refine Or.inl ⟨rfl, ?_⟩
    simp only [List.length_nil]
    omega
  | cons o r ih =>
    intro lo h1 h2
    simp only [List.length_cons] at h2 ⊢
    have hlo : (Int32.ofInt lo).toInt = lo := Int32.toInt_ofInt_of_le (by omega) (by omega)
    by_cases hx : x = Int32.ofInt lo
    · refine Or.inr ⟨by rw [hx, hlo]; omega, by rw [hx, hlo]; omega, o, ?_, ?_⟩
      · rw [hx, hlo]
        simp
      · show cond (decide (x = Int32.ofInt lo)) _ _ = _
        rw [decide_eq_true hx]
        rfl
    · have e1 : zm_sw (zw_tsw pc lo (o :: r)) d x = zm_sw (zw_tsw pc (lo + 1) r) d x := by
        show cond (decide (x = Int32.ofInt lo)) _ _ = _
        rw [decide_eq_false hx]
        rfl
      have hne : x.toInt ≠ lo := fun z => hx (Int32.toInt_inj.mp (by rw [hlo]; exact z))
      rcases ih (lo + 1) (by omega) (by omega) with ⟨g1, g2⟩ | ⟨g1, g2, o', g3, g4⟩
      · exact Or.inl ⟨by rw [e1]; exact g1, by omega⟩
      · refine Or.inr ⟨by omega, by omega, o', ?_, by rw [e1]; exact g4⟩
        have e2 : (x.toInt - lo).toNat = (x.toInt - (lo + 1)).toNat + 1 := by omega
        rw [e2, List.getElem?_cons_succ]
        exact g3
theorem zw_lsw_at {pc d : Nat} {x : Int32} {df : Int} (hd : (pc : Int) + df = (d : Int)) : ∀ (ps : List (Int × Int)), ps.all (fun y => decide (0 ≤ (pc : Int) + y.2 ∧ -1000 ≤ y.1 ∧ y.1 ≤ 1000)) = true → (pc : Int) + Op.lookupswitch.offset ps df x.toInt = ((zm_sw (ps.map (fun y => (Int32.ofInt y.1, ((pc : Int) + y.2).toNat))) d x : Nat) : Int) := by
  intro ps
  induction ps with
  | nil => intro _; exact hd
  | cons y r ih =>
    obtain ⟨a, o⟩ := y
    intro h
    simp only [List.all_cons, Bool.and_eq_true, decide_eq_true_eq] at h
    obtain ⟨⟨h1, h2, h3⟩, h4⟩ := h
    have ha : (Int32.ofInt a).toInt = a := Int32.toInt_ofInt_of_le (by omega) (by omega)
    rw [Op.lookupswitch.offset_cons]
    show _ = ((cond (decide (x = Int32.ofInt a)) ((pc : Int) + o).toNat (zm_sw (r.map (fun y => (Int32.ofInt y.1, ((pc : Int) + y.2).toNat))) d x) : Nat) : Int)
    by_cases hx : x = Int32.ofInt a
    · rw [if_pos (by rw [hx, ha]), decide_eq_true hx]
      show _ = ((((pc : Int) + o).toNat : Nat) : Int)
      omega
    · rw [if_neg (fun z => hx (Int32.toInt_inj.mp (by rw [ha]; exact z.symm))), decide_eq_false hx]
      exact ih h4
section ZY
variable {p : Program} {l : Launch} {e : Env} {R : Room} {s : State} {m : MethodId} {args : Array Value} {below : List Frame} {meth : Method} {c : Code} {cells slots : Nat} {Q : State → Prop}
variable {sh : List zm_h} {X : zm_T} {ad : Nat → Nat} {cA cB : ClassId} {D : va_G} {cl : List vw_C} {big nest : List Cond} {tb : Nat → zw_Tb} {cn : Nat → String} {cc : ByteArray} {nL own N : Nat} {ret : Option FieldType} {np : Nat → Nat} {M : Nat → zw_Mt}
variable {pc nx a b : Nat} {k : Int32} {sw : List (Int32 × Nat)} {lo : zm_L} {st : List zm_v} {μ μ' : zm_u} {H : Heap} {locs : List Loc} {ls : Array Slot}
theorem zw_c30 {x : Int32} {r : List zm_v} (S : zw_C p m c cc nL s args big (cn own) sh X ad cA cB D cl nest) (hck : zw_ck cc own nL ret tb np (pc, nx, 30, a, b, k, sw) = true)
    (kk : W p l e R s m args below meth c H locs cells slots Q (F0 m (cond (zm_c b x 0) a nx) ls (r.map (zw_v ad)))) : W p l e R s m args below meth c H locs cells slots Q (F0 m pc ls (.int x :: r.map (zw_v ad))) := by
  obtain ⟨hx, hc, -⟩ := S
  simp only [zw_ck] at hck
  split at hck
  · cases hck
  rename_i ins len hd
  rw [Bool.and_eq_true] at hck
  obtain ⟨hnx, hck⟩ := hck
  have hnx := Nat.eq_of_beq_eq_true hnx
  split at hck
  · rename_i cd o
    simp only [Bool.and_eq_true, decide_eq_true_eq] at hck
    obtain ⟨h1, h2, h3⟩ := hck
    have h1 := Nat.eq_of_beq_eq_true h1
    subst h1
    subst hnx
    subst h2
    match b, hd, kk with
    | 0, hd, kk => exact lv_if_eq hx hc hd h3 (fun z => by have kk := kk; rw [show zm_c 0 x 0 = true from decide_eq_true z] at kk; exact kk) (fun z => by have kk := kk; rw [show zm_c 0 x 0 = false from decide_eq_false z] at kk; exact kk)
    | 1, hd, kk => exact lv_if_ne hx hc hd h3 (fun z => by have kk := kk; rw [show zm_c 1 x 0 = true from decide_eq_true z] at kk; exact kk) (fun z => by have kk := kk; rw [show zm_c 1 x 0 = false from decide_eq_false (fun y => y z)] at kk; exact kk)
    | 2, hd, kk => exact lv_if_lt hx hc hd h3 (fun z => by have kk := kk; rw [show zm_c 2 x 0 = true from decide_eq_true z] at kk; exact kk) (fun z => by have kk := kk; rw [show zm_c 2 x 0 = false from decide_eq_false z] at kk; exact kk)
    | 3, hd, kk => exact lv_if_ge hx hc hd h3 (fun z => by have kk := kk; rw [show zm_c 3 x 0 = true from decide_eq_true z] at kk; exact kk) (fun z => by have kk := kk; rw [show zm_c 3 x 0 = false from decide_eq_false z] at kk; exact kk)
    | 4, hd, kk => exact lv_if_gt hx hc hd h3 (fun z => by have kk := kk; rw [show zm_c 4 x 0 = true from decide_eq_true z] at kk; exact kk) (fun z => by have kk := kk; rw [show zm_c 4 x 0 = false from decide_eq_false z] at kk; exact kk)
    | n + 5, hd, kk => exact lv_if_le hx hc hd h3 (fun z => by have kk := kk; rw [show zm_c (n + 5) x 0 = true from decide_eq_true z] at kk; exact kk) (fun z => by have kk := kk; rw [show zm_c (n + 5) x 0 = false from decide_eq_false z] at kk; exact kk)
  · cases hck
theorem zw_c31 {x y : Int32} {r : List zm_v} (S : zw_C p m c cc nL s args big (cn own) sh X ad cA cB D cl nest) (hck : zw_ck cc own nL ret tb np (pc, nx, 31, a, b, k, sw) = true)
    (kk : W p l e R s m args below meth c H locs cells slots Q (F0 m (cond (zm_c b x y) a nx) ls (r.map (zw_v ad)))) : W p l e R s m args below meth c H locs cells slots Q (F0 m pc ls (.int y :: .int x :: r.map (zw_v ad))) := by
  obtain ⟨hx, hc, -⟩ := S
  simp only [zw_ck] at hck
  split at hck
  · cases hck
  rename_i ins len hd
  rw [Bool.and_eq_true] at hck
  obtain ⟨hnx, hck⟩ := hck
  have hnx := Nat.eq_of_beq_eq_true hnx
  split at hck
  · rename_i cd o
    simp only [Bool.and_eq_true, decide_eq_true_eq] at hck
    obtain ⟨h1, h2, h3⟩ := hck
    have h1 := Nat.eq_of_beq_eq_true h1
    subst h1
    subst hnx
    subst h2
    match b, hd, kk with
    | 0, hd, kk => exact lv_icmp_eq hx hc hd h3 (fun z => by have kk := kk; rw [show zm_c 0 x y = true from decide_eq_true z] at kk; exact kk) (fun z => by have kk := kk; rw [show zm_c 0 x y = false from decide_eq_false z] at kk; exact kk)
    | 1, hd, kk => exact lv_icmp_ne hx hc hd h3 (fun z => by have kk := kk; rw [show zm_c 1 x y = true from decide_eq_true z] at kk; exact kk) (fun z => by have kk := kk; rw [show zm_c 1 x y = false from decide_eq_false (fun q => q z)] at kk; exact kk)
    | 2, hd, kk => exact lv_icmp_lt hx hc hd h3 (fun z => by have kk := kk; rw [show zm_c 2 x y = true from decide_eq_true z] at kk; exact kk) (fun z => by have kk := kk; rw [show zm_c 2 x y = false from decide_eq_false z] at kk; exact kk)
    | 3, hd, kk => exact lv_icmp_ge hx hc hd h3 (fun z => by have kk := kk; rw [show zm_c 3 x y = true from decide_eq_true z] at kk; exact kk) (fun z => by have kk := kk; rw [show zm_c 3 x y = false from decide_eq_false z] at kk; exact kk)
    | 4, hd, kk => exact lv_icmp_gt hx hc hd h3 (fun z => by have kk := kk; rw [show zm_c 4 x y = true from decide_eq_true z] at kk; exact kk) (fun z => by have kk := kk; rw [show zm_c 4 x y = false from decide_eq_false z] at kk; exact kk)
    | n + 5, hd, kk => exact lv_icmp_le hx hc hd h3 (fun z => by have kk := kk; rw [show zm_c (n + 5) x y = true from decide_eq_true z] at kk; exact kk) (fun z => by have kk := kk; rw [show zm_c (n + 5) x y = false from decide_eq_false z] at kk; exact kk)
  · cases hck
theorem zw_c32 {x : Int32} {r : List zm_v} (S : zw_C p m c cc nL s args big (cn own) sh X ad cA cB D cl nest) (hck : zw_ck cc own nL ret tb np (pc, nx, 32, a, b, k, sw) = true)
    (kk : W p l e R s m args below meth c H locs cells slots Q (F0 m (zm_sw sw a x) ls (r.map (zw_v ad)))) : W p l e R s m args below meth c H locs cells slots Q (F0 m pc ls (.int x :: r.map (zw_v ad))) := by
  obtain ⟨hx, hc, -⟩ := S
  simp only [zw_ck] at hck
  split at hck
  · cases hck
  rename_i ins len hd
  rw [Bool.and_eq_true] at hck
  obtain ⟨hnx, hck⟩ := hck
  split at hck
  · rename_i df lw hi os
    simp only [Bool.and_eq_true, decide_eq_true_eq] at hck
    obtain ⟨h1, h2, h3, ⟨h4, h5, h6⟩, h7⟩ := hck
    have hlen : os.toList.length = os.size := Array.length_toList
    subst h2
    rcases zw_tsw_at (pc := pc) (d := a) (x := x) os.toList lw (by omega) (by rw [hlen]; omega) with ⟨g1, g2⟩ | ⟨g1, g2, o, g3, g4⟩
    · rw [g1] at kk
      exact lv_tableOut hx hc hd (by rw [hlen] at g2; omega) h1 kk
    · rw [g4] at kk
      have ho : 0 ≤ (pc : Int) + o := by
        rw [List.all_eq_true] at h7
        exact of_decide_eq_true (h7 o (List.mem_of_getElem? g3))
      refine lv_tableIn hx hc hd g1 (by rw [hlen] at g2; omega) (off := o) ?_ (by omega) kk
      rw [← Array.getElem?_toList]
      exact g3
  · rename_i df ps
    simp only [Bool.and_eq_true, decide_eq_true_eq] at hck
    obtain ⟨h1, h2, h3, h4⟩ := hck
    subst h2
    refine lv_lookup hx hc hd ?_ rfl (zw_lsw_at h1 ps.toList ?_) kk
    · simpa using h3
    · simpa using h4
  · cases hck
theorem zw_after {r : Option zm_v} {st0 rest : List Value} {A1 : Array Value} (hr : va_Run p l e R s m args below meth c H locs cells slots 0 0 (F0 m pc ls st0) rest (zw_Q sh ad cA cB D cl r μ' A1) (zw_A sh ad)) (hS : va_S (zw_A sh ad) s.heap H locs)
    (kk : ∀ (H1 : Heap) (locs1 : List Loc), va_P D cl (zw_W sh ad cA cB μ') H1 → va_S (zw_A sh ad) s.heap H1 locs1 → W p l e R s m args below meth c H1 locs1 cells slots Q (F0 m (pc + 3) ls ((r.map (zw_v ad)).toList ++ rest))) : W p l e R s m args below meth c H locs cells slots Q (F0 m pc ls st0) := by
  intro T hT X'
  obtain ⟨v, st₀, t, T', L, h0, X', hL, e1, e2, ⟨⟨hv, hP⟩, hz, hk⟩, st⟩ := hr T hT X'
  cases hv
  rw [h0] at hz hk
  obtain ⟨t2, a1, b1⟩ := kk T'.heap (locs ++ L) (by rw [e1]; exact hP)
    ⟨Nat.le_trans hS.1 (by rw [e1]; exact hz), fun q h1 h2 => by rw [e1, hk q (Nat.lt_of_lt_of_le h1 hS.1) h2]; exact hS.2.1 q h1 h2, fun q hq => by
      rcases List.mem_append.mp hq with h | h
      · exact hS.2.2 q h
      · exact hL q h⟩ T' rfl X'
  exact ⟨t2, st t2 a1, b1⟩
theorem zw_goodIn {y : zw_Mt} (hg : ∀ w ∈ big, (w.onTables && w.keeps) = true ∨ ∃ ty, w = .arrayClass ty) (hy : Cond.code y.1 y.2.1 y.2.2.1 y.2.2.2.1 ∈ big) : GoodIn big (zw_ws big y) := by
  intro w hw
  rcases List.mem_cons.mp hw with rfl | hw
  · exact ⟨hy, hg _ hy⟩
  · exact ⟨hw, hg _ hw⟩
theorem zw_blind {as : List zm_v} (hn : ∀ w ∈ nest, (∃ (a : String) (i : Nat) (b n d h : String), w = .fieldLinkNest a i b n d h) ∨ ∃ (a : String) (i : Nat) (x : MethodName) (h : String), w = .methodLinkNest a i x h) : FrameBlind (zw_P sh X ad cA cB D cl nest as μ) := by
  intro a U g mk q
  obtain ⟨q0, ⟨h1, h2, h3, h4, h5⟩, hP⟩ := q
  refine ⟨q0, ⟨va_K.moved (u := U) (U := U.calling g mk a) (Vm.Alike.refl U.vm) h1, fun w hw => ?_, va_Z.moved (u := U) (U := U.calling g mk a) (Vm.Alike.refl U.vm) h3, va_T.moved (u := U) (U := U.calling g mk a) (Vm.Alike.refl U.vm) h4, va_T.moved (u := U) (U := U.calling g mk a) (Vm.Alike.refl U.vm) h5⟩, hP⟩
  rcases hn w hw with ⟨a1, i, b, n, d, h, rfl⟩ | ⟨a1, i, x, h, rfl⟩
  · exact va_Nw.same (u := U) rfl rfl (h2 _ hw)
  · exact va_Nw.same (u := U) rfl rfl (h2 _ hw)
theorem zw_c35 {d : Nat} {r : Option zm_v} (S : zw_C p m c cc nL s args big (cn own) sh X ad cA cB D cl nest) (KC : zw_KC cl big nest cn tb M np N) (hR : d + 1 ≤ R.frames ∧ 64 * (d + 1) ≤ R.locals ∧ cells ≤ R.cells ∧ slots ≤ R.slots) (hck : zw_ck cc own nL ret tb np (pc, nx, 35, a, b, k, sw) = true) (hlen : (Nat.ble b st.length && Nat.ble (st.drop b).length 8) = true)
    (hM : zw_Met l sh X ad cA cB D cl big nest M d a (st.take b).reverse μ r μ') (hP : va_P D cl (zw_W sh ad cA cB μ) H) (hS : va_S (zw_A sh ad) s.heap H locs) (hl : lv_has ls nL (zw_l ad lo))
    (kk : ∀ (H1 : Heap) (locs1 : List Loc), va_P D cl (zw_W sh ad cA cB μ') H1 → va_S (zw_A sh ad) s.heap H1 locs1 → W p l e R s m args below meth c H1 locs1 cells slots Q (F0 m nx ls ((r.toList ++ st.drop b).map (zw_v ad)))) : W p l e R s m args below meth c H locs cells slots Q (F0 m pc ls (st.map (zw_v ad))) := by
  obtain ⟨hx, hc, hml, hown, hts, hF, hinj⟩ := S
  simp only [zw_ck] at hck
  split at hck
  · cases hck
  rename_i ins len hd
  rw [Bool.and_eq_true] at hck
  obtain ⟨hnx, hck⟩ := hck
  have hnx := Nat.eq_of_beq_eq_true hnx
  split at hck
  · rename_i i
    simp only [Bool.and_eq_true] at hck
    obtain ⟨h1, h2, h3⟩ := hck
    have h1 := Nat.eq_of_beq_eq_true h1
    have h3 := Nat.eq_of_beq_eq_true h3
    subst h1
    subst hnx
    have h2 := List.contains_iff_mem.mp h2
    obtain ⟨⟨y1, y2, y3, y4⟩, g2, g3, g4⟩ := KC.1 _ h2
    rw [Bool.and_eq_true] at hlen
    have hb1 : b ≤ st.length := Nat.le_of_ble_eq_true hlen.1
    have hb2 : (st.drop b).length ≤ 8 := Nat.le_of_ble_eq_true hlen.2
    have hSt : CallFix p m c cc nL s args big (cn own) := ⟨hx, hc, hml, hown, hts⟩
    have hp : PreS s H (zw_P sh X ad cA cB D cl nest (st.take b).reverse μ) ((st.take b).reverse.map (zw_v ad)) := ⟨zw_blind KC.2.2.2, fun U hU hW => ⟨rfl, zw_F.to KC.2.2.2 hF (by rw [hU]; exact hS) hW, by rw [hU]; exact hP⟩⟩
    have hn : ((st.take b).reverse.map (zw_v ad)).length = np a := by
      rw [List.length_map, List.length_reverse, List.length_take]
      omega
    have hst : st.map (zw_v ad) = ((st.take b).reverse.map (zw_v ad)).reverse ++ (st.drop b).map (zw_v ad) := by
      rw [← List.map_reverse, List.reverse_reverse, ← List.map_append, List.take_append_drop]
    have hrr : (zw_rm d).frames + 1 ≤ R.frames ∧ 8 + ((M a).2.2.1 + 11) + (zw_rm d).locals ≤ R.locals := by
      show d + 1 ≤ R.frames ∧ 8 + ((M a).2.2.1 + 11) + 64 * d ≤ R.locals
      have y4' : (M a).2.2.1 ≤ 45 := y4
      omega
    have hw8 : 2 * (F0 m pc ls (st.map (zw_v ad))).monitorRoom + (((st.drop b).map (zw_v ad)).map fun v => v.category).sum ≤ 8 := by
      rw [zw_cat]
      show 2 * 0 + _ ≤ 8
      omega
    have hre : (r.map (zw_v ad)).toList ++ (st.drop b).map (zw_v ad) = (r.toList ++ st.drop b).map (zw_v ad) := by
      rw [List.map_append]
      cases r <;> rfl
    rcases g2 with g2 | ⟨ho, g2⟩
    · have hr := va_runS (R := R) (below := below) (meth := meth) (e := e) (cells := cells) (slots := slots) (locs := locs) (g := F0 m pc ls (st.map (zw_v ad))) hSt hM ⟨callB_of (np a) hts (zw_goodIn KC.2.2.1 y3) rfl rfl rfl (hts _ y2) (hts _ g2) y1 hrr, hts _ g3⟩ hp rfl hn hl.1 hst hw8 hd ⟨hR.2.2.1, hR.2.2.2⟩
      exact zw_after hr hS (fun H1 locs1 q1 q2 => by rw [hre]; exact kk H1 locs1 q1 q2)
    · have hr := va_runSN (R := R) (below := below) (meth := meth) (e := e) (cells := cells) (slots := slots) (locs := locs) (g := F0 m pc ls (st.map (zw_v ad))) hSt hM ⟨va_cnB (np a) hts (zw_goodIn KC.2.2.1 y3) rfl rfl rfl (hF.2.1 _ g2) (hts _ y2) y1 hrr, hts _ g3, trivial⟩ hp rfl hn hl.1 hst hw8 hd ⟨hR.2.2.1, hR.2.2.2⟩
      exact zw_after hr hS (fun H1 locs1 q1 q2 => by rw [hre]; exact kk H1 locs1 q1 q2)
  · cases hck
theorem zw_c36 {d : Nat} {r : Option zm_v} (S : zw_C p m c cc nL s args big (cn own) sh X ad cA cB D cl nest) (KC : zw_KC cl big nest cn tb M np N) (hR : d + 1 ≤ R.frames ∧ 64 * (d + 1) ≤ R.locals ∧ cells ≤ R.cells ∧ slots ≤ R.slots) (hck : zw_ck cc own nL ret tb np (pc, nx, 36, a, b, k, sw) = true) (hlen : (Nat.ble b st.length && Nat.ble (st.drop b).length 8 && zm_is sh k.toNatClampNeg (st.take b).reverse) = true)
    (hM : zw_Met l sh X ad cA cB D cl big nest M d a (st.take b).reverse μ r μ') (hP : va_P D cl (zw_W sh ad cA cB μ) H) (hS : va_S (zw_A sh ad) s.heap H locs) (hl : lv_has ls nL (zw_l ad lo))
    (kk : ∀ (H1 : Heap) (locs1 : List Loc), va_P D cl (zw_W sh ad cA cB μ') H1 → va_S (zw_A sh ad) s.heap H1 locs1 → W p l e R s m args below meth c H1 locs1 cells slots Q (F0 m nx ls ((r.toList ++ st.drop b).map (zw_v ad)))) : W p l e R s m args below meth c H locs cells slots Q (F0 m pc ls (st.map (zw_v ad))) := by
  obtain ⟨hx, hc, hml, hown, hts, hF, hinj⟩ := S
  simp only [zw_ck] at hck
  split at hck
  · cases hck
  rename_i ins len hd
  rw [Bool.and_eq_true] at hck
  obtain ⟨hnx, hck⟩ := hck
  have hnx := Nat.eq_of_beq_eq_true hnx
  split at hck
  · rename_i i
    simp only [Bool.and_eq_true] at hck hlen
    obtain ⟨h1, h2, h3⟩ := hck
    have h1 := Nat.eq_of_beq_eq_true h1
    have h3 := Nat.eq_of_beq_eq_true h3
    subst h1
    subst hnx
    have h2 := List.contains_iff_mem.mp h2
    obtain ⟨⟨y1, y2, y3, y4⟩, g2, g3, g5, ⟨T, kT, g6⟩, g4⟩ := KC.2.1 _ h2
    obtain ⟨⟨hl1, hl2⟩, his⟩ := hlen
    have hb1 : b ≤ st.length := Nat.le_of_ble_eq_true hl1
    have hb2 : (st.drop b).length ≤ 8 := Nat.le_of_ble_eq_true hl2
    have hSt : CallFix p m c cc nL s args big (cn own) := ⟨hx, hc, hml, hown, hts⟩
    generalize has : (st.take b).reverse = as at hM his
    have hst0 : st = as.reverse ++ st.drop b := by
      rw [← has, List.reverse_reverse, List.take_append_drop]
    have hlas : as.length = b := by
      rw [← has, List.length_reverse, List.length_take]
      omega
    match as, his, hM, hst0, hlas with
    | .inr j :: ar, his, hM, hst0, hlas =>
      simp only [zm_is] at his
      split at his
      · rename_i ci fs hj
        have hci := Nat.eq_of_beq_eq_true his
        subst hci
        have hw := zw_at (ad := ad) (cA := cA) (cB := cB) (μ := μ) hj
        obtain ⟨cellB, q1, q2, q3⟩ := va_recv hF.1 hP g6 hw
        have hp : PreV s H (M a).1.cls (ad j) (zw_P sh X ad cA cB D cl nest (.inr j :: ar) μ) (ar.map (zw_v ad)) := ⟨zw_blind KC.2.2.2, ⟨cellB, q1, q2, q3⟩, fun U hU hW => ⟨rfl, zw_F.to KC.2.2.2 hF (by rw [hU]; exact hS) hW, by rw [hU]; exact hP⟩⟩
        have hn : (ar.map (zw_v ad)).length = np a := by
          rw [List.length_map]
          simp only [List.length_cons] at hlas
          omega
        have hst : st.map (zw_v ad) = (ar.map (zw_v ad)).reverse ++ .ref (ad j) :: (st.drop b).map (zw_v ad) := by
          have h9 := congrArg (List.map (zw_v ad)) hst0
          rw [h9]
          simp only [List.reverse_cons, List.map_append, List.map_reverse, List.map_cons, List.map_nil, List.append_assoc, List.cons_append, List.nil_append, zw_v]
        have hrr : (zw_rm d).frames + 1 ≤ R.frames ∧ 8 + ((M a).2.2.1 + 11) + (zw_rm d).locals ≤ R.locals := by
          show d + 1 ≤ R.frames ∧ 8 + ((M a).2.2.1 + 11) + 64 * d ≤ R.locals
          have y4' : (M a).2.2.1 ≤ 45 := y4
          omega
        have hw8 : 2 * (F0 m pc ls (st.map (zw_v ad))).monitorRoom + (((st.drop b).map (zw_v ad)).map fun v => v.category).sum ≤ 8 := by
          rw [zw_cat]
          show 2 * 0 + _ ≤ 8
          omega
        have hre : (r.map (zw_v ad)).toList ++ (st.drop b).map (zw_v ad) = (r.toList ++ st.drop b).map (zw_v ad) := by
          rw [List.map_append]
          cases r <;> rfl
        rcases g2 with g2 | ⟨ho, g2⟩
        · have hr := va_runV (R := R) (below := below) (meth := meth) (e := e) (cells := cells) (slots := slots) (locs := locs) (g := F0 m pc ls (st.map (zw_v ad))) hSt hM ⟨callB_of (np a) hts (zw_goodIn KC.2.2.1 y3) rfl rfl rfl (hts _ y2) (hts _ g2) y1 hrr, hts _ g3, hts _ g5⟩ hp rfl hn hl.1 hst hw8 hd ⟨hR.2.2.1, hR.2.2.2⟩
          exact zw_after hr hS (fun H1 locs1 q1 q2 => by rw [hre]; exact kk H1 locs1 q1 q2)
        · have hr := va_runVN (R := R) (below := below) (meth := meth) (e := e) (cells := cells) (slots := slots) (locs := locs) (g := F0 m pc ls (st.map (zw_v ad))) hSt hM ⟨va_cnB (np a) hts (zw_goodIn KC.2.2.1 y3) rfl rfl rfl (hF.2.1 _ g2) (hts _ y2) y1 hrr, hts _ g3, hts _ g5⟩ hp rfl hn hl.1 hst hw8 hd ⟨hR.2.2.1, hR.2.2.2⟩
          exact zw_after hr hS (fun H1 locs1 q1 q2 => by rw [hre]; exact kk H1 locs1 q1 q2)
      · cases his
    | .inl _ :: _, his, _, _, _ => cases his
    | [], his, _, _, _ => cases his
  · cases hck
theorem zw_c33 (hck : zw_ck cc own nL ret tb np (pc, nx, 33, a, b, k, sw) = true) : decode cc pc = .ok (.ireturn, 1) ∧ ret = some .int := by
  simp only [zw_ck] at hck
  split at hck
  · cases hck
  rename_i ins len hd
  rw [Bool.and_eq_true] at hck
  obtain ⟨hnx, hck⟩ := hck
  split at hck
  · simp only [Bool.and_eq_true, decide_eq_true_eq] at hck
    obtain ⟨h1, h2⟩ := hck
    have h1 := Nat.eq_of_beq_eq_true h1
    subst h1
    exact ⟨hd, h2⟩
  · cases hck
theorem zw_c34 (hck : zw_ck cc own nL ret tb np (pc, nx, 34, a, b, k, sw) = true) : decode cc pc = .ok (.return_, 1) ∧ ret = none := by
  simp only [zw_ck] at hck
  split at hck
  · cases hck
  rename_i ins len hd
  rw [Bool.and_eq_true] at hck
  obtain ⟨hnx, hck⟩ := hck
  split at hck
  · simp only [Bool.and_eq_true, decide_eq_true_eq] at hck
    obtain ⟨h1, h2⟩ := hck
    have h1 := Nat.eq_of_beq_eq_true h1
    subst h1
    exact ⟨hd, h2⟩
  · cases hck
theorem zw_c37 (hck : zw_ck cc own nL ret tb np (pc, nx, 37, a, b, k, sw) = true) : decode cc pc = .ok (.ireturn, 1) ∧ ret = some .boolean := by
  simp only [zw_ck] at hck
  split at hck
  · cases hck
  rename_i ins len hd
  rw [Bool.and_eq_true] at hck
  obtain ⟨hnx, hck⟩ := hck
  split at hck
  · simp only [Bool.and_eq_true, decide_eq_true_eq] at hck
    obtain ⟨h1, h2⟩ := hck
    have h1 := Nat.eq_of_beq_eq_true h1
    subst h1
    exact ⟨hd, h2⟩
  · cases hck
theorem zw_takeL {st : List zm_v} {b n : Nat} (h : b ≤ n) : (st.take b).reverse.length ≤ n := by
  rw [List.length_reverse, List.length_take]
  omega
theorem zw_c35n (KC : zw_KC cl big nest cn tb M np N) (hck : zw_ck cc own nL ret tb np (pc, nx, 35, a, b, k, sw) = true) : a < N ∧ b ≤ (M a).2.2.1 := by
  simp only [zw_ck] at hck
  split at hck
  · cases hck
  rename_i ins len hd
  rw [Bool.and_eq_true] at hck
  obtain ⟨hnx, hck⟩ := hck
  split at hck
  · simp only [Bool.and_eq_true] at hck
    obtain ⟨h1, h2, h3⟩ := hck
    have h2 := List.contains_iff_mem.mp h2
    have h3 := Nat.eq_of_beq_eq_true h3
    have h4 := (KC.1 _ h2).2.2.2
    exact ⟨h4.1, by rw [h3]; exact h4.2⟩
  · cases hck
theorem zw_c36n (KC : zw_KC cl big nest cn tb M np N) (hck : zw_ck cc own nL ret tb np (pc, nx, 36, a, b, k, sw) = true) : a < N ∧ b ≤ (M a).2.2.1 := by
  simp only [zw_ck] at hck
  split at hck
  · cases hck
  rename_i ins len hd
  rw [Bool.and_eq_true] at hck
  obtain ⟨hnx, hck⟩ := hck
  split at hck
  · simp only [Bool.and_eq_true] at hck
    obtain ⟨h1, h2, h3⟩ := hck
    have h2 := List.contains_iff_mem.mp h2
    have h3 := Nat.eq_of_beq_eq_true h3
    have h4 := (KC.2.1 _ h2).2.2.2.2.2
    exact ⟨h4.1, by rw [h3]; exact h4.2⟩
  · cases hck
theorem zm_at_mem : ∀ {t : List zm_q} {pc : Nat} {q : zm_q}, zm_at t pc = some q → q ∈ t ∧ q.1 = pc := by
  intro t
  induction t with
  | nil => intro pc q h; cases h
  | cons x r ih =>
    intro pc q h
    unfold zm_at at h
    cases hb : Nat.beq x.1 pc with
    | true =>
      rw [hb] at h
      cases h
      exact ⟨List.mem_cons_self, Nat.eq_of_beq_eq_true hb⟩
    | false =>
      rw [hb] at h
      obtain ⟨h1, h2⟩ := ih h
      exact ⟨List.mem_cons_of_mem _ h1, h2⟩
theorem zw_inner {d : Nat} {call : Nat → List zm_v → zm_u → Option (Option zm_v × zm_u)} {t : List zm_q} {r : Option zm_v} (S : zw_C p m c cc nL s args big (cn own) sh X ad cA cB D cl nest) (K : zw_K cl big nest cn tb) (KC : zw_KC cl big nest cn tb M np N) (hR : d + 1 ≤ R.frames ∧ 64 * (d + 1) ≤ R.locals ∧ cells ≤ R.cells ∧ slots ≤ R.slots) (hret : meth.sig.returnType = ret) (hlocks : meth.locks = false)
    {Qc : Array Value → State → Outcome → State → Prop} {free : Addr → Prop} (hfin : ∀ (H : Heap) (locs : List Loc), va_P D cl (zw_W sh ad cA cB μ') H → va_S (zw_A sh ad) s.heap H locs → (∀ t : State, t.heap = H → s.WarmedH t.vm → Qc args s (.returned (r.map (zw_v ad))) t) ∧ ∀ q ∈ locs, free q.base)
    (hck : ∀ q ∈ t, zw_ck cc own nL ret tb np q = true) (ih : ∀ n as μ r μ', n < N → as.length ≤ (M n).2.2.1 → call n as μ = some (r, μ') → zw_Met l sh X ad cA cB D cl big nest M d n as μ r μ') :
    ∀ (f pc : Nat) (lo : zm_L) (st : List zm_v) (μ : zm_u) (H : Heap) (locs : List Loc) (ls : Array Slot), zm_loop sh X call t f pc lo st μ = some (r, μ') → va_P D cl (zw_W sh ad cA cB μ) H → va_S (zw_A sh ad) s.heap H locs → lv_has ls nL (zw_l ad lo) → zm_srt lo = true →
      W p l e R s m args below meth c H locs cells slots (MQ below Qc args s cells slots free) (F0 m pc ls (st.map (zw_v ad))) := by
  have hR2 : 1 ≤ R.frames ∧ 40 ≤ R.locals ∧ cells ≤ R.cells ∧ slots ≤ R.slots := by omega
  intro f
  induction f with
  | zero => intro pc lo st μ H locs ls h; cases h
  | succ f ihf =>
    intro pc lo st μ H locs ls h hP hS hl hs
    unfold zm_loop at h
    cases hq : zm_at t pc with
    | none => rw [hq] at h; cases h
    | some q =>
      rw [hq] at h
      simp only at h
      obtain ⟨hqm, hqp⟩ := zm_at_mem hq
      have hc := hck q hqm
      unfold zm_st at h
      cases h1 : zm_s1 sh X q lo st μ with
      | some y =>
        obtain ⟨bs, pc', lo', st', μ1⟩ := y
        rw [h1] at h
        simp only at h
        cases hb : bs.all id with
        | false => rw [hb] at h; cases h
        | true =>
          rw [hb] at h
          simp only [cond_true] at h
          have k9 := zw_one (p := p) (l := l) (e := e) (R := R) (m := m) (below := below) (meth := meth) (cells := cells) (slots := slots) (Q := MQ below Qc args s cells slots free) S K hR2 hc h1 hb hP hS hl hs (fun H1 locs1 ls1 q1 q2 q3 q4 => ihf pc' lo' st' μ1 H1 locs1 ls1 h q1 q2 q3 q4)
          rw [hqp] at k9
          exact k9
      | none =>
        rw [h1] at h
        simp only at h
        cases h2 : zm_s2 sh call q lo st μ with
        | none => rw [h2] at h; cases h
        | some y =>
          rw [h2] at h
          obtain ⟨pc0, nx, op, a, b, k, sw⟩ := q
          simp only at hqp
          subst hqp
          unfold zm_s2 at h2
          simp only at h2
          split at h2
          · split at h2
            · cases h2
              exact zw_c30 S hc (ihf _ lo _ μ H locs ls h hP hS hl hs)
            · cases h2
          · split at h2
            · cases h2
              exact zw_c31 S hc (ihf _ lo _ μ H locs ls h hP hS hl hs)
            · cases h2
          · split at h2
            · cases h2
              exact zw_c32 S hc (ihf _ lo _ μ H locs ls h hP hS hl hs)
            · cases h2
          · split at h2
            · cases h2
              cases h
              have hd := zw_c33 hc
              exact W.iret S.1 S.2.1 (hret.trans hd.2) (hfin H locs hP hS).1 (hfin H locs hP hS).2 hd.1
            · cases h2
          · split at h2
            · cases h2
              cases h
              have hd := zw_c34 hc
              exact W.vret S.1 S.2.1 (hret.trans hd.2) (hfin H locs hP hS).1 (hfin H locs hP hS).2 hd.1
            · cases h2
          · cases hb : (Nat.ble b st.length && Nat.ble (st.drop b).length 8) with
            | false => rw [hb] at h2; cases h2
            | true =>
              rw [hb] at h2
              simp only [cond_true] at h2
              split at h2
              · rename_i r1 μ1 hcl
                cases h2
                exact zw_c35 S KC hR hc hb (ih _ _ _ _ _ (zw_c35n KC hc).1 (zw_takeL (zw_c35n KC hc).2) hcl) hP hS hl (fun H1 locs1 q1 q2 => ihf _ lo _ μ1 H1 locs1 ls h q1 q2 hl hs)
              · cases h2
          · cases hb : (Nat.ble b st.length && Nat.ble (st.drop b).length 8 && zm_is sh k.toNatClampNeg (st.take b).reverse) with
            | false => rw [hb] at h2; cases h2
            | true =>
              rw [hb] at h2
              simp only [cond_true] at h2
              split at h2
              · rename_i r1 μ1 hcl
                cases h2
                exact zw_c36 S KC hR hc hb (ih _ _ _ _ _ (zw_c36n KC hc).1 (zw_takeL (zw_c36n KC hc).2) hcl) hP hS hl (fun H1 locs1 q1 q2 => ihf _ lo _ μ1 H1 locs1 ls h q1 q2 hl hs)
              · cases h2
          · split at h2
            · rename_i v
              cases hv : decide (v = 0 ∨ v = 1) with
              | false => rw [hv] at h2; cases h2
              | true =>
                rw [hv] at h2
                cases h2
                cases h
                have hd := zw_c37 hc
                have hv := of_decide_eq_true hv
                exact W.zret (ty := .boolean) S.1 S.2.1 (hret.trans hd.2) (by rcases hv with rfl | rfl <;> rfl) (hfin H locs hP hS).1 (hfin H locs hP hS).2 hd.1
            · cases h2
          · cases h2
theorem zw_args {ad : Nat → Nat} : ∀ (as : List zm_v) (i : Nat), lv_args i (as.map (zw_v ad)) = zw_l ad (zm_args i as) := by
  intro as
  induction as with
  | nil => intro i; rfl
  | cons v r ih =>
    intro i
    have hv : (zw_v ad v).category = 1 := by cases v <;> rfl
    show (i, zw_v ad v) :: lv_args (if (zw_v ad v).category = 2 then i + 2 else i + 1) (r.map (zw_v ad)) = (i, zw_v ad v) :: zw_l ad (zm_args (i + 1) r)
    rw [hv, if_neg (by decide), ih]
theorem zw_slen {ad : Nat → Nat} : ∀ (as : List zm_v), (lg_sl (as.map (zw_v ad))).length = as.length := by
  intro as
  induction as with
  | nil => rfl
  | cons v r ih =>
    have hv : (zw_v ad v).category = 1 := by cases v <;> rfl
    have e1 : lg_sl ((v :: r).map (zw_v ad)) = (if (zw_v ad v).category = 2 then [Slot.val (zw_v ad v), .second] else [Slot.val (zw_v ad v)]) ++ lg_sl (r.map (zw_v ad)) := by
      unfold lg_sl
      rw [List.map_cons, List.flatMap_cons]
    rw [e1, hv, if_neg (by decide), List.length_append, ih]
    simp only [List.length_cons, List.length_nil]
    omega
theorem zm_args_srt : ∀ (as : List zm_v) (i : Nat), zm_srt (zm_args i as) = true ∧ ∀ q ∈ zm_args i as, i ≤ q.1 := by
  intro as
  induction as with
  | nil => intro i; exact ⟨rfl, fun q h => by cases h⟩
  | cons v r ih =>
    intro i
    obtain ⟨h1, h2⟩ := ih (i + 1)
    refine ⟨?_, fun q hq => ?_⟩
    · unfold zm_args zm_srt
      rw [Bool.and_eq_true]
      refine ⟨?_, h1⟩
      rw [List.all_eq_true]
      intro q hq
      have := h2 q hq
      simp
      omega
    · rcases List.mem_cons.mp hq with rfl | hq
      · exact Nat.le_refl i
      · have := h2 q hq
        omega
/-- a run of the small machine is a contract -/
theorem zw_sound {cd : Nat → List zm_q} {F : Nat} (hinj : ∀ i j : Nat, i < sh.length → j < sh.length → ad i = ad j → i = j) (K : zw_K cl big nest cn tb) (KC : zw_KC cl big nest cn tb M np N)
    (hck : ∀ n, n < N → plainName (M n).1.cls = true ∧ cn (M n).2.2.2.2 = (M n).1.cls ∧ ∀ q ∈ cd n, zw_ck (M n).2.1 (M n).2.2.2.2 (M n).2.2.1 (M n).2.2.2.1 tb np q = true) :
    ∀ (d n : Nat) (as : List zm_v) (μ : zm_u) (r : Option zm_v) (μ' : zm_u), n < N → as.length ≤ (M n).2.2.1 → zm_ev sh cd X F d n as μ = some (r, μ') → zw_Met l sh X ad cA cB D cl big nest M d n as μ r μ' := by
  intro d
  induction d with
  | zero => intro n as μ r μ' _ _ h; cases h
  | succ d ih =>
    intro n as μ r μ' hn hlen h
    unfold zm_ev at h
    obtain ⟨hp, hcn, hq⟩ := hck n hn
    refine Met.ofW (cc := (M n).2.1) (maxL := (M n).2.2.1) (ret := (M n).2.2.2.1) hp rfl ?_
    intro p e s m args below meth c s₁ B hml hv
    obtain ⟨rfl, hF, hP⟩ := hv
    have hts := atoms_spec (ws := zw_ws big (M n)) B.pre
    have hown : s.vm.findClass (M n).1.cls = some m.cls := findClass_of_methodNamed B.named
    have hl := lv_entry (as.map (zw_v ad)) (n := (M n).2.2.1) (by rw [zw_slen]; exact hlen)
    rw [lg_entry_eq]
    rw [zw_args] at hl
    generalize (lg_sl (as.map (zw_v ad)) ++ List.replicate ((M n).2.2.1 - (lg_sl (as.map (zw_v ad))).length) Slot.unset).toArray = ls at hl ⊢
    have S : zw_C p m c (M n).2.1 (M n).2.2.1 s (as.map (zw_v ad)).toArray big (cn (M n).2.2.2.2) sh X ad cA cB D cl nest := ⟨B.exec, B.bytes, hml, by rw [hcn]; exact hown, fun w hw => hts w (List.mem_cons_of_mem _ hw), hF, hinj⟩
    exact zw_inner (d := d) S K KC ⟨Nat.le_refl _, Nat.le_refl _, Nat.le_refl _, Nat.le_refl _⟩ B.returns B.notSynchronized (fun H locs hP hS => ⟨fun t ht _ => ⟨⟨rfl, by rw [ht]; exact hP⟩, hS.F ht⟩, hS.2.2⟩) hq (fun n as μ r μ' h1 h2 h3 => ih n as μ r μ' h1 h2 h3) F 0 _ [] μ s.heap [] ls h hP va_S.rf hl (zm_args_srt as 0).1
end ZY
end

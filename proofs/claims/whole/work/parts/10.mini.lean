abbrev zm_v : Type := Int32 ⊕ Nat
abbrev zm_u : Type := Nat → Nat → Int32
abbrev zm_L : Type := List (Nat × zm_v)
abbrev zm_S : Type := Nat × zm_L × List zm_v × zm_u
abbrev zm_q : Type := Nat × Nat × Nat × Nat × Nat × Int32 × List (Int32 × Nat)
abbrev zm_h : Type := (Nat × Bool) ⊕ (Nat × List (Option Nat))
abbrev zm_T : Type := Nat × (Nat → Int32)
def zm_up (μ : zm_u) (c i : Nat) (v : Int32) : zm_u := fun c' i' => cond (Nat.beq c' c) (cond (Nat.beq i' i) v (μ c' i')) (μ c' i')
def zm_set (l : zm_L) (i : Nat) (v : zm_v) : zm_L := match l with
  | [] => [(i, v)]
  | (j, w) :: r => cond (Nat.beq i j) ((i, v) :: r) (cond (Nat.ble i j) ((i, v) :: (j, w) :: r) ((j, w) :: zm_set r i v))
def zm_get (l : zm_L) (i : Nat) : Option zm_v := match l with
  | [] => none
  | (j, w) :: r => cond (Nat.beq j i) (some w) (zm_get r i)
def zm_at (tb : List zm_q) (pc : Nat) : Option zm_q := match tb with
  | [] => none
  | q :: r => cond (Nat.beq q.1 pc) (some q) (zm_at r pc)
def zm_pt : Nat → Int32 := fun i => ([0, 0, 0, 2, 2, 3, 2, 1, 1, 1, 1, 1, 1, 2, 3, 2, 1, 1] : List Int32).getD i 0
def zm_cp (μ : zm_u) (f t : Nat) (sp dp n : Int32) : zm_u := fun c i => cond (Nat.beq c t) (if dp.toNatClampNeg ≤ i ∧ i < dp.toNatClampNeg + n.toNatClampNeg then μ f (sp.toNatClampNeg + (i - dp.toNatClampNeg)) else μ c i) (μ c i)

def zm_s1 (sh : List zm_h) (X : zm_T) (q : zm_q) (l : zm_L) (st : List zm_v) (μ : zm_u) : Option (List Bool × zm_S) :=
  match q with
  | (_, nx, op, a, b, k, _) =>
  match op with
  | 0 => some ([], nx, l, .inl k :: st, μ)
  | 1 => match zm_get l a with
    | some (.inl v) => some ([], nx, l, .inl v :: st, μ)
    | _ => none
  | 2 => match st with
    | .inl v :: r => some ([], nx, zm_set l a (.inl v), r, μ)
    | _ => none
  | 3 => match zm_get l a with
    | some (.inl x) => some ([], nx, zm_set l a (.inl (x + k)), st, μ)
    | _ => none
  | 4 => match st with
    | .inr j :: r => match sh[j]? with
      | some (.inr (ci, fs)) => match Nat.beq ci b with
        | true => match fs[a]? with
          | some none => some ([], nx, l, .inl (μ j a) :: r, μ)
          | some (some t) => some ([], nx, l, .inr t :: r, μ)
          | none => none
        | false => none
      | _ => none
    | _ => none
  | 5 => match st with
    | .inl x :: .inr j :: r => match sh[j]? with
      | some (.inr (ci, fs)) => match Nat.beq ci b with
        | true => match fs[a]? with
          | some none => some ([], nx, l, r, zm_up μ j a x)
          | _ => none
        | false => none
      | _ => none
    | _ => none
  | 6 => match st with
    | .inl i :: .inr j :: r => match sh[j]? with
      | some (.inl (n, false)) => some ([decide (0 ≤ i.toInt ∧ i.toInt < (n : Int))], nx, l, .inl (μ j i.toNatClampNeg) :: r, μ)
      | _ => none
    | _ => none
  | 7 => match st with
    | .inl x :: .inl i :: .inr j :: r => match sh[j]? with
      | some (.inl (n, false)) => some ([decide (0 ≤ i.toInt ∧ i.toInt < (n : Int))], nx, l, r, zm_up μ j i.toNatClampNeg x)
      | _ => none
    | _ => none
  | 8 => match st with
    | .inl i :: .inr j :: r => match sh[j]? with
      | some (.inl (n, true)) => some ([decide (0 ≤ i.toInt ∧ i.toInt < (n : Int))], nx, l, .inl (μ j i.toNatClampNeg) :: r, μ)
      | _ => none
    | _ => none
  | 9 => match st with
    | .inl x :: .inl i :: .inr j :: r => match sh[j]? with
      | some (.inl (n, true)) => some ([decide (0 ≤ i.toInt ∧ i.toInt < (n : Int)), decide (x = 0 ∨ x = 1)], nx, l, r, zm_up μ j i.toNatClampNeg x)
      | _ => none
    | _ => none
  | 10 => match st with
    | .inl y :: .inl x :: r => some ([], nx, l, .inl (x + y) :: r, μ)
    | _ => none
  | 11 => match st with
    | .inl y :: .inl x :: r => some ([], nx, l, .inl (x - y) :: r, μ)
    | _ => none
  | 12 => match st with
    | .inl y :: .inl x :: r => some ([], nx, l, .inl (x * y) :: r, μ)
    | _ => none
  | 13 => match st with
    | .inl y :: .inl x :: r => some ([], nx, l, .inl (x &&& y) :: r, μ)
    | _ => none
  | 14 => match st with
    | .inl y :: .inl x :: r => some ([], nx, l, .inl (x <<< (y &&& 31)) :: r, μ)
    | _ => none
  | 15 => match st with
    | .inl y :: .inl x :: r => some ([], nx, l, .inl (x >>> (y &&& 31)) :: r, μ)
    | _ => none
  | 16 => match st with
    | v :: r => some ([], nx, l, v :: v :: r, μ)
    | _ => none
  | 17 => match st with
    | v :: w :: r => some ([], nx, l, v :: w :: v :: w :: r, μ)
    | _ => none
  | 18 => match st with
    | _ :: r => some ([], nx, l, r, μ)
    | _ => none
  | 19 => some ([], a, l, st, μ)
  | 20 => match st with
    | .inl i :: .inr 100 :: r => some ([decide (0 ≤ i.toInt ∧ i.toInt < 18)], nx, l, .inl (zm_pt i.toNatClampNeg) :: r, μ)
    | .inl i :: .inr 101 :: r => some ([decide (0 ≤ i.toInt ∧ i.toInt < (X.1 : Int))], nx, l, .inl (X.2 i.toNatClampNeg) :: r, μ)
    | _ => none
  | 21 => some ([], nx, l, .inr 100 :: st, μ)
  | 22 => match st with
    | .inr 101 :: r => some ([], nx, l, .inl (Int32.ofNat X.1) :: r, μ)
    | _ => none
  | 23 => match st with
    | .inl y :: .inl x :: r => some ([], nx, l, .inl (x.toUInt32 >>> (y.toUInt32 &&& Int32.toUInt32 31)).toInt32 :: r, μ)
    | _ => none
  | 24 => match st with
    | .inl x :: .inr j :: r => match sh[j]? with
      | some (.inr (ci, fs)) => match Nat.beq ci b with
        | true => match fs[a]? with
          | some none => some ([decide (x = 0 ∨ x = 1)], nx, l, r, zm_up μ j a x)
          | _ => none
        | false => none
      | _ => none
    | _ => none
  | 25 => match st with
    | .inl y :: .inl x :: r => some ([Nat.ble r.length 8], nx, l, .inl (cond (decide (x < y)) y x) :: r, μ)
    | _ => none
  | 26 => match st with
    | .inl n :: .inl dp :: .inr t :: .inl sp :: .inr f :: r => match sh[f]?, sh[t]? with
      | some (.inl (n0, false)), some (.inl (n1, false)) => some ([Nat.ble r.length 8, decide (0 ≤ n.toInt ∧ 0 ≤ dp.toInt ∧ 0 ≤ sp.toInt ∧ sp.toInt + n.toInt ≤ (n0 : Int) ∧ dp.toInt + n.toInt ≤ (n1 : Int))], nx, l, r, zm_cp μ f t sp dp n)
      | _, _ => none
    | _ => none
  | 27 => match zm_get l a with
    | some (.inr v) => some ([], nx, l, .inr v :: st, μ)
    | _ => none
  | 28 => some ([], nx, l, .inl k :: st, μ)
  | _ => none
def zm_c (b : Nat) (x y : Int32) : Bool := match b with
  | 0 => decide (x = y)
  | 1 => decide (¬ x = y)
  | 2 => decide (x < y)
  | 3 => decide (y ≤ x)
  | 4 => decide (y < x)
  | _ => decide (x ≤ y)
def zm_sw (sw : List (Int32 × Nat)) (d : Nat) (x : Int32) : Nat := match sw with
  | [] => d
  | (k, t) :: r => cond (decide (x = k)) t (zm_sw r d x)

def zm_is (sh : List zm_h) (ci : Nat) (as : List zm_v) : Bool := match as with
  | .inr j :: _ => match sh[j]? with
    | some (.inr (c, _)) => Nat.beq c ci
    | _ => false
  | _ => false
def zm_s2 (sh : List zm_h) (call : Nat → List zm_v → zm_u → Option (Option zm_v × zm_u)) (q : zm_q) (l : zm_L) (st : List zm_v) (μ : zm_u) : Option (zm_S ⊕ (Option zm_v × zm_u)) :=
  match q with
  | (_, nx, op, a, b, k, sw) => match op with
    | 30 => match st with
      | .inl x :: r => some (.inl (cond (zm_c b x 0) a nx, l, r, μ))
      | _ => none
    | 31 => match st with
      | .inl y :: .inl x :: r => some (.inl (cond (zm_c b x y) a nx, l, r, μ))
      | _ => none
    | 32 => match st with
      | .inl x :: r => some (.inl (zm_sw sw a x, l, r, μ))
      | _ => none
    | 33 => match st with
      | [.inl v] => some (.inr (some (.inl v), μ))
      | _ => none
    | 34 => match st with
      | [] => some (.inr (none, μ))
      | _ => none
    | 35 => cond (Nat.ble b st.length && Nat.ble (st.drop b).length 8) (match call a (st.take b).reverse μ with
      | some (r, μ') => some (.inl (nx, l, r.toList ++ st.drop b, μ'))
      | none => none) none
    | 36 => cond (Nat.ble b st.length && Nat.ble (st.drop b).length 8 && zm_is sh k.toNatClampNeg (st.take b).reverse) (match call a (st.take b).reverse μ with
      | some (r, μ') => some (.inl (nx, l, r.toList ++ st.drop b, μ'))
      | none => none) none
    | 37 => match st with
      | [.inl v] => cond (decide (v = 0 ∨ v = 1)) (some (.inr (some (.inl v), μ))) none
      | _ => none
    | _ => none
def zm_st (sh : List zm_h) (X : zm_T) (call : Nat → List zm_v → zm_u → Option (Option zm_v × zm_u)) (q : zm_q) (l : zm_L) (st : List zm_v) (μ : zm_u) : Option (zm_S ⊕ (Option zm_v × zm_u)) :=
  match zm_s1 sh X q l st μ with
  | some (bs, s) => cond (bs.all id) (some (.inl s)) none
  | none => zm_s2 sh call q l st μ
def zm_loop (sh : List zm_h) (X : zm_T) (call : Nat → List zm_v → zm_u → Option (Option zm_v × zm_u)) (tb : List zm_q) : Nat → Nat → zm_L → List zm_v → zm_u → Option (Option zm_v × zm_u)
  | 0, _, _, _, _ => none
  | f + 1, pc, l, st, μ => match zm_at tb pc with
    | none => none
    | some q => match zm_st sh X call q l st μ with
      | some (.inl (pc', l', st', μ')) => zm_loop sh X call tb f pc' l' st' μ'
      | some (.inr x) => some x
      | none => none
def zm_args (i : Nat) (as : List zm_v) : zm_L := match as with
  | [] => []
  | v :: r => (i, v) :: zm_args (i + 1) r
def zm_ev (sh : List zm_h) (cd : Nat → List zm_q) (X : zm_T) (F : Nat) : Nat → Nat → List zm_v → zm_u → Option (Option zm_v × zm_u)
  | 0, _, _, _ => none
  | d + 1, n, as, μ => zm_loop sh X (zm_ev sh cd X F d) (cd n) F 0 (zm_args 0 as) [] μ
section ZM
variable {sh : List zm_h} {X : zm_T} {cd : Nat → List zm_q}
theorem zm_st_mono {call call' : Nat → List zm_v → zm_u → Option (Option zm_v × zm_u)} (hc : ∀ n as μ x, call n as μ = some x → call' n as μ = some x) {q : zm_q} {l : zm_L} {st : List zm_v} {μ : zm_u} {x : zm_S ⊕ (Option zm_v × zm_u)} (h : zm_st sh X call q l st μ = some x) : zm_st sh X call' q l st μ = some x := by
  unfold zm_st at h ⊢
  split at h
  · exact h
  · obtain ⟨pc, nx, op, a, b, k, sw⟩ := q
    unfold zm_s2 at h ⊢
    simp only at h ⊢
    split at h
    · exact h
    · exact h
    · exact h
    · exact h
    · exact h
    · cases hb : (Nat.ble b st.length && Nat.ble (st.drop b).length 8) with
      | false => rw [hb] at h; cases h
      | true =>
        rw [hb] at h
        simp only [cond_true] at h ⊢
        cases hq : call a (st.take b).reverse μ with
        | none => rw [hq] at h; cases h
        | some y => rw [hq] at h; rw [hc _ _ _ _ hq]; exact h
    · cases hb : (Nat.ble b st.length && Nat.ble (st.drop b).length 8 && zm_is sh k.toNatClampNeg (st.take b).reverse) with
      | false => rw [hb] at h; cases h
      | true =>
        rw [hb] at h
        simp only [cond_true] at h ⊢
        cases hq : call a (st.take b).reverse μ with
        | none => rw [hq] at h; cases h
        | some y => rw [hq] at h; rw [hc _ _ _ _ hq]; exact h
    · exact h
    · cases h
theorem zm_loop_mono {call call' : Nat → List zm_v → zm_u → Option (Option zm_v × zm_u)} (hc : ∀ n as μ x, call n as μ = some x → call' n as μ = some x) {tb : List zm_q} : ∀ (f f' : Nat) (pc : Nat) (l : zm_L) (st : List zm_v) (μ : zm_u) (x : Option zm_v × zm_u), f ≤ f' → zm_loop sh X call tb f pc l st μ = some x → zm_loop sh X call' tb f' pc l st μ = some x := by
  intro f
  induction f with
  | zero => intro f' pc l st μ x _ h; cases h
  | succ f ih =>
    intro f' pc l st μ x hf h
    obtain ⟨g, rfl⟩ : ∃ g, f' = g + 1 := ⟨f' - 1, by omega⟩
    unfold zm_loop at h ⊢
    cases hq : zm_at tb pc with
    | none => rw [hq] at h; cases h
    | some q =>
      rw [hq] at h
      simp only at h ⊢
      cases hs : zm_st sh X call q l st μ with
      | none => rw [hs] at h; cases h
      | some y =>
        rw [hs] at h
        rw [zm_st_mono hc hs]
        cases y with
        | inl s =>
          obtain ⟨pc', l', st', μ'⟩ := s
          exact ih g pc' l' st' μ' x (by omega) h
        | inr y => exact h
theorem zm_ev_mono {F F' : Nat} (hF : F ≤ F') : ∀ (d d' : Nat), d ≤ d' → ∀ n as μ x, zm_ev sh cd X F d n as μ = some x → zm_ev sh cd X F' d' n as μ = some x := by
  intro d
  induction d with
  | zero => intro d' _ n as μ x h; cases h
  | succ d ih =>
    intro d' hd n as μ x h
    obtain ⟨g, rfl⟩ : ∃ g, d' = g + 1 := ⟨d' - 1, by omega⟩
    unfold zm_ev at h ⊢
    exact zm_loop_mono (fun n as μ x h => ih g (by omega) n as μ x h) F F' _ _ _ _ _ hF h

def zm_V (sh : List zm_h) (cd : Nat → List zm_q) (X : zm_T) (d n pc : Nat) (l : zm_L) (st : List zm_v) (μ : zm_u) (post : Option zm_v → zm_u → Prop) : Prop :=
  ∃ (F : Nat) (r : Option zm_v) (μ' : zm_u), zm_loop sh X (zm_ev sh cd X F d) (cd n) F pc l st μ = some (r, μ') ∧ post r μ'

def zm_E (sh : List zm_h) (cd : Nat → List zm_q) (X : zm_T) (d n : Nat) (as : List zm_v) (μ : zm_u) (post : Option zm_v → zm_u → Prop) : Prop :=
  ∃ (F : Nat) (r : Option zm_v) (μ' : zm_u), zm_ev sh cd X F d n as μ = some (r, μ') ∧ post r μ'
variable {d n pc : Nat} {l : zm_L} {st : List zm_v} {μ : zm_u} {post : Option zm_v → zm_u → Prop}
theorem zm_E_of {as : List zm_v} (h : zm_V sh cd X d n 0 (zm_args 0 as) [] μ post) : zm_E sh cd X (d + 1) n as μ post := h
theorem zm_E_mono {d' : Nat} {as : List zm_v} {post' : Option zm_v → zm_u → Prop} (h : zm_E sh cd X d n as μ post) (hd : d ≤ d') (hp : ∀ r μ', post r μ' → post' r μ') : zm_E sh cd X d' n as μ post' := by
  obtain ⟨F, r, μ', h1, h2⟩ := h
  exact ⟨F, r, μ', zm_ev_mono (Nat.le_refl F) d d' hd _ _ _ _ h1, hp _ _ h2⟩
theorem zm_V_post {post' : Option zm_v → zm_u → Prop} (h : zm_V sh cd X d n pc l st μ post) (hp : ∀ r μ', post r μ' → post' r μ') : zm_V sh cd X d n pc l st μ post' := by
  obtain ⟨F, r, μ', h1, h2⟩ := h
  exact ⟨F, r, μ', h1, hp _ _ h2⟩
theorem zm_V_step {q : zm_q} {pc' : Nat} {l' : zm_L} {st' : List zm_v} {μ' : zm_u} (hq : zm_at (cd n) pc = some q) (hs : ∀ call, zm_st sh X call q l st μ = some (.inl (pc', l', st', μ'))) (k : zm_V sh cd X d n pc' l' st' μ' post) : zm_V sh cd X d n pc l st μ post := by
  obtain ⟨F, r, μ1, h1, h2⟩ := k
  refine ⟨F + 1, r, μ1, ?_, h2⟩
  unfold zm_loop
  rw [hq]
  simp only
  rw [hs]
  exact zm_loop_mono (fun n as μ x h => zm_ev_mono (Nat.le_succ F) d d (Nat.le_refl d) n as μ x h) F F _ _ _ _ _ (Nat.le_refl F) h1
def zm_x (sh : List zm_h) (X : zm_T) : List zm_q → zm_S → Option (List Bool × zm_S)
  | [], s => some ([], s)
  | q :: r, (pc, l, st, μ) => cond (Nat.beq q.1 pc) (match zm_s1 sh X q l st μ with
    | some (bs, s) => match zm_x sh X r s with
      | some (bs', s') => some (bs ++ bs', s')
      | none => none
    | none => none) none
theorem zm_s1_st {call : Nat → List zm_v → zm_u → Option (Option zm_v × zm_u)} {q : zm_q} {bs : List Bool} {s : zm_S} (h : zm_s1 sh X q l st μ = some (bs, s)) (hb : bs.all id = true) : zm_st sh X call q l st μ = some (.inl s) := by
  unfold zm_st
  rw [h]
  simp only
  rw [hb]
  rfl
theorem zm_run : ∀ (qs : List zm_q) (pc : Nat) (l : zm_L) (st : List zm_v) (μ : zm_u) (bs : List Bool) (pc' : Nat) (l' : zm_L) (st' : List zm_v) (μ' : zm_u), qs.all (fun q => zm_at (cd n) q.1 == some q) = true → zm_x sh X qs (pc, l, st, μ) = some (bs, (pc', l', st', μ')) → bs.all id = true →
    zm_V sh cd X d n pc' l' st' μ' post → zm_V sh cd X d n pc l st μ post := by
  intro qs
  induction qs with
  | nil =>
    intro pc l st μ bs pc' l' st' μ' _ hx _ k
    cases hx
    exact k
  | cons q r ih =>
    intro pc l st μ bs pc' l' st' μ' hq hx hb k
    simp only [List.all_cons, Bool.and_eq_true, beq_iff_eq] at hq
    unfold zm_x at hx
    cases hp : Nat.beq q.1 pc with
    | false => rw [hp] at hx; cases hx
    | true =>
      rw [hp] at hx
      simp only [cond_true] at hx
      cases h1 : zm_s1 sh X q l st μ with
      | none => rw [h1] at hx; cases hx
      | some y =>
        obtain ⟨b1, s1⟩ := y
        obtain ⟨pc1, l1, st1, μ1⟩ := s1
        rw [h1] at hx
        simp only at hx
        cases h2 : zm_x sh X r (pc1, l1, st1, μ1) with
        | none => rw [h2] at hx; cases hx
        | some y =>
          obtain ⟨b2, s2⟩ := y
          rw [h2] at hx
          simp only [Option.some.injEq, Prod.mk.injEq] at hx
          obtain ⟨e1, e2⟩ := hx
          subst e1
          rw [List.all_append, Bool.and_eq_true] at hb
          have hpc : q.1 = pc := Nat.eq_of_beq_eq_true hp
          refine zm_V_step (q := q) (by rw [← hpc]; exact hq.1) (fun call => zm_s1_st h1 hb.1) ?_
          exact ih pc1 l1 st1 μ1 b2 pc' l' st' μ' hq.2 (by rw [h2, e2]) hb.2 k
theorem zm_if {nx a b : Nat} {k : Int32} {sw : List (Int32 × Nat)} {x : Int32} {r : List zm_v} (hq : zm_at (cd n) pc = some (pc, nx, 30, a, b, k, sw)) (kt : zm_c b x 0 = true → zm_V sh cd X d n a l r μ post) (kf : zm_c b x 0 = false → zm_V sh cd X d n nx l r μ post) : zm_V sh cd X d n pc l (.inl x :: r) μ post := by
  cases hc : zm_c b x 0 with
  | true => exact zm_V_step hq (fun call => by show some (Sum.inl (cond (zm_c b x 0) a nx, l, r, μ)) = _; rw [hc]; rfl) (kt hc)
  | false => exact zm_V_step hq (fun call => by show some (Sum.inl (cond (zm_c b x 0) a nx, l, r, μ)) = _; rw [hc]; rfl) (kf hc)
theorem zm_icmp {nx a b : Nat} {k : Int32} {sw : List (Int32 × Nat)} {x y : Int32} {r : List zm_v} (hq : zm_at (cd n) pc = some (pc, nx, 31, a, b, k, sw)) (kt : zm_c b x y = true → zm_V sh cd X d n a l r μ post) (kf : zm_c b x y = false → zm_V sh cd X d n nx l r μ post) : zm_V sh cd X d n pc l (.inl y :: .inl x :: r) μ post := by
  cases hc : zm_c b x y with
  | true => exact zm_V_step hq (fun call => by show some (Sum.inl (cond (zm_c b x y) a nx, l, r, μ)) = _; rw [hc]; rfl) (kt hc)
  | false => exact zm_V_step hq (fun call => by show some (Sum.inl (cond (zm_c b x y) a nx, l, r, μ)) = _; rw [hc]; rfl) (kf hc)
theorem zm_switch {nx a b : Nat} {k : Int32} {sw : List (Int32 × Nat)} {x : Int32} {r : List zm_v} (hq : zm_at (cd n) pc = some (pc, nx, 32, a, b, k, sw)) (kk : zm_V sh cd X d n (zm_sw sw a x) l r μ post) : zm_V sh cd X d n pc l (.inl x :: r) μ post :=
  zm_V_step hq (fun call => rfl) kk
theorem zm_iret {nx a b : Nat} {k : Int32} {sw : List (Int32 × Nat)} {v : Int32} (hq : zm_at (cd n) pc = some (pc, nx, 33, a, b, k, sw)) (h : post (some (.inl v)) μ) : zm_V sh cd X d n pc l [.inl v] μ post :=
  ⟨1, _, _, by unfold zm_loop; rw [hq]; rfl, h⟩
theorem zm_zret {nx a b : Nat} {k : Int32} {sw : List (Int32 × Nat)} {v : Int32} (hq : zm_at (cd n) pc = some (pc, nx, 37, a, b, k, sw)) (hv : v = 0 ∨ v = 1) (h : post (some (.inl v)) μ) : zm_V sh cd X d n pc l [.inl v] μ post := by
  refine ⟨1, _, _, ?_, h⟩
  unfold zm_loop
  rw [hq]
  show (match (cond (decide (v = 0 ∨ v = 1)) (some (Sum.inr (some (Sum.inl v), μ))) none : Option (zm_S ⊕ (Option zm_v × zm_u))) with
      | some (.inl (pc', l', st', μ')) => _
      | some (.inr x) => some x
      | none => none) = _
  rw [decide_eq_true hv]
  rfl
theorem zm_vret {nx a b : Nat} {k : Int32} {sw : List (Int32 × Nat)} (hq : zm_at (cd n) pc = some (pc, nx, 34, a, b, k, sw)) (h : post none μ) : zm_V sh cd X d n pc l [] μ post :=
  ⟨1, _, _, by unfold zm_loop; rw [hq]; rfl, h⟩
theorem zm_V_call {q : zm_q} {nx a : Nat} {as rest : List zm_v} {P : Option zm_v → zm_u → Prop} (hq : zm_at (cd n) pc = some q) (hs : ∀ call, zm_st sh X call q l st μ = match call a as μ with
        | some (r, μ') => some (.inl (nx, l, r.toList ++ rest, μ'))
        | none => none) (he : zm_E sh cd X d a as μ P) (k : ∀ r μ', P r μ' → zm_V sh cd X d n nx l (r.toList ++ rest) μ' post) : zm_V sh cd X d n pc l st μ post := by
  obtain ⟨F1, r, μ1, h1, h2⟩ := he
  obtain ⟨F2, r2, μ2, h3, h4⟩ := k r μ1 h2
  refine ⟨F1 + F2 + 1, r2, μ2, ?_, h4⟩
  unfold zm_loop
  rw [hq]
  simp only
  rw [hs, zm_ev_mono (show F1 ≤ F1 + F2 + 1 by omega) d d (Nat.le_refl d) _ _ _ _ h1]
  exact zm_loop_mono (fun n as μ x h => zm_ev_mono (show F2 ≤ F1 + F2 + 1 by omega) d d (Nat.le_refl d) n as μ x h) F2 (F1 + F2) _ _ _ _ _ (by omega) h3
theorem zm_callS {nx a b : Nat} {k : Int32} {sw : List (Int32 × Nat)} {as rest : List zm_v} {P : Option zm_v → zm_u → Prop} (hq : zm_at (cd n) pc = some (pc, nx, 35, a, b, k, sw)) (has : (st.take b).reverse = as) (hr : st.drop b = rest) (hb : (Nat.ble b st.length && Nat.ble (st.drop b).length 8) = true)
    (he : zm_E sh cd X d a as μ P) (kk : ∀ r μ', P r μ' → zm_V sh cd X d n nx l (r.toList ++ rest) μ' post) : zm_V sh cd X d n pc l st μ post := by
  subst has
  subst hr
  refine zm_V_call hq (fun call => ?_) he kk
  show cond (Nat.ble b st.length && Nat.ble (st.drop b).length 8) _ none = _
  rw [hb]
  rfl
theorem zm_callV {nx a b : Nat} {k : Int32} {sw : List (Int32 × Nat)} {as rest : List zm_v} {P : Option zm_v → zm_u → Prop} (hq : zm_at (cd n) pc = some (pc, nx, 36, a, b, k, sw)) (has : (st.take b).reverse = as) (hr : st.drop b = rest) (hb : (Nat.ble b st.length && Nat.ble (st.drop b).length 8 && zm_is sh k.toNatClampNeg as) = true)
    (he : zm_E sh cd X d a as μ P) (kk : ∀ r μ', P r μ' → zm_V sh cd X d n nx l (r.toList ++ rest) μ' post) : zm_V sh cd X d n pc l st μ post := by
  subst has
  subst hr
  refine zm_V_call hq (fun call => ?_) he kk
  show cond (Nat.ble b st.length && Nat.ble (st.drop b).length 8 && zm_is sh k.toNatClampNeg (st.take b).reverse) _ none = _
  rw [hb]
  rfl
end ZM

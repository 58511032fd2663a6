/-! ways of steps: what is reached -/
def pathN (E : Nat → Nat → Prop) : Nat → Nat → Nat → Prop
  | 0, v, w => v = w
  | k + 1, v, w => ∃ u, E v u ∧ pathN E k u w
def rch (E : Nat → Nat → Prop) (v w : Nat) : Prop := ∃ k, pathN E k v w
theorem rch_refl {E : Nat → Nat → Prop} (v : Nat) : rch E v v := ⟨0, rfl⟩
theorem rch_cons {E : Nat → Nat → Prop} {v u w : Nat} (h : E v u) (r : rch E u w) : rch E v w := by
  obtain ⟨k, hk⟩ := r
  exact ⟨k + 1, u, h, hk⟩
theorem rch_one {E : Nat → Nat → Prop} {v u : Nat} (h : E v u) : rch E v u := rch_cons h (rch_refl u)
theorem rch_trans {E : Nat → Nat → Prop} {v u w : Nat} (h : rch E v u) (r : rch E u w) : rch E v w := by
  obtain ⟨k, hk⟩ := h
  induction k generalizing v with
  | zero => have : v = u := hk; rw [this]; exact r
  | succ k ih =>
    obtain ⟨x, h1, h2⟩ := hk
    exact rch_cons h1 (ih h2)
/-- along steps what holds at the end is carried to the start -/
theorem rch_ind {E : Nat → Nat → Prop} {P : Nat → Prop} {v w : Nat} (h : rch E v w) (hw : P w) (hs : ∀ x y, E x y → rch E y w → P y → P x) : P v := by
  obtain ⟨k, hk⟩ := h
  induction k generalizing v with
  | zero => have : v = w := hk; rw [this]; exact hw
  | succ k ih =>
    obtain ⟨x, h1, h2⟩ := hk
    exact hs v x h1 ⟨k, h2⟩ (ih h2)
/-- and from the start to the end -/
theorem rch_fwd {E : Nat → Nat → Prop} {P : Nat → Prop} {v w : Nat} (h : rch E v w) (hv : P v) (hs : ∀ x y, E x y → P x → P y) : P w := by
  obtain ⟨k, hk⟩ := h
  induction k generalizing v with
  | zero => have : v = w := hk; rw [← this]; exact hv
  | succ k ih =>
    obtain ⟨x, h1, h2⟩ := hk
    exact ih (hs v x h1 hv) h2
theorem rch_mono {E F : Nat → Nat → Prop} (hs : ∀ x y, E x y → F x y) {v w : Nat} (h : rch E v w) : rch F v w :=
  rch_ind (P := fun x => rch F x w) h (rch_refl w) (fun x y e _ r => rch_cons (hs x y e) r)
theorem rch_congr {E F : Nat → Nat → Prop} (hs : ∀ x y, E x y ↔ F x y) (v w : Nat) : rch E v w ↔ rch F v w :=
  ⟨rch_mono (fun x y => (hs x y).mp), rch_mono (fun x y => (hs x y).mpr)⟩
theorem rch_sym {E : Nat → Nat → Prop} (hs : ∀ x y, E x y → E y x) {v w : Nat} (h : rch E v w) : rch E w v :=
  rch_ind (P := fun x => rch E w x) h (rch_refl w) (fun x y e _ r => rch_trans r (rch_one (hs x y e)))
/-- one step more -/
theorem rch_add {E : Nat → Nat → Prop} (a b : Nat) (x y : Nat) : rch (fun v w => E v w ∨ (v = a ∧ w = b)) x y ↔ rch E x y ∨ (rch E x a ∧ rch E b y) := by
  constructor
  · intro h
    refine rch_ind (P := fun x => rch E x y ∨ (rch E x a ∧ rch E b y)) h (Or.inl (rch_refl y)) ?_
    intro v w e _ r
    rcases e with e | ⟨rfl, rfl⟩
    · rcases r with r | ⟨r1, r2⟩
      · exact Or.inl (rch_cons e r)
      · exact Or.inr ⟨rch_cons e r1, r2⟩
    · rcases r with r | ⟨_, r2⟩
      · exact Or.inr ⟨rch_refl _, r⟩
      · exact Or.inr ⟨rch_refl _, r2⟩
  · rintro (h | ⟨h1, h2⟩)
    · exact rch_mono (fun _ _ q => Or.inl q) h
    · exact rch_trans (rch_mono (fun _ _ q => Or.inl q) h1) (rch_cons (Or.inr ⟨rfl, rfl⟩) (rch_mono (fun _ _ q => Or.inl q) h2))
theorem rch_old {E : Nat → Nat → Prop} {a b : Nat} (hab : rch E a b) (x y : Nat) : rch (fun v w => E v w ∨ (v = a ∧ w = b)) x y ↔ rch E x y := by
  rw [rch_add]
  constructor
  · rintro (h | ⟨h1, h2⟩)
    · exact h
    · exact rch_trans h1 (rch_trans hab h2)
  · exact Or.inl
/-- the number of a node: the least of those that are one with it -/
def isNum (J : Nat → Nat → Prop) (v m : Nat) : Prop := rch J v m ∧ ∀ u, rch J v u → m ≤ u
theorem isNum_uniq {J : Nat → Nat → Prop} {v m m' : Nat} (h : isNum J v m) (h' : isNum J v m') : m = m' := Nat.le_antisymm (h.2 m' h'.1) (h'.2 m h.1)
theorem isNum_le {J : Nat → Nat → Prop} {v m : Nat} (h : isNum J v m) : m ≤ v := h.2 v (rch_refl v)
theorem isNum_same {J : Nat → Nat → Prop} (hs : ∀ x y, J x y → J y x) {v w m : Nat} (h : isNum J v m) (hvw : rch J v w) : isNum J w m :=
  ⟨rch_trans (rch_sym hs hvw) h.1, fun u hu => h.2 u (rch_trans hvw hu)⟩
theorem isNum_eq_iff {J : Nat → Nat → Prop} (hs : ∀ x y, J x y → J y x) {v w m k : Nat} (h : isNum J v m) (h' : isNum J w k) : m = k ↔ rch J v w := by
  constructor
  · intro e
    subst e
    exact rch_trans h.1 (rch_sym hs h'.1)
  · intro r
    exact isNum_uniq (isNum_same hs h r) h'
theorem isNum_self {J : Nat → Nat → Prop} (hs : ∀ x y, J x y → J y x) {v m : Nat} (h : isNum J v m) : isNum J m m := isNum_same hs h h.1
/-- two nodes become one -/
theorem isNum_merge {J : Nat → Nat → Prop} (hs : ∀ x y, J x y → J y x) {a b : Nat} {na nb : Nat} (ha : isNum J a na) (hb : isNum J b nb) {v m : Nat} (hv : isNum J v m) :
    isNum (fun x y => J x y ∨ (x = a ∧ y = b) ∨ (x = b ∧ y = a)) v (if m = na ∨ m = nb then (if nb < na then nb else na) else m) := by
  have hr : ∀ x y, rch (fun x y => J x y ∨ (x = a ∧ y = b) ∨ (x = b ∧ y = a)) x y ↔ (rch J x y ∨ (rch J x a ∧ rch J b y)) ∨ ((rch J x b ∨ (rch J x a ∧ rch J b b)) ∧ (rch J a y ∨ (rch J a a ∧ rch J b y))) := by
    intro x y
    rw [rch_congr (F := fun v w => (fun v w => J v w ∨ (v = a ∧ w = b)) v w ∨ (v = b ∧ w = a)) (fun x y => or_assoc.symm)]
    rw [rch_add (E := fun v w => J v w ∨ (v = a ∧ w = b)), rch_add, rch_add, rch_add]
  have hmin : (if nb < na then nb else na) ≤ na ∧ (if nb < na then nb else na) ≤ nb := by split <;> omega
  by_cases hc : m = na ∨ m = nb
  · rw [if_pos hc]
    have hva : rch J v a ∨ rch J v b := by
      rcases hc with e | e
      · exact Or.inl ((isNum_eq_iff hs hv ha).mp e)
      · exact Or.inr ((isNum_eq_iff hs hv hb).mp e)
    constructor
    · rw [hr]
      by_cases hlt : nb < na
      · rw [if_pos hlt]
        rcases hva with h | h
        · exact Or.inl (Or.inr ⟨h, hb.1⟩)
        · exact Or.inl (Or.inl (rch_trans h hb.1))
      · rw [if_neg hlt]
        rcases hva with h | h
        · exact Or.inl (Or.inl (rch_trans h ha.1))
        · exact Or.inr ⟨Or.inl h, Or.inl ha.1⟩
    · intro u hu
      rw [hr] at hu
      have hu2 : rch J a u ∨ rch J b u := by
        rcases hu with (h | ⟨_, h⟩) | ⟨_, h | ⟨_, h⟩⟩
        · rcases hva with q | q
          · exact Or.inl (rch_trans (rch_sym hs q) h)
          · exact Or.inr (rch_trans (rch_sym hs q) h)
        · exact Or.inr h
        · exact Or.inl h
        · exact Or.inr h
      rcases hu2 with h | h
      · exact Nat.le_trans hmin.1 (ha.2 u h)
      · exact Nat.le_trans hmin.2 (hb.2 u h)
  · rw [if_neg hc]
    have n1 : ¬ rch J v a := fun h => hc (Or.inl ((isNum_eq_iff hs hv ha).mpr h))
    have n2 : ¬ rch J v b := fun h => hc (Or.inr ((isNum_eq_iff hs hv hb).mpr h))
    constructor
    · rw [hr]; exact Or.inl (Or.inl hv.1)
    · intro u hu
      rw [hr] at hu
      rcases hu with (h | ⟨h, _⟩) | ⟨h | ⟨h, _⟩, _⟩
      · exact hv.2 u h
      · exact absurd h n1
      · exact absurd h n2
      · exact absurd h n1

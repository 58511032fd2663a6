/-! spread, link, and the telling of facts in the class -/
def spRe (n v : Nat) (mr : Int64) (fre : Nat → Int64) : Nat → Int64 := fun u => if u < n ∧ tl (fre u) v = true then fre u ||| mr else fre u
def spSe (n v : Nat) (ma : Int32) (fre : Nat → Int64) (fse : Nat → Int32) : Nat → Int32 := fun u => if u < n ∧ tl (fre u) v = true then fse u ||| ma else fse u
/-- how many of 0 .. n-1 atoms stand in x -/
def pc (x : Int32) : Nat := cn (fun i => ti x i) 32
def spCn (v : Nat) (ma : Int32) (fre : Nat → Int64) (fse : Nat → Int32) : Nat → Nat
  | 0 => 0
  | u + 1 => spCn v ma fre fse u + (if tl (fre u) v then pc (ma &&& (fse u ^^^ (-1))) else 0)
theorem spRe_up {n v : Nat} {mr : Int64} {fre : Nat → Int64} (h : tl (fre n) v = true) : vp_updL (spRe n v mr fre) n (spRe n v mr fre n ||| mr) = spRe (n + 1) v mr fre := by
  funext j
  unfold vp_updL spRe
  by_cases e : j = n
  · subst e
    simp [h]
  · by_cases e2 : j < n
    · have : j < n + 1 := by omega
      simp [e, e2, this]
    · have : ¬ j < n + 1 := by omega
      simp [e, e2, this]
theorem spRe_skip {n v : Nat} {mr : Int64} {fre : Nat → Int64} (h : tl (fre n) v = false) : spRe n v mr fre = spRe (n + 1) v mr fre := by
  funext j
  unfold spRe
  by_cases e : j = n
  · subst e
    simp [h]
  · by_cases e2 : j < n
    · have : j < n + 1 := by omega
      simp [e2, this]
    · have : ¬ j < n + 1 := by omega
      simp [e2, this]
theorem spSe_up {n v : Nat} {ma : Int32} {fre : Nat → Int64} {fse : Nat → Int32} (h : tl (fre n) v = true) : upd (spSe n v ma fre fse) n (spSe n v ma fre fse n ||| ma) = spSe (n + 1) v ma fre fse := by
  funext j
  unfold upd spSe
  by_cases e : j = n
  · subst e
    simp [h]
  · by_cases e2 : j < n
    · have : j < n + 1 := by omega
      simp [e, e2, this]
    · have : ¬ j < n + 1 := by omega
      simp [e, e2, this]
theorem spSe_skip {n v : Nat} {ma : Int32} {fre : Nat → Int64} {fse : Nat → Int32} (h : tl (fre n) v = false) : spSe n v ma fre fse = spSe (n + 1) v ma fre fse := by
  funext j
  unfold spSe
  by_cases e : j = n
  · subst e
    simp [h]
  · by_cases e2 : j < n
    · have : j < n + 1 := by omega
      simp [e2, this]
    · have : ¬ j < n + 1 := by omega
      simp [e2, this]
theorem sp_spread {n v : Nat} (hn : n ≤ 60) (hv : v < 60) {mr : Int64} {ma : Int32} {fre : Nat → Int64} {fse : Nat → Int32} {post : Int32 → (Nat → Int64) → (Nat → Int32) → Prop}
    (h : post (nI (spCn v ma fre fse n)) (spRe n v mr fre) (spSe n v ma fre fse)) : S_X1_spread (nI v) mr ma (nI n) fre fse post := by
  intro E K hK hE
  apply hE
  have key := dn (P := fun u => K (nI (spCn v ma fre fse u)) (nI u) (spRe u v mr fre) (spSe u v ma fre fse)) n (by
    apply hK
    exact hd_eq h) (by
    intro u hu ih
    apply hK
    refine hd_lt hu (by omega) ?_
    refine ⟨in60 (by omega), ?_⟩
    rw [cl31 (show u < 2 ^ 31 by omega)]
    have e1 : spRe u v mr fre u = fre u := by unfold spRe; simp
    have e2 : spSe u v ma fre fse u = fse u := by unfold spSe; simp
    refine sp_has (by omega) ?_ ?_
    · intro q
      rw [e1] at q
      refine nx_i ?_
      rw [spRe_skip q, spSe_skip q]
      have e3 : spCn v ma fre fse (u + 1) = spCn v ma fre fse u := by
        show _ + (if tl (fre u) v then pc (ma &&& (fse u ^^^ (-1))) else 0) = _
        rw [q]; rfl
      rw [e3] at ih
      exact ih
    · intro q
      rw [e1] at q
      refine sp_bitCount _ ?_
      refine nm_r (nI_add _ _) ?_
      refine nx_i ?_
      rw [spRe_up q, spSe_up q, e2]
      have e3 : spCn v ma fre fse (u + 1) = spCn v ma fre fse u + pc (ma &&& (fse u ^^^ (-1))) := by
        show _ + (if tl (fre u) v then pc (ma &&& (fse u ^^^ (-1))) else 0) = _
        rw [q]; rfl
      rw [e3] at ih
      exact ih)
  have k0 := key 0 (by omega)
  have z1 : spRe 0 v mr fre = fre := by funext j; unfold spRe; simp
  have z2 : spSe 0 v ma fre fse = fse := by funext j; unfold spSe; simp
  rw [z1, z2] at k0
  exact k0
theorem sp_link {n v w : Nat} (hn : n ≤ 60) (hv : v < 60) (hw : w < 60) {fre : Nat → Int64} {fse : Nat → Int32} {post : Int32 → (Nat → Int64) → (Nat → Int32) → Prop}
    (h0 : tl (fre v) w = true → post 0 fre fse) (h1 : tl (fre v) w = false → post (nI (spCn v (fse w) fre fse n)) (spRe n v (fre w) fre) (spSe n v (fse w) fre fse)) : S_X1_link (nI v) (nI w) (nI n) fre fse post := by
  intro E hE
  apply hE
  refine ⟨in60 hv, ?_⟩
  rw [cl31 (show v < 2 ^ 31 by omega)]
  refine sp_has (by omega) ?_ ?_
  · intro q
    refine ⟨in60 hw, ?_⟩
    rw [cl31 (show w < 2 ^ 31 by omega)]
    exact sp_spread hn hv (h1 q)
  · intro q
    exact h0 q
/-! the class's net: the facts told, and what follows from them -/
/-- HAS, INCLUDES, ONE by the bits; a step goes by INCLUDES or ONE -/
def hasB (fhd : Nat → Int32) (v a : Nat) : Prop := ti (fhd v) a = true
def oneB (n : Nat) (fjo : Nat → Int64) (v w : Nat) : Prop := v < n ∧ tl (fjo v) w = true
def stepB (n : Nat) (fin fjo : Nat → Int64) (v w : Nat) : Prop := v < n ∧ (tl (fin v) w = true ∨ tl (fjo v) w = true)
/-- the net as it stands -/
def netOK (n k : Nat) (fhd : Nat → Int32) (fin fjo : Nat → Int64) (fnu : Nat → Int32) (fre : Nat → Int64) (fse : Nat → Int32) : Prop :=
  n ≤ 60 ∧ k ≤ 32 ∧
  (∀ v, v < n → ∀ a, ti (fhd v) a = true → a < k) ∧
  (∀ v, v < n → ∀ w, tl (fin v) w = true → w < n) ∧
  (∀ v, v < n → ∀ w, tl (fjo v) w = true → w < n ∧ w ≠ v ∧ tl (fjo w) v = true) ∧
  (∀ v, v < n → ∀ w, tl (fre v) w = true ↔ rch (stepB n fin fjo) v w) ∧
  (∀ v, v < n → ∀ a, ti (fse v) a = true ↔ ∃ u, rch (stepB n fin fjo) v u ∧ ti (fhd u) a = true) ∧
  (∀ v, v < n → ∃ m, fnu v = nI m ∧ isNum (oneB n fjo) v m)
theorem rch_lt {n : Nat} {E : Nat → Nat → Prop} (hE : ∀ x y, E x y → y < n) {v w : Nat} (hv : v < n) (h : rch E v w) : w < n := rch_fwd (P := fun x => x < n) h hv (fun x y e _ => hE x y e)
theorem stepB_lt {n : Nat} {fin fjo : Nat → Int64} (h1 : ∀ v, v < n → ∀ w, tl (fin v) w = true → w < n) (h2 : ∀ v, v < n → ∀ w, tl (fjo v) w = true → w < n ∧ w ≠ v ∧ tl (fjo w) v = true) (x y : Nat) (h : stepB n fin fjo x y) : y < n := by
  rcases h with ⟨hx, h | h⟩
  · exact h1 x hx y h
  · exact (h2 x hx y h).1
theorem oneB_lt {n : Nat} {fjo : Nat → Int64} (h2 : ∀ v, v < n → ∀ w, tl (fjo v) w = true → w < n ∧ w ≠ v ∧ tl (fjo w) v = true) (x y : Nat) (h : oneB n fjo x y) : y < n := (h2 x h.1 y h.2).1
theorem oneB_sym {n : Nat} {fjo : Nat → Int64} (h2 : ∀ v, v < n → ∀ w, tl (fjo v) w = true → w < n ∧ w ≠ v ∧ tl (fjo w) v = true) (x y : Nat) (h : oneB n fjo x y) : oneB n fjo y x := ⟨(h2 x h.1 y h.2).1, (h2 x h.1 y h.2).2.2⟩
/-- a step more, in the rows of what is reached -/
def reAdd (n v w : Nat) (fre : Nat → Int64) : Nat → Int64 := if tl (fre v) w = true then fre else spRe n v (fre w) fre
def seAdd (n v w : Nat) (fre : Nat → Int64) (fse : Nat → Int32) : Nat → Int32 := if tl (fre v) w = true then fse else spSe n v (fse w) fre fse
def cnAdd (n v w : Nat) (fre : Nat → Int64) (fse : Nat → Int32) : Nat := if tl (fre v) w = true then 0 else spCn v (fse w) fre fse n
theorem sp_linkA {n v w : Nat} (hn : n ≤ 60) (hv : v < 60) (hw : w < 60) {fre : Nat → Int64} {fse : Nat → Int32} {post : Int32 → (Nat → Int64) → (Nat → Int32) → Prop}
    (h : post (nI (cnAdd n v w fre fse)) (reAdd n v w fre) (seAdd n v w fre fse)) : S_X1_link (nI v) (nI w) (nI n) fre fse post := by
  refine sp_link hn hv hw ?_ ?_
  · intro q
    unfold cnAdd reAdd seAdd at h
    rw [if_pos q, if_pos q, if_pos q] at h
    exact h
  · intro q
    have q2 : ¬ tl (fre v) w = true := by rw [q]; decide
    unfold cnAdd reAdd seAdd at h
    rw [if_neg q2, if_neg q2, if_neg q2] at h
    exact h
theorem reAdd_ok {n v w : Nat} {E : Nat → Nat → Prop} {fre : Nat → Int64} (hv : v < n) (hw : w < n) (hr : ∀ x, x < n → ∀ y, tl (fre x) y = true ↔ rch E x y) {x : Nat} (hx : x < n) (y : Nat) :
    tl (reAdd n v w fre x) y = true ↔ rch (fun a b => E a b ∨ (a = v ∧ b = w)) x y := by
  unfold reAdd
  by_cases q : tl (fre v) w = true
  · rw [if_pos q, hr x hx, rch_old ((hr v hv w).mp q)]
  · rw [if_neg q, rch_add]
    unfold spRe
    by_cases q2 : tl (fre x) v = true
    · rw [if_pos ⟨hx, q2⟩, tl_or, Bool.or_eq_true, hr x hx, hr w hw]
      have := (hr x hx v).mp q2
      constructor
      · rintro (h | h)
        · exact Or.inl h
        · exact Or.inr ⟨this, h⟩
      · rintro (h | ⟨_, h⟩)
        · exact Or.inl h
        · exact Or.inr h
    · rw [if_neg (fun c => q2 c.2), hr x hx]
      constructor
      · exact Or.inl
      · rintro (h | ⟨h, _⟩)
        · exact h
        · exact absurd ((hr x hx v).mpr h) q2
theorem seAdd_ok {n v w : Nat} {E : Nat → Nat → Prop} {fre : Nat → Int64} {fse : Nat → Int32} {Hs : Nat → Nat → Prop} (hv : v < n) (hw : w < n) (hr : ∀ x, x < n → ∀ y, tl (fre x) y = true ↔ rch E x y) (hs : ∀ x, x < n → ∀ a, ti (fse x) a = true ↔ ∃ u, rch E x u ∧ Hs u a) {x : Nat} (hx : x < n) (a : Nat) :
    ti (seAdd n v w fre fse x) a = true ↔ ∃ u, rch (fun a b => E a b ∨ (a = v ∧ b = w)) x u ∧ Hs u a := by
  unfold seAdd
  by_cases q : tl (fre v) w = true
  · rw [if_pos q, hs x hx]
    constructor
    · rintro ⟨u, h1, h2⟩; exact ⟨u, (rch_old ((hr v hv w).mp q) x u).mpr h1, h2⟩
    · rintro ⟨u, h1, h2⟩; exact ⟨u, (rch_old ((hr v hv w).mp q) x u).mp h1, h2⟩
  · rw [if_neg q]
    unfold spSe
    by_cases q2 : tl (fre x) v = true
    · rw [if_pos ⟨hx, q2⟩, ti_or, Bool.or_eq_true, hs x hx, hs w hw]
      have hxv := (hr x hx v).mp q2
      constructor
      · rintro (⟨u, h1, h2⟩ | ⟨u, h1, h2⟩)
        · exact ⟨u, (rch_add v w x u).mpr (Or.inl h1), h2⟩
        · exact ⟨u, (rch_add v w x u).mpr (Or.inr ⟨hxv, h1⟩), h2⟩
      · rintro ⟨u, h1, h2⟩
        rcases (rch_add v w x u).mp h1 with h | ⟨_, h⟩
        · exact Or.inl ⟨u, h, h2⟩
        · exact Or.inr ⟨u, h, h2⟩
    · rw [if_neg (fun c => q2 c.2), hs x hx]
      constructor
      · rintro ⟨u, h1, h2⟩; exact ⟨u, (rch_add v w x u).mpr (Or.inl h1), h2⟩
      · rintro ⟨u, h1, h2⟩
        rcases (rch_add v w x u).mp h1 with h | ⟨h, _⟩
        · exact ⟨u, h, h2⟩
        · exact absurd ((hr x hx v).mpr h) q2

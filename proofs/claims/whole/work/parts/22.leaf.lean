/-! what the class's small methods answer, in words of bits -/
theorem hd_lt {n u : Nat} (h : u < n) (hn : n < 2 ^ 31) {A B : Prop} (b : B) : (nI n ≤ nI u → A) ∧ (¬ nI n ≤ nI u → B) := ⟨fun q => absurd q (nI_ge h hn), fun _ => b⟩
theorem hd_eq {n : Nat} {A B : Prop} (a : A) : (nI n ≤ nI n → A) ∧ (¬ nI n ≤ nI n → B) := ⟨fun _ => a, fun q => absurd (Int32.le_refl _) q⟩
theorem in60 {u : Nat} (h : u < 60) : vp_in (nI u) 60 := vp_in_nI h (by decide)
theorem in32 {u : Nat} (h : u < 32) : vp_in (nI u) 32 := vp_in_nI h (by decide)
theorem cl31 {u : Nat} (h : u < 2 ^ 31) : (nI u).toNatClampNeg = u := nI_clamp h
theorem nx_i {u : Nat} {P : Int32 → Prop} (h : P (nI (u + 1))) : ∀ y, y = nI u + 1 → P y := nm_r (nI_1 u) h
theorem b01 {b : Bool} {A B : Prop} (h0 : b = false → A) (h1 : b = true → B) : ((if b then (1 : Int32) else 0) = 0 → A) ∧ (¬ (if b then (1 : Int32) else 0) = 0 → B) := by
  cases b
  · exact ⟨fun _ => h0 rfl, fun q => absurd rfl q⟩
  · exact ⟨fun q => absurd q (by decide), fun _ => h1 rfl⟩
theorem sp_contains {x : Int64} {k : Nat} (hk : k < 64) {post : Int32 → Prop} (h : post (if tl x k then 1 else 0)) : S_X3_contains x (nI k) post := by
  intro E hE
  apply hE
  constructor
  · intro c
    rw [(tl_has x hk).mp c] at h
    exact h
  · intro c
    have : tl x k = true := by
      cases q : tl x k
      · exact absurd ((tl_has x hk).mpr q) c
      · rfl
    rw [this] at h
    exact h
theorem sp_has {x : Int64} {k : Nat} (hk : k < 64) {A B : Prop} (h0 : tl x k = false → A) (h1 : tl x k = true → B) : S_X3_contains x (nI k) (fun r => (r = 0 → A) ∧ (¬ r = 0 → B)) := sp_contains hk (b01 h0 h1)
theorem sp_containsAtom {x : Int32} {k : Nat} (hk : k < 32) {post : Int32 → Prop} (h : post (if ti x k then 1 else 0)) : S_X3_containsAtom x (nI k) post := by
  intro E hE
  apply hE
  rw [ti_has x hk]
  cases q : ti x k
  · rw [q] at h
    exact ⟨fun _ => h, fun c => absurd rfl c⟩
  · rw [q] at h
    exact ⟨fun c => absurd c (by decide), fun _ => h⟩
theorem sp_hasA {x : Int32} {k : Nat} (hk : k < 32) {A B : Prop} (h0 : ti x k = false → A) (h1 : ti x k = true → B) : S_X3_containsAtom x (nI k) (fun r => (r = 0 → A) ∧ (¬ r = 0 → B)) := sp_containsAtom hk (b01 h0 h1)
theorem sp_bit {k : Nat} (hk : k < 64) {post : Int64 → Prop} (h : ∀ r, (∀ i, tl r i = decide (i = k)) → post r) : S_X3_bit (nI k) post := by
  intro E hE
  apply hE
  exact h _ (tl_bit hk)
/-- least(mask): the least bit below 60, or -1 -/
theorem sp_least {x : Int64} {post : Int32 → Prop} (h0 : (∀ i, i < 60 → tl x i = false) → post (-1)) (h1 : ∀ k, k < 60 → tl x k = true → (∀ i, i < k → tl x i = false) → post (nI k)) : S_X3_least x post := by
  intro E K hK hE
  apply hE
  have key := dn (P := fun u => (∀ i, i < u → tl x i = false) → K (nI u)) 60 (by
    intro hI
    apply hK
    exact ⟨fun _ => h0 hI, fun c => absurd (by decide) c⟩) (by
    intro u hu ih hI
    apply hK
    refine hd_lt (n := 60) hu (by decide) ?_
    refine sp_has (by omega) ?_ ?_
    · intro q
      refine nx_i (ih ?_)
      intro i hi
      rcases Nat.lt_or_ge i u with h | h
      · exact hI i h
      · have : i = u := by omega
        rw [this]; exact q
    · intro q
      exact h1 u hu q hI)
  exact key 0 (by decide) (fun i hi => absurd hi (by omega))
theorem sp_inOneRing {v w : Nat} (hv : v < 60) (hw : w < 60) {fre : Nat → Int64} {post : Int32 → Prop} (h : post (if tl (fre v) w && tl (fre w) v then 1 else 0)) : S_X1_inOneRing (nI v) (nI w) fre post := by
  intro E hE
  apply hE
  refine ⟨in60 hv, ?_⟩
  rw [cl31 (show v < 2 ^ 31 by omega)]
  refine sp_has (by omega) ?_ ?_
  · intro q
    rw [q] at h
    exact h
  · intro q
    refine ⟨in60 hw, ?_⟩
    rw [cl31 (show w < 2 ^ 31 by omega)]
    refine sp_has (by omega) ?_ ?_
    · intro q2
      rw [q, q2] at h
      exact h
    · intro q2
      rw [q, q2] at h
      exact h
/-- a loop that gathers bits of longs -/
theorem sp_nodesAmong {n : Nat} (hn : n ≤ 60) {x : Int64} {fnu : Nat → Int32} {nu : Nat → Nat} (hf : ∀ v, v < n → fnu v = nI (nu v) ∧ nu v < 60) {post : Int64 → Prop} (h : ∀ r, (∀ i, tl r i = true ↔ ∃ v, v < n ∧ tl x v = true ∧ nu v = i) → post r) : S_X1_nodesAmong x (nI n) fnu post := by
  intro E K hK hE
  apply hE
  have key := dn (P := fun u => ∀ a, (∀ i, tl a i = true ↔ ∃ v, v < u ∧ tl x v = true ∧ nu v = i) → K a (nI u)) n (by
    intro a hI
    apply hK
    exact hd_eq (h a hI)) (by
    intro u hu ih a hI
    apply hK
    refine hd_lt hu (by omega) ?_
    refine sp_has (by omega) ?_ ?_
    · intro q
      refine nx_i (ih a (fun i => (hI i).trans ⟨?_, ?_⟩))
      · intro ⟨v, h1, h2, h3⟩; exact ⟨v, by omega, h2, h3⟩
      · intro ⟨v, h1, h2, h3⟩
        have : v ≠ u := fun e => by rw [e, q] at h2; cases h2
        exact ⟨v, by omega, h2, h3⟩
    · intro q
      refine ⟨in60 (by omega), ?_⟩
      rw [cl31 (show u < 2 ^ 31 by omega), (hf u hu).1]
      refine sp_bit (by have := (hf u hu).2; omega) ?_
      intro r hr
      refine nm_e ?_
      refine nx_i (ih _ (fun i => ?_))
      rw [tl_or, Bool.or_eq_true, hI i, hr i, decide_eq_true_iff]
      constructor
      · rintro (⟨v, h1, h2, h3⟩ | e)
        · exact ⟨v, by omega, h2, h3⟩
        · exact ⟨u, by omega, q, e.symm⟩
      · intro ⟨v, h1, h2, h3⟩
        rcases Nat.lt_or_ge v u with h4 | h4
        · exact Or.inl ⟨v, h4, h2, h3⟩
        · have : v = u := by omega
          subst this
          exact Or.inr h3.symm)
  exact key 0 (by omega) 0 (fun i => ⟨fun q => absurd q (by rw [tl_0]; decide), fun ⟨v, h, _⟩ => absurd h (by omega)⟩)

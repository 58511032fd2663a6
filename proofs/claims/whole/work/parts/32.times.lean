/-! the reference's tables and their times -/
def tabs (th tic tbe : Nat → Nat) (ghv gic gbe : Nat → Int32) : Prop := (∀ j, j < 1920 → ghv j = nI (th j)) ∧ (∀ j, j < 3600 → gic j = nI (tic j)) ∧ (∀ j, j < 3600 → gbe j = nI (tbe j))
def timesOK (t : Nat) (th tic tbe : Nat → Nat) : Prop := (∀ j, j < 1920 → th j ≤ t) ∧ (∀ j, j < 3600 → tic j ≤ t) ∧ (∀ j, j < 3600 → tbe j ≤ t) ∧ (∀ s, 1 ≤ s → s ≤ t → (∃ j, j < 1920 ∧ th j = s) ∨ (∃ j, j < 3600 ∧ tic j = s) ∨ (∃ j, j < 3600 ∧ tbe j = s))
theorem times_le {t : Nat} {th tic tbe : Nat → Nat} (h : timesOK t th tic tbe) : t ≤ 9120 := by
  refine pig 9120 (fun i => (if i < 1920 then th i else if i < 5520 then tic (i - 1920) else tbe (i - 5520)) - 1) t ?_
  intro s hs
  rcases h.2.2.2 (s + 1) (by omega) (by omega) with ⟨j, hj, e⟩ | ⟨j, hj, e⟩ | ⟨j, hj, e⟩
  · refine ⟨j, by omega, ?_⟩
    show (if j < 1920 then th j else if j < 5520 then tic (j - 1920) else tbe (j - 5520)) - 1 = s
    rw [if_pos hj]; omega
  · refine ⟨j + 1920, by omega, ?_⟩
    show (if j + 1920 < 1920 then th (j + 1920) else if j + 1920 < 5520 then tic (j + 1920 - 1920) else tbe (j + 1920 - 5520)) - 1 = s
    rw [if_neg (by omega), if_pos (by omega), show j + 1920 - 1920 = j by omega]; omega
  · refine ⟨j + 5520, by omega, ?_⟩
    show (if j + 5520 < 1920 then th (j + 5520) else if j + 5520 < 5520 then tic (j + 5520 - 1920) else tbe (j + 5520 - 5520)) - 1 = s
    rw [if_neg (by omega), if_neg (by omega), show j + 5520 - 5520 = j by omega]; omega
/-- the facts of the tables that were told up to s -/
def fit (s n : Nat) (th tic tbe : Nat → Nat) (fhd : Nat → Int32) (fin fjo : Nat → Int64) : Prop :=
  (∀ v a, v < 60 → a < 32 → ((1 ≤ th (32 * v + a) ∧ th (32 * v + a) ≤ s) ↔ (v < n ∧ ti (fhd v) a = true))) ∧
  (∀ v w, v < 60 → w < 60 → ((1 ≤ tic (60 * v + w) ∧ tic (60 * v + w) ≤ s) ↔ (v < n ∧ tl (fin v) w = true))) ∧
  (∀ v w, v < 60 → w < 60 → ((1 ≤ tbe (60 * v + w) ∧ tbe (60 * v + w) ≤ s) ↔ (v < n ∧ tl (fjo v) w = true)))
/-- all facts of the tables -/
def fitC (n : Nat) (th tic tbe : Nat → Nat) (fhd : Nat → Int32) (fin fjo : Nat → Int64) : Prop :=
  (∀ v a, v < 60 → a < 32 → (1 ≤ th (32 * v + a) ↔ (v < n ∧ ti (fhd v) a = true))) ∧
  (∀ v w, v < 60 → w < 60 → (1 ≤ tic (60 * v + w) ↔ (v < n ∧ tl (fin v) w = true))) ∧
  (∀ v w, v < 60 → w < 60 → (1 ≤ tbe (60 * v + w) ↔ (v < n ∧ tl (fjo v) w = true)))
theorem fit_of {t n : Nat} {th tic tbe : Nat → Nat} {fhd : Nat → Int32} {fin fjo : Nat → Int64} (ht : timesOK t th tic tbe) (h : fitC n th tic tbe fhd fin fjo) : fit t n th tic tbe fhd fin fjo := by
  obtain ⟨t1, t2, t3, _⟩ := ht
  obtain ⟨h1, h2, h3⟩ := h
  refine ⟨fun v a hv ha => ?_, fun v a hv ha => ?_, fun v a hv ha => ?_⟩
  · rw [← h1 v a hv ha]
    exact ⟨fun q => q.1, fun q => ⟨q, t1 _ (by omega)⟩⟩
  · rw [← h2 v a hv ha]
    exact ⟨fun q => q.1, fun q => ⟨q, t2 _ (by omega)⟩⟩
  · rw [← h3 v a hv ha]
    exact ⟨fun q => q.1, fun q => ⟨q, t3 _ (by omega)⟩⟩
/-- the reference's tables as numbers -/
def RT (t : Nat) (th tic tbe : Nat → Nat) (ghv gic gbe : Nat → Int32) : Prop := tabs th tic tbe ghv gic gbe ∧ timesOK t th tic tbe
theorem pos_iff {x : Int32} {j : Nat} (e : x = nI j) (hj : j < 2 ^ 31) : ¬ x ≤ 0 ↔ 1 ≤ j := by
  rw [e]
  constructor
  · intro h
    rcases Nat.eq_zero_or_pos j with q | q
    · rw [q] at h; exact absurd (by decide) h
    · exact q
  · intro h
    exact nI_nle (by omega) hj
theorem zero_iff {x : Int32} {j : Nat} (e : x = nI j) (hj : j < 2 ^ 31) : x = 0 ↔ j = 0 := by
  rw [e]
  constructor
  · intro h
    rcases Nat.eq_zero_or_pos j with q | q
    · exact q
    · exact absurd h (nI_ne0 q hj)
  · intro h
    rw [h]; rfl
theorem RT_relT {t n k : Nat} {th tic tbe : Nat → Nat} {ghv gic gbe : Nat → Int32} {fhd : Nat → Int32} {fin fjo : Nat → Int64} (hn : n ≤ 60) (hk : k ≤ 32) (rt : RT t th tic tbe ghv gic gbe) (h : fitC n th tic tbe fhd fin fjo) : relT n k ghv gic gbe fhd fin fjo := by
  have tl9 := times_le rt.2
  obtain ⟨⟨a1, a2, a3⟩, t1, t2, t3, _⟩ := rt
  obtain ⟨h1, h2, h3⟩ := h
  refine ⟨fun v a hv ha => ?_, fun v a hv ha => ?_, fun v a hv ha => ?_⟩
  · have := t1 (32 * v + a) (by omega)
    rw [pos_iff (a1 _ (by omega)) (by omega), h1 v a (by omega) (by omega)]
    exact ⟨fun q => ⟨hv, q⟩, fun q => q.2⟩
  · have := t2 (60 * v + a) (by omega)
    rw [pos_iff (a2 _ (by omega)) (by omega), h2 v a (by omega) (by omega)]
    exact ⟨fun q => ⟨hv, q⟩, fun q => q.2⟩
  · have := t3 (60 * v + a) (by omega)
    rw [pos_iff (a3 _ (by omega)) (by omega), h3 v a (by omega) (by omega)]
    exact ⟨fun q => ⟨hv, q⟩, fun q => q.2⟩
/-- later tables: nothing is lost, what is new is later -/
def later1 (t : Nat) (f f' : Nat → Nat) : Prop := ∀ j, f' j = f j ∨ (f j = 0 ∧ t < f' j)
def extT (t : Nat) (th tic tbe : Nat → Nat) (t' : Nat) (th' tic' tbe' : Nat → Nat) : Prop := t ≤ t' ∧ later1 t th th' ∧ later1 t tic tic' ∧ later1 t tbe tbe'
theorem later1_refl (t : Nat) (f : Nat → Nat) : later1 t f f := fun _ => Or.inl rfl
theorem later1_trans {t t' : Nat} {f f' f'' : Nat → Nat} (ht : t ≤ t') (h : later1 t f f') (h' : later1 t' f' f'') : later1 t f f'' := by
  intro j
  rcases h j with q | ⟨q1, q2⟩ <;> rcases h' j with r | ⟨r1, r2⟩
  · exact Or.inl (by omega)
  · exact Or.inr ⟨by omega, by omega⟩
  · exact Or.inr ⟨by omega, by omega⟩
  · exact Or.inr ⟨by omega, by omega⟩
theorem extT_refl (t : Nat) (th tic tbe : Nat → Nat) : extT t th tic tbe t th tic tbe := ⟨Nat.le_refl t, later1_refl t th, later1_refl t tic, later1_refl t tbe⟩
theorem extT_trans {t : Nat} {th tic tbe : Nat → Nat} {t' : Nat} {th' tic' tbe' : Nat → Nat} {t'' : Nat} {th'' tic'' tbe'' : Nat → Nat} (h : extT t th tic tbe t' th' tic' tbe') (h' : extT t' th' tic' tbe' t'' th'' tic'' tbe'') : extT t th tic tbe t'' th'' tic'' tbe'' :=
  ⟨Nat.le_trans h.1 h'.1, later1_trans h.1 h.2.1 h'.2.1, later1_trans h.1 h.2.2.1 h'.2.2.1, later1_trans h.1 h.2.2.2 h'.2.2.2⟩
theorem later1_fit {t s : Nat} {f f' : Nat → Nat} (hs : s ≤ t) (h : later1 t f f') (j : Nat) : (1 ≤ f' j ∧ f' j ≤ s) ↔ (1 ≤ f j ∧ f j ≤ s) := by
  rcases h j with q | ⟨q1, q2⟩
  · rw [q]
  · omega
theorem fit_ext {s t n : Nat} {th tic tbe : Nat → Nat} {t' : Nat} {th' tic' tbe' : Nat → Nat} {fhd : Nat → Int32} {fin fjo : Nat → Int64} (hs : s ≤ t) (e : extT t th tic tbe t' th' tic' tbe') (h : fit s n th tic tbe fhd fin fjo) : fit s n th' tic' tbe' fhd fin fjo := by
  obtain ⟨h1, h2, h3⟩ := h
  refine ⟨fun v a hv ha => ?_, fun v a hv ha => ?_, fun v a hv ha => ?_⟩
  · rw [later1_fit hs e.2.1, h1 v a hv ha]
  · rw [later1_fit hs e.2.2.1, h2 v a hv ha]
  · rw [later1_fit hs e.2.2.2, h3 v a hv ha]
def put (f : Nat → Nat) (j x : Nat) : Nat → Nat := fun i => if i = j then x else f i
theorem put_at {f : Nat → Nat} {j x : Nat} : put f j x j = x := by unfold put; rw [if_pos rfl]
theorem put_ne {f : Nat → Nat} {j x i : Nat} (h : i ≠ j) : put f j x i = f i := by unfold put; rw [if_neg h]
theorem put_later {t : Nat} {f : Nat → Nat} {j : Nat} (h : f j = 0) : later1 t f (put f j (t + 1)) := by
  intro i
  by_cases e : i = j
  · subst e; rw [put_at]; exact Or.inr ⟨h, by omega⟩
  · rw [put_ne e]; exact Or.inl rfl
theorem put_pos {t : Nat} {f : Nat → Nat} {j : Nat} (i : Nat) : 1 ≤ put f j (t + 1) i ↔ 1 ≤ f i ∨ i = j := by
  by_cases e : i = j
  · subst e; rw [put_at]; exact ⟨fun _ => Or.inr rfl, fun _ => by omega⟩
  · rw [put_ne e]; exact ⟨Or.inl, fun q => q.elim id (fun q => absurd q e)⟩
theorem put_tab {N : Nat} {f : Nat → Nat} {g : Nat → Int32} (h : ∀ j, j < N → g j = nI (f j)) (j x : Nat) : ∀ i, i < N → upd g j (nI x) i = nI (put f j x i) := by
  intro i hi
  by_cases e : i = j
  · subst e; rw [put_at, upd_at]
  · rw [put_ne e, upd_ne e]; exact h i hi
theorem put_le {N t : Nat} {f : Nat → Nat} (h : ∀ j, j < N → f j ≤ t) (j : Nat) : ∀ i, i < N → put f j (t + 1) i ≤ t + 1 := by
  intro i hi
  by_cases e : i = j
  · subst e; rw [put_at]; exact Nat.le_refl _
  · rw [put_ne e]; have := h i hi; omega
/-- what stood somewhere stands there still -/
theorem put_old {N s : Nat} {f : Nat → Nat} {j x : Nat} (h0 : f j = 0) (hs : 1 ≤ s) (h : ∃ i, i < N ∧ f i = s) : ∃ i, i < N ∧ put f j x i = s := by
  obtain ⟨i, hi, e⟩ := h
  refine ⟨i, hi, ?_⟩
  rw [put_ne (fun q => by rw [q] at e; omega)]
  exact e
theorem ex_ge {N s : Nat} {f : Nat → Nat} (h : ∃ i, i < N ∧ f i = s) : ∃ i, i < N ∧ f i = s := h
/-- a fact told into 'having' -/
theorem sp_tellH {t j : Nat} {th tic tbe : Nat → Nat} {ghv gic gbe : Nat → Int32} (rt : RT t th tic tbe ghv gic gbe) (hj : j < 1920) {post : Int32 → (Nat → Int32) → Prop}
    (h : ∀ t' th' ghv', RT t' th' tic tbe ghv' gic gbe → extT t th tic tbe t' th' tic tbe → (∀ i, 1 ≤ th' i ↔ 1 ≤ th i ∨ i = j) → post (nI t') ghv') : S_X4_tell 1920 (nI j) (nI t) ghv post := by
  intro E hE
  apply hE
  have t9 := times_le rt.2
  obtain ⟨⟨a1, a2, a3⟩, t1, t2, t3, t4⟩ := rt
  have bj := t1 j hj
  refine ⟨vp_in_nI hj (by decide), ?_⟩
  rw [cl31 (show j < 2 ^ 31 by omega), zero_iff (a1 j hj) (by omega)]
  refine ⟨fun c => h t th ghv ⟨⟨a1, a2, a3⟩, t1, t2, t3, t4⟩ (extT_refl _ _ _ _) (fun i => ⟨Or.inl, fun q => q.elim id (fun e => by rw [e]; omega)⟩), fun c => ?_⟩
  refine nx_i ?_
  refine h (t + 1) (put th j (t + 1)) _ ⟨⟨put_tab a1 j (t + 1), a2, a3⟩, put_le t1 j, fun i hi => by have := t2 i hi; omega, fun i hi => by have := t3 i hi; omega, ?_⟩ ⟨by omega, put_later c, later1_refl _ _, later1_refl _ _⟩ (fun i => put_pos i)
  intro s hs1 hs2
  rcases Nat.lt_or_ge t s with q | q
  · have : s = t + 1 := by omega
    rw [this]; exact Or.inl ⟨j, hj, put_at⟩
  · rcases t4 s hs1 q with r | r | r
    · exact Or.inl (put_old c hs1 r)
    · exact Or.inr (Or.inl r)
    · exact Or.inr (Or.inr r)
theorem sp_tellI {t j : Nat} {th tic tbe : Nat → Nat} {ghv gic gbe : Nat → Int32} (rt : RT t th tic tbe ghv gic gbe) (hj : j < 3600) {post : Int32 → (Nat → Int32) → Prop}
    (h : ∀ t' tic' gic', RT t' th tic' tbe ghv gic' gbe → extT t th tic tbe t' th tic' tbe → (∀ i, 1 ≤ tic' i ↔ 1 ≤ tic i ∨ i = j) → post (nI t') gic') : S_X4_tell 3600 (nI j) (nI t) gic post := by
  intro E hE
  apply hE
  have t9 := times_le rt.2
  obtain ⟨⟨a1, a2, a3⟩, t1, t2, t3, t4⟩ := rt
  have bj := t2 j hj
  refine ⟨vp_in_nI hj (by decide), ?_⟩
  rw [cl31 (show j < 2 ^ 31 by omega), zero_iff (a2 j hj) (by omega)]
  refine ⟨fun c => h t tic gic ⟨⟨a1, a2, a3⟩, t1, t2, t3, t4⟩ (extT_refl _ _ _ _) (fun i => ⟨Or.inl, fun q => q.elim id (fun e => by rw [e]; omega)⟩), fun c => ?_⟩
  refine nx_i ?_
  refine h (t + 1) (put tic j (t + 1)) _ ⟨⟨a1, put_tab a2 j (t + 1), a3⟩, fun i hi => by have := t1 i hi; omega, put_le t2 j, fun i hi => by have := t3 i hi; omega, ?_⟩ ⟨by omega, later1_refl _ _, put_later c, later1_refl _ _⟩ (fun i => put_pos i)
  intro s hs1 hs2
  rcases Nat.lt_or_ge t s with q | q
  · have : s = t + 1 := by omega
    rw [this]; exact Or.inr (Or.inl ⟨j, hj, put_at⟩)
  · rcases t4 s hs1 q with r | r | r
    · exact Or.inl r
    · exact Or.inr (Or.inl (put_old c hs1 r))
    · exact Or.inr (Or.inr r)
/-- ONE: two places, one time; they stand alike before -/
theorem sp_tellOneR {t v w : Nat} (hv : v < 60) (hw : w < 60) {th tic tbe : Nat → Nat} {ghv gic gbe : Nat → Int32} (rt : RT t th tic tbe ghv gic gbe) (hsym : 1 ≤ tbe (60 * v + w) ↔ 1 ≤ tbe (60 * w + v)) {post : Int32 → (Nat → Int32) → Prop}
    (h0 : v = w → post (nI t) gbe)
    (h1 : v ≠ w → ∀ t' tbe' gbe', RT t' th tic tbe' ghv gic gbe' → extT t th tic tbe t' th tic tbe' → (∀ i, 1 ≤ tbe' i ↔ 1 ≤ tbe i ∨ i = 60 * v + w ∨ i = 60 * w + v) → post (nI t') gbe') : S_X4_tellOne (nI v) (nI w) (nI t) gbe post := by
  intro E hE
  apply hE
  have t9 := times_le rt.2
  obtain ⟨⟨a1, a2, a3⟩, t1, t2, t3, t4⟩ := rt
  refine ⟨fun c => h0 ((nI_eq (by omega) (by omega)).mp c), fun c => ?_⟩
  have hne : v ≠ w := fun e => c (by rw [e])
  rw [ix60, ix60]
  have bj := t3 (60 * v + w) (by omega)
  have bj2 := t3 (60 * w + v) (by omega)
  refine ⟨vp_in_nI (by omega) (by decide), ?_⟩
  rw [cl31 (show 60 * v + w < 2 ^ 31 by omega), cl31 (show 60 * w + v < 2 ^ 31 by omega), zero_iff (a3 _ (by omega)) (by omega)]
  refine ⟨fun c2 => h1 hne t tbe gbe ⟨⟨a1, a2, a3⟩, t1, t2, t3, t4⟩ (extT_refl _ _ _ _) (fun i => ⟨Or.inl, fun q => ?_⟩), fun c2 => ?_⟩
  · rcases q with q | q | q
    · exact q
    · rw [q]; omega
    · rw [q]; exact hsym.mp (by omega)
  have c3 : tbe (60 * w + v) = 0 := by
    rcases Nat.eq_zero_or_pos (tbe (60 * w + v)) with q | q
    · exact q
    · have := hsym.mpr q; omega
  have hne2 : 60 * w + v ≠ 60 * v + w := by omega
  refine nx_i ⟨vp_in_nI (by omega) (by decide), ?_⟩
  have c4 : put tbe (60 * v + w) (t + 1) (60 * w + v) = 0 := by rw [put_ne hne2]; exact c3
  refine h1 hne (t + 1) (put (put tbe (60 * v + w) (t + 1)) (60 * w + v) (t + 1)) _ ⟨⟨a1, a2, put_tab (put_tab a3 _ _) _ _⟩, fun i hi => by have := t1 i hi; omega, fun i hi => by have := t2 i hi; omega, ?_, ?_⟩ ⟨by omega, later1_refl _ _, later1_refl _ _, ?_⟩ ?_
  · intro i hi
    by_cases e : i = 60 * w + v
    · rw [e, put_at]; exact Nat.le_refl _
    · rw [put_ne e]; exact put_le t3 _ i hi
  · intro s hs1 hs2
    rcases Nat.lt_or_ge t s with q | q
    · have : s = t + 1 := by omega
      rw [this]; exact Or.inr (Or.inr ⟨60 * w + v, by omega, put_at⟩)
    · rcases t4 s hs1 q with r | r | r
      · exact Or.inl r
      · exact Or.inr (Or.inl r)
      · exact Or.inr (Or.inr (put_old c4 hs1 (put_old c2 hs1 r)))
  · intro i
    by_cases e : i = 60 * w + v
    · rw [e, put_at]; exact Or.inr ⟨c3, by omega⟩
    · rw [put_ne e]; exact put_later c2 i
  · intro i
    rw [put_pos, put_pos, or_assoc]

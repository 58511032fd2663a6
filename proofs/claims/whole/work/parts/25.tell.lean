/-! facts told in the class: what changes, and that the net stays as it must -/
theorem tl_upd {f : Nat → Int64} {v u : Nat} {y : Int64} (i : Nat) : tl (vp_updL f v y u) i = if u = v then tl y i else tl (f u) i := by
  unfold vp_updL
  split <;> rfl
theorem ti_upd {f : Nat → Int32} {v u : Nat} {y : Int32} (i : Nat) : ti (upd f v y u) i = if u = v then ti y i else ti (f u) i := by
  unfold upd
  split <;> rfl
theorem upd_at {f : Nat → Int32} {v : Nat} {y : Int32} : upd f v y v = y := by unfold upd; simp
theorem updL_at {f : Nat → Int64} {v : Nat} {y : Int64} : vp_updL f v y v = y := by unfold vp_updL; simp
theorem spRe_0 (n v : Nat) (fre : Nat → Int64) : spRe n v 0 fre = fre := by
  funext u
  unfold spRe
  split
  · exact tl_ext (fun i _ => by rw [tl_or, tl_0, Bool.or_false])
  · rfl
theorem sp_tellHas {n v a : Nat} (hn : n ≤ 60) (hv : v < 60) (ha : a < 32) {fhd : Nat → Int32} {fre : Nat → Int64} {fse : Nat → Int32} {post : Int32 → (Nat → Int32) → (Nat → Int64) → (Nat → Int32) → Prop}
    (h : ∀ y, (∀ i, ti y i = decide (i = a)) → post (nI (spCn v y fre fse n)) (upd fhd v (fhd v ||| y)) fre (spSe n v y fre fse)) : S_X1_tellHas (nI v) (nI a) (nI n) fhd fre fse post := by
  intro E hE
  apply hE
  refine nm_e ?_
  refine ⟨in60 hv, ?_⟩
  refine sp_spread hn hv ?_
  rw [cl31 (show v < 2 ^ 31 by omega), spRe_0]
  exact h _ (fun i => ti_bit ha i)
theorem sp_tellIncludes {n v w : Nat} (hn : n ≤ 60) (hv : v < 60) (hw : w < 60) {fin fre : Nat → Int64} {fse : Nat → Int32} {post : Int32 → (Nat → Int64) → (Nat → Int64) → (Nat → Int32) → Prop}
    (h : ∀ y, (∀ i, tl y i = decide (i = w)) → post (nI (cnAdd n v w fre fse)) (vp_updL fin v (fin v ||| y)) (reAdd n v w fre) (seAdd n v w fre fse)) : S_X1_tellIncludes (nI v) (nI w) (nI n) fin fre fse post := by
  intro E hE
  apply hE
  refine ⟨in60 hv, ?_⟩
  rw [cl31 (show v < 2 ^ 31 by omega)]
  refine sp_bit (by omega) ?_
  intro y hy
  exact sp_linkA hn hv hw (h y hy)
/-- numbers after two nodes became one -/
def mnF (n : Nat) (p q r : Int32) (fnu : Nat → Int32) : Nat → Int32 := fun u => if u < n ∧ (fnu u = p ∨ fnu u = q) then r else fnu u
theorem mnF_up {n : Nat} {p q r : Int32} {fnu : Nat → Int32} (h : fnu n = p ∨ fnu n = q) : upd (mnF n p q r fnu) n r = mnF (n + 1) p q r fnu := by
  funext j
  unfold upd mnF
  by_cases e : j = n
  · subst e; simp [h]
  · by_cases e2 : j < n
    · have : j < n + 1 := by omega
      simp [e, e2, this]
    · have : ¬ j < n + 1 := by omega
      simp [e, e2, this]
theorem mnF_skip {n : Nat} {p q r : Int32} {fnu : Nat → Int32} (h : ¬ (fnu n = p ∨ fnu n = q)) : mnF n p q r fnu = mnF (n + 1) p q r fnu := by
  funext j
  unfold mnF
  by_cases e : j = n
  · subst e; simp [h]
  · by_cases e2 : j < n
    · have : j < n + 1 := by omega
      simp [e2, this]
    · have : ¬ j < n + 1 := by omega
      simp [e2, this]
theorem sp_mergeNodes {n : Nat} (hn : n ≤ 60) {p q : Int32} {fnu : Nat → Int32} {post : (Nat → Int32) → Prop} (h : post (mnF n p q (if q < p then q else p) fnu)) : S_X1_mergeNodes p q (nI n) fnu post := by
  intro E K hK hE
  apply hE
  refine nm_e ?_
  generalize (if q < p then q else p) = r at h ⊢
  have key := dn (P := fun u => K r (nI u) (mnF u p q r fnu)) n (by
    apply hK
    exact hd_eq h) (by
    intro u hu ih
    apply hK
    refine hd_lt hu (by omega) ?_
    refine ⟨in60 (by omega), ?_⟩
    rw [cl31 (show u < 2 ^ 31 by omega)]
    have e1 : mnF u p q r fnu u = fnu u := by unfold mnF; simp
    rw [e1]
    refine ⟨fun c => ?_, fun c => ⟨fun c2 => ?_, fun c2 => ?_⟩⟩
    · refine nx_i ?_
      rw [mnF_up (Or.inl c)]; exact ih
    · refine nx_i ?_
      rw [mnF_skip (by rintro (h | h) <;> contradiction)]; exact ih
    · refine nx_i ?_
      rw [mnF_up (Or.inr c2)]; exact ih)
  have z : mnF 0 p q r fnu = fnu := by funext j; unfold mnF; simp
  have k0 := key 0 (by omega)
  rw [z] at k0
  exact k0
def joAdd (v w : Nat) (yw yv : Int64) (fjo : Nat → Int64) : Nat → Int64 := vp_updL (vp_updL fjo v (fjo v ||| yw)) w ((vp_updL fjo v (fjo v ||| yw)) w ||| yv)
theorem sp_tellOne {n v w : Nat} (hn : n ≤ 60) (hv : v < n) (hw : w < n) {fjo : Nat → Int64} {fnu : Nat → Int32} {fre : Nat → Int64} {fse : Nat → Int32} {post : Int32 → (Nat → Int64) → (Nat → Int32) → (Nat → Int64) → (Nat → Int32) → Prop}
    (h0 : v = w → post 0 fjo fnu fre fse)
    (h1 : v ≠ w → ∀ yw yv, (∀ i, tl yw i = decide (i = w)) → (∀ i, tl yv i = decide (i = v)) → post (nI (cnAdd n v w fre fse + cnAdd n w v (reAdd n v w fre) (seAdd n v w fre fse))) (joAdd v w yw yv fjo) (mnF n (fnu v) (fnu w) (if fnu w < fnu v then fnu w else fnu v) fnu) (reAdd n w v (reAdd n v w fre)) (seAdd n w v (reAdd n v w fre) (seAdd n v w fre fse))) :
    S_X1_tellOne (nI v) (nI w) (nI n) fjo fnu fre fse post := by
  intro E hE
  apply hE
  have cv := cl31 (show v < 2 ^ 31 by omega)
  have cw := cl31 (show w < 2 ^ 31 by omega)
  refine ⟨fun c => ?_, fun c => h0 ((nI_eq (by omega) (by omega)).mp c)⟩
  have hne : v ≠ w := fun e => c (by rw [e])
  refine ⟨in60 (by omega), ?_⟩
  refine sp_bit (by omega) ?_
  intro yw hyw
  refine ⟨in60 (by omega), ?_⟩
  refine sp_bit (by omega) ?_
  intro yv hyv
  rw [cv, cw]
  refine sp_mergeNodes hn ?_
  refine sp_linkA hn (by omega) (by omega) ?_
  refine sp_linkA hn (by omega) (by omega) ?_
  rw [nI_add]
  exact h1 hne yw yv hyw hyv
/-- a new HAS: the net stays as it must -/
theorem ok_has {n k v a : Nat} {fhd : Nat → Int32} {fin fjo : Nat → Int64} {fnu : Nat → Int32} {fre : Nat → Int64} {fse : Nat → Int32} (ok : netOK n k fhd fin fjo fnu fre fse) (hv : v < n) (ha : a < k) {y : Int32} (hy : ∀ i, ti y i = decide (i = a)) : netOK n k (upd fhd v (fhd v ||| y)) fin fjo fnu fre (spSe n v y fre fse) := by
  obtain ⟨o1, o2, o3, o4, o5, o6, o7, o8⟩ := ok
  have hb : ∀ u b, ti (upd fhd v (fhd v ||| y) u) b = true ↔ ti (fhd u) b = true ∨ (u = v ∧ b = a) := by
    intro u b
    rw [ti_upd]
    by_cases e : u = v
    · subst e
      rw [if_pos rfl, ti_or, Bool.or_eq_true, hy, decide_eq_true_iff]
      simp
    · rw [if_neg e]
      simp [e]
  refine ⟨o1, o2, ?_, o4, o5, o6, ?_, o8⟩
  · intro u hu b hbit
    rcases (hb u b).mp hbit with h | ⟨_, h⟩
    · exact o3 u hu b h
    · rw [h]; exact ha
  · intro x hx b
    unfold spSe
    by_cases q : tl (fre x) v = true
    · rw [if_pos ⟨hx, q⟩, ti_or, Bool.or_eq_true, o7 x hx, hy, decide_eq_true_iff]
      constructor
      · rintro (⟨u, h1, h2⟩ | e)
        · exact ⟨u, h1, (hb u b).mpr (Or.inl h2)⟩
        · exact ⟨v, (o6 x hx v).mp q, (hb v b).mpr (Or.inr ⟨rfl, e⟩)⟩
      · rintro ⟨u, h1, h2⟩
        rcases (hb u b).mp h2 with h | ⟨_, h⟩
        · exact Or.inl ⟨u, h1, h⟩
        · exact Or.inr h
    · rw [if_neg (fun c => q c.2), o7 x hx]
      constructor
      · rintro ⟨u, h1, h2⟩; exact ⟨u, h1, (hb u b).mpr (Or.inl h2)⟩
      · rintro ⟨u, h1, h2⟩
        rcases (hb u b).mp h2 with h | ⟨e, _⟩
        · exact ⟨u, h1, h⟩
        · rw [e] at h1; exact absurd ((o6 x hx v).mpr h1) q
/-- a new INCLUDES -/
theorem ok_inc {n k v w : Nat} {fhd : Nat → Int32} {fin fjo : Nat → Int64} {fnu : Nat → Int32} {fre : Nat → Int64} {fse : Nat → Int32} (ok : netOK n k fhd fin fjo fnu fre fse) (hv : v < n) (hw : w < n) {y : Int64} (hy : ∀ i, tl y i = decide (i = w)) : netOK n k fhd (vp_updL fin v (fin v ||| y)) fjo fnu (reAdd n v w fre) (seAdd n v w fre fse) := by
  obtain ⟨o1, o2, o3, o4, o5, o6, o7, o8⟩ := ok
  have hb : ∀ u b, tl (vp_updL fin v (fin v ||| y) u) b = true ↔ tl (fin u) b = true ∨ (u = v ∧ b = w) := by
    intro u b
    rw [tl_upd]
    by_cases e : u = v
    · subst e
      rw [if_pos rfl, tl_or, Bool.or_eq_true, hy, decide_eq_true_iff]
      simp
    · rw [if_neg e]
      simp [e]
  have hst : ∀ x z, (stepB n fin fjo x z ∨ (x = v ∧ z = w)) ↔ stepB n (vp_updL fin v (fin v ||| y)) fjo x z := by
    intro x z
    unfold stepB
    rw [hb]
    constructor
    · rintro (⟨h1, h2 | h2⟩ | ⟨rfl, rfl⟩)
      · exact ⟨h1, Or.inl (Or.inl h2)⟩
      · exact ⟨h1, Or.inr h2⟩
      · exact ⟨hv, Or.inl (Or.inr ⟨rfl, rfl⟩)⟩
    · rintro ⟨h1, (h2 | h2) | h2⟩
      · exact Or.inl ⟨h1, Or.inl h2⟩
      · exact Or.inr h2
      · exact Or.inl ⟨h1, Or.inr h2⟩
  refine ⟨o1, o2, o3, ?_, o5, ?_, ?_, o8⟩
  · intro u hu b hbit
    rcases (hb u b).mp hbit with h | ⟨_, h⟩
    · exact o4 u hu b h
    · rw [h]; exact hw
  · intro x hx z
    rw [reAdd_ok hv hw o6 hx z]
    exact rch_congr hst x z
  · intro x hx b
    rw [seAdd_ok hv hw o6 o7 hx b]
    constructor
    · rintro ⟨u, h1, h2⟩; exact ⟨u, (rch_congr hst x u).mp h1, h2⟩
    · rintro ⟨u, h1, h2⟩; exact ⟨u, (rch_congr hst x u).mpr h1, h2⟩
/-- a new ONE -/
theorem ok_one {n k v w : Nat} {fhd : Nat → Int32} {fin fjo : Nat → Int64} {fnu : Nat → Int32} {fre : Nat → Int64} {fse : Nat → Int32} (ok : netOK n k fhd fin fjo fnu fre fse) (hv : v < n) (hw : w < n) (hne : v ≠ w) {yw yv : Int64} (hyw : ∀ i, tl yw i = decide (i = w)) (hyv : ∀ i, tl yv i = decide (i = v)) :
    netOK n k fhd fin (joAdd v w yw yv fjo) (mnF n (fnu v) (fnu w) (if fnu w < fnu v then fnu w else fnu v) fnu) (reAdd n w v (reAdd n v w fre)) (seAdd n w v (reAdd n v w fre) (seAdd n v w fre fse)) := by
  obtain ⟨o1, o2, o3, o4, o5, o6, o7, o8⟩ := ok
  have hb : ∀ u b, tl (joAdd v w yw yv fjo u) b = true ↔ tl (fjo u) b = true ∨ (u = v ∧ b = w) ∨ (u = w ∧ b = v) := by
    intro u b
    unfold joAdd
    rw [tl_upd]
    by_cases e : u = w
    · subst e
      have e2 : ¬ u = v := fun e => hne e.symm
      rw [if_pos rfl, tl_or, Bool.or_eq_true, tl_upd, if_neg e2, hyv, decide_eq_true_iff]
      simp [e2]
    · rw [if_neg e, tl_upd]
      by_cases e2 : u = v
      · subst e2
        rw [if_pos rfl, tl_or, Bool.or_eq_true, hyw, decide_eq_true_iff]
        simp [e]
      · rw [if_neg e2]
        simp [e, e2]
  have hst : ∀ x z, ((stepB n fin fjo x z ∨ (x = v ∧ z = w)) ∨ (x = w ∧ z = v)) ↔ stepB n fin (joAdd v w yw yv fjo) x z := by
    intro x z
    unfold stepB
    rw [hb]
    constructor
    · rintro ((⟨h1, h2 | h2⟩ | ⟨rfl, rfl⟩) | ⟨rfl, rfl⟩)
      · exact ⟨h1, Or.inl h2⟩
      · exact ⟨h1, Or.inr (Or.inl h2)⟩
      · exact ⟨hv, Or.inr (Or.inr (Or.inl ⟨rfl, rfl⟩))⟩
      · exact ⟨hw, Or.inr (Or.inr (Or.inr ⟨rfl, rfl⟩))⟩
    · rintro ⟨h1, h2 | h2 | h2 | h2⟩
      · exact Or.inl (Or.inl ⟨h1, Or.inl h2⟩)
      · exact Or.inl (Or.inl ⟨h1, Or.inr h2⟩)
      · exact Or.inl (Or.inr h2)
      · exact Or.inr h2
  have hj : ∀ x z, (oneB n fjo x z ∨ (x = v ∧ z = w) ∨ (x = w ∧ z = v)) ↔ oneB n (joAdd v w yw yv fjo) x z := by
    intro x z
    unfold oneB
    rw [hb]
    constructor
    · rintro (⟨h1, h2⟩ | ⟨rfl, rfl⟩ | ⟨rfl, rfl⟩)
      · exact ⟨h1, Or.inl h2⟩
      · exact ⟨hv, Or.inr (Or.inl ⟨rfl, rfl⟩)⟩
      · exact ⟨hw, Or.inr (Or.inr ⟨rfl, rfl⟩)⟩
    · rintro ⟨h1, h2 | h2 | h2⟩
      · exact Or.inl ⟨h1, h2⟩
      · exact Or.inr (Or.inl h2)
      · exact Or.inr (Or.inr h2)
  have r1 : ∀ x, x < n → ∀ z, tl (reAdd n v w fre x) z = true ↔ rch (fun a b => stepB n fin fjo a b ∨ (a = v ∧ b = w)) x z := fun x hx z => reAdd_ok hv hw o6 hx z
  have q1 : ∀ x, x < n → ∀ b, ti (seAdd n v w fre fse x) b = true ↔ ∃ u, rch (fun a b => stepB n fin fjo a b ∨ (a = v ∧ b = w)) x u ∧ ti (fhd u) b = true := fun x hx b => seAdd_ok hv hw o6 o7 hx b
  refine ⟨o1, o2, o3, o4, ?_, ?_, ?_, ?_⟩
  · intro u hu b hbit
    rcases (hb u b).mp hbit with h | ⟨e1, e2⟩ | ⟨e1, e2⟩
    · have := o5 u hu b h
      exact ⟨this.1, this.2.1, (hb b u).mpr (Or.inl this.2.2)⟩
    · subst e1 e2
      exact ⟨hw, fun e => hne e.symm, (hb b u).mpr (Or.inr (Or.inr ⟨rfl, rfl⟩))⟩
    · subst e1 e2
      exact ⟨hv, hne, (hb b u).mpr (Or.inr (Or.inl ⟨rfl, rfl⟩))⟩
  · intro x hx z
    rw [reAdd_ok hw hv r1 hx z]
    exact rch_congr hst x z
  · intro x hx b
    rw [seAdd_ok hw hv r1 q1 hx b]
    constructor
    · rintro ⟨u, h1, h2⟩; exact ⟨u, (rch_congr hst x u).mp h1, h2⟩
    · rintro ⟨u, h1, h2⟩; exact ⟨u, (rch_congr hst x u).mpr h1, h2⟩
  · intro x hx
    obtain ⟨m, em, hm⟩ := o8 x hx
    obtain ⟨mv, emv, hmv⟩ := o8 v hv
    obtain ⟨mw, emw, hmw⟩ := o8 w hw
    have bm : m < 60 := by have := isNum_le hm; omega
    have bv : mv < 60 := by have := isNum_le hmv; omega
    have bw : mw < 60 := by have := isNum_le hmw; omega
    have hmg := isNum_merge (oneB_sym o5) hmv hmw hm
    refine ⟨_, ?_, (by
      obtain ⟨g1, g2⟩ := hmg
      exact ⟨(rch_congr hj x _).mp g1, fun u hu => g2 u ((rch_congr hj x u).mpr hu)⟩)⟩
    unfold mnF
    rw [em, emv, emw]
    have hcc : (nI m = nI mv ∨ nI m = nI mw) ↔ (m = mv ∨ m = mw) := by rw [nI_eq (by omega) (by omega), nI_eq (by omega) (by omega)]
    have e1 : (if nI mw < nI mv then nI mw else nI mv) = nI (if mw < mv then mw else mv) := by
      by_cases c : mw < mv
      · rw [if_pos c, if_pos ((nI_ltI (by omega) (by omega)).mpr c)]
      · rw [if_neg c, if_neg (fun q => c ((nI_ltI (by omega) (by omega)).mp q))]
    rw [e1]
    by_cases c : m = mv ∨ m = mw
    · rw [if_pos ⟨hx, hcc.mpr c⟩, if_pos c]
    · rw [if_neg (fun q => c (hcc.mp q.2)), if_neg c]

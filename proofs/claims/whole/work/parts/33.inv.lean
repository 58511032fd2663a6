/-! the net's rows below n alone count; a new variable, a new atom -/
theorem rch_no {E : Nat → Nat → Prop} {v w : Nat} (h : ∀ y, ¬ E v y) (r : rch E v w) : w = v := by
  obtain ⟨k, hk⟩ := r
  cases k with
  | zero => exact hk.symm
  | succ k => obtain ⟨u, h1, _⟩ := hk; exact absurd h1 (h u)
theorem netOK_congr {n k : Nat} {fhd : Nat → Int32} {fin fjo : Nat → Int64} {fnu : Nat → Int32} {fre : Nat → Int64} {fse : Nat → Int32} {fhd' : Nat → Int32} {fin' fjo' : Nat → Int64} {fnu' : Nat → Int32} {fre' : Nat → Int64} {fse' : Nat → Int32} (ok : netOK n k fhd fin fjo fnu fre fse)
    (e1 : ∀ v, v < n → fhd' v = fhd v) (e2 : ∀ v, v < n → fin' v = fin v) (e3 : ∀ v, v < n → fjo' v = fjo v) (e4 : ∀ v, v < n → fnu' v = fnu v) (e5 : ∀ v, v < n → fre' v = fre v) (e6 : ∀ v, v < n → fse' v = fse v) : netOK n k fhd' fin' fjo' fnu' fre' fse' := by
  obtain ⟨o1, o2, o3, o4, o5, o6, o7, o8⟩ := ok
  have hst : ∀ x y, stepB n fin fjo x y ↔ stepB n fin' fjo' x y := by
    intro x y
    constructor
    · rintro ⟨h, q⟩; exact ⟨h, by rw [e2 x h, e3 x h]; exact q⟩
    · rintro ⟨h, q⟩; rw [e2 x h, e3 x h] at q; exact ⟨h, q⟩
  have hj : ∀ x y, oneB n fjo x y ↔ oneB n fjo' x y := by
    intro x y
    constructor
    · rintro ⟨h, q⟩; exact ⟨h, by rw [e3 x h]; exact q⟩
    · rintro ⟨h, q⟩; rw [e3 x h] at q; exact ⟨h, q⟩
  refine ⟨o1, o2, ?_, ?_, ?_, ?_, ?_, ?_⟩
  · intro v hv a q; rw [e1 v hv] at q; exact o3 v hv a q
  · intro v hv w q; rw [e2 v hv] at q; exact o4 v hv w q
  · intro v hv w q
    rw [e3 v hv] at q
    have := o5 v hv w q
    exact ⟨this.1, this.2.1, by rw [e3 w this.1]; exact this.2.2⟩
  · intro v hv w
    rw [e5 v hv, o6 v hv w]; exact rch_congr hst v w
  · intro v hv a
    rw [e6 v hv, o7 v hv a]
    constructor
    · rintro ⟨u, h1, h2⟩
      have hu : u < n := rch_lt (stepB_lt o4 o5) hv h1
      exact ⟨u, (rch_congr hst v u).mp h1, by rw [e1 u hu]; exact h2⟩
    · rintro ⟨u, h1, h2⟩
      have h1' := (rch_congr hst v u).mpr h1
      have hu : u < n := rch_lt (stepB_lt o4 o5) hv h1'
      rw [e1 u hu] at h2
      exact ⟨u, h1', h2⟩
  · intro v hv
    obtain ⟨m, em, g1, g2⟩ := o8 v hv
    exact ⟨m, by rw [e4 v hv]; exact em, (rch_congr hj v m).mp g1, fun u hu => g2 u ((rch_congr hj v u).mpr hu)⟩
theorem ok_var {n k : Nat} {fhd : Nat → Int32} {fin fjo : Nat → Int64} {fnu : Nat → Int32} {fre : Nat → Int64} {fse : Nat → Int32} (ok : netOK n k fhd fin fjo fnu fre fse) (hn : n < 60) {y : Int64} (hy : ∀ i, tl y i = decide (i = n)) : netOK (n + 1) k (upd fhd n 0) (vp_updL fin n 0) (vp_updL fjo n 0) (upd fnu n (nI n)) (vp_updL fre n y) (upd fse n 0) := by
  obtain ⟨o1, o2, o3, o4, o5, o6, o7, o8⟩ := ok
  have hst : ∀ x z, stepB n fin fjo x z ↔ stepB (n + 1) (vp_updL fin n 0) (vp_updL fjo n 0) x z := by
    intro x z
    unfold stepB
    by_cases e : x = n
    · subst e
      rw [updL_at, updL_at, tl_0]
      constructor
      · rintro ⟨h, _⟩; omega
      · rintro ⟨_, h | h⟩ <;> cases h
    · rw [updL_ne e, updL_ne e]
      constructor
      · rintro ⟨h, q⟩; exact ⟨by omega, q⟩
      · rintro ⟨h, q⟩; exact ⟨by omega, q⟩
  have hj : ∀ x z, oneB n fjo x z ↔ oneB (n + 1) (vp_updL fjo n 0) x z := by
    intro x z
    unfold oneB
    by_cases e : x = n
    · subst e
      rw [updL_at, tl_0]
      constructor
      · rintro ⟨h, _⟩; omega
      · rintro ⟨_, h⟩; cases h
    · rw [updL_ne e]
      constructor
      · rintro ⟨h, q⟩; exact ⟨by omega, q⟩
      · rintro ⟨h, q⟩; exact ⟨by omega, q⟩
  have nos : ∀ z, ¬ stepB n fin fjo n z := fun z h => absurd h.1 (by omega)
  have noj : ∀ z, ¬ oneB n fjo n z := fun z h => absurd h.1 (by omega)
  refine ⟨by omega, o2, ?_, ?_, ?_, ?_, ?_, ?_⟩
  · intro v hv a q
    by_cases e : v = n
    · rw [e, upd_at, ti_0] at q; cases q
    · rw [upd_ne e] at q; exact o3 v (by omega) a q
  · intro v hv w q
    by_cases e : v = n
    · rw [e, updL_at, tl_0] at q; cases q
    · rw [updL_ne e] at q; have := o4 v (by omega) w q; omega
  · intro v hv w q
    by_cases e : v = n
    · rw [e, updL_at, tl_0] at q; cases q
    · rw [updL_ne e] at q
      have := o5 v (by omega) w q
      exact ⟨by omega, this.2.1, by rw [updL_ne (by omega)]; exact this.2.2⟩
  · intro v hv w
    rw [← rch_congr hst v w]
    by_cases e : v = n
    · subst e
      rw [updL_at, hy, decide_eq_true_iff]
      exact ⟨fun q => by rw [q]; exact rch_refl _, fun q => rch_no nos q⟩
    · rw [updL_ne e]; exact o6 v (by omega) w
  · intro v hv a
    by_cases e : v = n
    · subst e
      rw [upd_at, ti_0]
      constructor
      · intro q; cases q
      · rintro ⟨u, h1, h2⟩
        rw [rch_no nos ((rch_congr hst v u).mpr h1), upd_at, ti_0] at h2
        exact h2
    · rw [upd_ne e, o7 v (by omega) a]
      constructor
      · rintro ⟨u, h1, h2⟩
        have hu : u < n := rch_lt (stepB_lt o4 o5) (by omega) h1
        exact ⟨u, (rch_congr hst v u).mp h1, by rw [upd_ne (by omega)]; exact h2⟩
      · rintro ⟨u, h1, h2⟩
        have h1' := (rch_congr hst v u).mpr h1
        have hu : u < n := rch_lt (stepB_lt o4 o5) (by omega) h1'
        rw [upd_ne (by omega)] at h2
        exact ⟨u, h1', h2⟩
  · intro v hv
    by_cases e : v = n
    · subst e
      refine ⟨v, upd_at, rch_refl v, fun u hu => ?_⟩
      rw [rch_no noj ((rch_congr hj v u).mpr hu)]
      exact Nat.le_refl v
    · obtain ⟨m, em, g1, g2⟩ := o8 v (by omega)
      exact ⟨m, by rw [upd_ne e]; exact em, (rch_congr hj v m).mp g1, fun u hu => g2 u ((rch_congr hj v u).mpr hu)⟩
theorem ok_atom {n k : Nat} {fhd : Nat → Int32} {fin fjo : Nat → Int64} {fnu : Nat → Int32} {fre : Nat → Int64} {fse : Nat → Int32} (ok : netOK n k fhd fin fjo fnu fre fse) (hk : k < 32) : netOK n (k + 1) fhd fin fjo fnu fre fse := by
  obtain ⟨o1, o2, o3, o4, o5, o6, o7, o8⟩ := ok
  exact ⟨o1, by omega, fun v hv a q => by have := o3 v hv a q; omega, o4, o5, o6, o7, o8⟩
theorem fitC_var {n : Nat} {th tic tbe : Nat → Nat} {fhd : Nat → Int32} {fin fjo : Nat → Int64} (h : fitC n th tic tbe fhd fin fjo) : fitC (n + 1) th tic tbe (upd fhd n 0) (vp_updL fin n 0) (vp_updL fjo n 0) := by
  obtain ⟨h1, h2, h3⟩ := h
  refine ⟨fun v a hv ha => ?_, fun v a hv ha => ?_, fun v a hv ha => ?_⟩
  · rw [h1 v a hv ha]
    by_cases e : v = n
    · subst e; rw [upd_at, ti_0]; exact ⟨fun q => absurd q.1 (by omega), fun q => by cases q.2⟩
    · rw [upd_ne e]; exact ⟨fun q => ⟨by omega, q.2⟩, fun q => ⟨by omega, q.2⟩⟩
  · rw [h2 v a hv ha]
    by_cases e : v = n
    · subst e; rw [updL_at, tl_0]; exact ⟨fun q => absurd q.1 (by omega), fun q => by cases q.2⟩
    · rw [updL_ne e]; exact ⟨fun q => ⟨by omega, q.2⟩, fun q => ⟨by omega, q.2⟩⟩
  · rw [h3 v a hv ha]
    by_cases e : v = n
    · subst e; rw [updL_at, tl_0]; exact ⟨fun q => absurd q.1 (by omega), fun q => by cases q.2⟩
    · rw [updL_ne e]; exact ⟨fun q => ⟨by omega, q.2⟩, fun q => ⟨by omega, q.2⟩⟩
theorem biOK_put {n b : Nat} {f : Nat → Int32} {bi : Nat → Nat} (h : biOK n f bi) (hb : b < 10) : biOK (n + 1) (upd f n (nI b)) (put bi n b) := by
  intro v hv
  by_cases e : v = n
  · subst e; rw [upd_at, put_at]; exact ⟨rfl, hb⟩
  · rw [upd_ne e, put_ne e]; exact h v (by omega)
theorem biOK_low {n m b : Nat} {f : Nat → Int32} {bi : Nat → Nat} (h : biOK m f bi) (hm : m ≤ n) : biOK m f (put bi n b) := by
  intro v hv
  rw [put_ne (by omega)]; exact h v hv
/-! what is kept at marks -/
def keptOK (n k s : Nat) (bi ab th tic tbe : Nat → Nat) (x : NV) : Prop :=
  x.1 = nI n ∧ x.2.1 = nI k ∧ biOK n x.2.2.1 bi ∧ biOK k x.2.2.2.1 ab ∧ netOK n k x.2.2.2.2.1 x.2.2.2.2.2.1 x.2.2.2.2.2.2.1 x.2.2.2.2.2.2.2.1 x.2.2.2.2.2.2.2.2.1 x.2.2.2.2.2.2.2.2.2 ∧ fit s n th tic tbe x.2.2.2.2.1 x.2.2.2.2.2.1 x.2.2.2.2.2.2.1
def marksOK (m t n k : Nat) (bi ab th tic tbe mt mv ma : Nat → Nat) (gmt gmv gma : Nat → Int32) (kv : Nat → NV) : Prop :=
  m ≤ 20 ∧ (∀ j, j < m → gmt j = nI (mt j) ∧ gmv j = nI (mv j) ∧ gma j = nI (ma j)) ∧ (∀ j, j < m → mt j ≤ t ∧ mv j ≤ n ∧ ma j ≤ k) ∧ (∀ i j, i < j → j < m → mt i ≤ mt j ∧ mv i ≤ mv j ∧ ma i ≤ ma j) ∧ (∀ j, j < m → keptOK (mv j) (ma j) (mt j) bi ab th tic tbe (kv j))
theorem marks_ext {m t n k t' n' k' : Nat} {bi ab th tic tbe mt mv ma : Nat → Nat} {gmt gmv gma : Nat → Int32} {kv : Nat → NV} {bi' ab' th' tic' tbe' : Nat → Nat} (h : marksOK m t n k bi ab th tic tbe mt mv ma gmt gmv gma kv) (hn : n ≤ n') (hk : k ≤ k') (hb : ∀ v, v < n → bi' v = bi v) (ha : ∀ a, a < k → ab' a = ab a) (e : extT t th tic tbe t' th' tic' tbe') : marksOK m t' n' k' bi' ab' th' tic' tbe' mt mv ma gmt gmv gma kv := by
  obtain ⟨h1, h2, h3, h4, h5⟩ := h
  refine ⟨h1, h2, fun j hj => ?_, h4, fun j hj => ?_⟩
  · have := h3 j hj
    have := e.1
    omega
  · obtain ⟨k1, k2, k3, k4, k5, k6⟩ := h5 j hj
    have q := h3 j hj
    exact ⟨k1, k2, fun v hv => by rw [hb v (by omega)]; exact k3 v hv, fun a hv => by rw [ha a (by omega)]; exact k4 a hv, k5, fit_ext q.1 e k6⟩

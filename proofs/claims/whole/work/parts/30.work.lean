/-! the reference's working out, in words of the class's net -/
theorem rch_bind {E F : Nat → Nat → Prop} (hs : ∀ x y, E x y → rch F x y) {v w : Nat} (h : rch E v w) : rch F v w :=
  rch_ind (P := fun x => rch F x w) h (rch_refl w) (fun x y e _ r => rch_trans (hs x y e) r)
def isLev (n : Nat) (fre : Nat → Int64) (bi : Nat → Nat) (v m : Nat) : Prop := isMin (fun w => tl (fre w) v = true) bi n 10 m
def isALev (n : Nat) (fse : Nat → Int32) (bi ab : Nat → Nat) (a m : Nat) : Prop := isMin (fun w => ti (fse w) a = true) bi n (ab a) m
/-- births as numbers -/
def biOK (n : Nat) (f : Nat → Int32) (bi : Nat → Nat) : Prop := ∀ v, v < n → f v = nI (bi v) ∧ bi v < 10
/-- the reference's tables hold the class's facts -/
def relT (n k : Nat) (ghv gic gbe : Nat → Int32) (fhd : Nat → Int32) (fin fjo : Nat → Int64) : Prop :=
  (∀ v a, v < n → a < k → (ti (fhd v) a = true ↔ ¬ ghv (32 * v + a) ≤ 0)) ∧
  (∀ v w, v < n → w < n → (tl (fin v) w = true ↔ ¬ gic (60 * v + w) ≤ 0)) ∧
  (∀ v w, v < n → w < n → (tl (fjo v) w = true ↔ ¬ gbe (60 * v + w) ≤ 0))
/-- what the reference has worked out -/
def woOK (n k : Nat) (bi ab : Nat → Nat) (fnu : Nat → Int32) (fre : Nat → Int64) (fse : Nat → Int32) (gnd : Nat → Int32) (gre : Nat → Int64) (gse glv gal : Nat → Int32) : Prop :=
  (∀ v, v < n → gnd v = fnu v) ∧
  (∀ v, v < n → ∀ i, i < 64 → (tl (gre v) i = true ↔ ∃ u, u < n ∧ tl (fre v) u = true ∧ fnu u = nI i)) ∧
  (∀ v, v < n → gse v = fse v) ∧
  (∀ v, v < n → ∃ m, glv v = nI m ∧ isLev n fre bi v m) ∧
  (∀ a, a < k → ∃ m, gal a = nI m ∧ isALev n fse bi ab a m)
theorem ok_nu {n k : Nat} {fhd : Nat → Int32} {fin fjo : Nat → Int64} {fnu : Nat → Int32} {fre : Nat → Int64} {fse : Nat → Int32} (ok : netOK n k fhd fin fjo fnu fre fse) : ∃ nu : Nat → Nat, ∀ v, v < n → fnu v = nI (nu v) ∧ isNum (oneB n fjo) v (nu v) := pick ok.2.2.2.2.2.2.2
theorem ok_rel {n k : Nat} {fhd : Nat → Int32} {fin fjo : Nat → Int64} {fnu : Nat → Int32} {fre : Nat → Int64} {fse : Nat → Int32} (ok : netOK n k fhd fin fjo fnu fre fse) {v w : Nat} (hv : v < n) (h : tl (fre v) w = true) : w < n := by
  obtain ⟨o1, o2, o3, o4, o5, o6, o7, o8⟩ := ok
  exact rch_lt (stepB_lt o4 o5) hv ((o6 v hv w).mp h)
theorem one_step {n : Nat} {fin fjo : Nat → Int64} {v w : Nat} (h : rch (oneB n fjo) v w) : rch (stepB n fin fjo) v w := rch_mono (fun x y e => ⟨e.1, Or.inr e.2⟩) h
/-- variables of one node are reached alike -/
theorem ok_nu_re {n k : Nat} {fhd : Nat → Int32} {fin fjo : Nat → Int64} {fnu : Nat → Int32} {fre : Nat → Int64} {fse : Nat → Int32} (ok : netOK n k fhd fin fjo fnu fre fse) {v u w : Nat} (hv : v < n) (hu : u < n) (hw : w < n) (e : fnu u = fnu w) (h : tl (fre v) u = true) : tl (fre v) w = true := by
  obtain ⟨o1, o2, o3, o4, o5, o6, o7, o8⟩ := ok
  obtain ⟨m, em, hm⟩ := o8 u hu
  obtain ⟨m', em', hm'⟩ := o8 w hw
  have bm := isNum_le hm
  have bm' := isNum_le hm'
  rw [em, em', nI_eq (by omega) (by omega)] at e
  have r := (isNum_eq_iff (oneB_sym o5) hm hm').mp e
  exact (o6 v hv w).mpr (rch_trans ((o6 v hv u).mp h) (one_step r))
theorem ok_self {n k : Nat} {fhd : Nat → Int32} {fin fjo : Nat → Int64} {fnu : Nat → Int32} {fre : Nat → Int64} {fse : Nat → Int32} (ok : netOK n k fhd fin fjo fnu fre fse) {v : Nat} (hv : v < n) : tl (fre v) v = true := (ok.2.2.2.2.2.1 v hv v).mpr (rch_refl v)
theorem ok_trans {n k : Nat} {fhd : Nat → Int32} {fin fjo : Nat → Int64} {fnu : Nat → Int32} {fre : Nat → Int64} {fse : Nat → Int32} (ok : netOK n k fhd fin fjo fnu fre fse) {v u w : Nat} (hv : v < n) (h1 : tl (fre v) u = true) (h2 : tl (fre u) w = true) : tl (fre v) w = true := by
  have hu := ok_rel ok hv h1
  exact (ok.2.2.2.2.2.1 v hv w).mpr (rch_trans ((ok.2.2.2.2.2.1 v hv u).mp h1) ((ok.2.2.2.2.2.1 u hu w).mp h2))
/-- a node's number: below, of the same node, its own number -/
theorem ok_num {n k : Nat} {fhd : Nat → Int32} {fin fjo : Nat → Int64} {fnu : Nat → Int32} {fre : Nat → Int64} {fse : Nat → Int32} (ok : netOK n k fhd fin fjo fnu fre fse) {v : Nat} (hv : v < n) : ∃ m, m ≤ v ∧ fnu v = nI m ∧ fnu m = nI m := by
  obtain ⟨o1, o2, o3, o4, o5, o6, o7, o8⟩ := ok
  obtain ⟨m, em, hm⟩ := o8 v hv
  have bm := isNum_le hm
  obtain ⟨m', em', hm'⟩ := o8 m (by omega)
  have e : m' = m := isNum_uniq hm' (isNum_self (oneB_sym o5) hm)
  exact ⟨m, bm, em, by rw [em', e]⟩
theorem wo_bit {n k : Nat} {bi ab : Nat → Nat} {fhd : Nat → Int32} {fin fjo : Nat → Int64} {fnu : Nat → Int32} {fre : Nat → Int64} {fse : Nat → Int32} {gnd : Nat → Int32} {gre : Nat → Int64} {gse glv gal : Nat → Int32} (ok : netOK n k fhd fin fjo fnu fre fse) (wo : woOK n k bi ab fnu fre fse gnd gre gse glv gal) {v w m : Nat} (hv : v < n) (hw : w < n) (hm : m < 64) (em : fnu w = nI m) : tl (gre v) m = true ↔ tl (fre v) w = true := by
  rw [wo.2.1 v hv m hm]
  constructor
  · rintro ⟨u, hu, h1, h2⟩
    exact ok_nu_re ok hv hu hw (by rw [h2, em]) h1
  · intro h
    exact ⟨w, hw, h, em⟩
theorem sp_workOut {n k : Nat} {bi ab : Nat → Nat} {fhd : Nat → Int32} {fin fjo : Nat → Int64} {fnu : Nat → Int32} {fre : Nat → Int64} {fse : Nat → Int32} {gbi gab ghv gic gbe gnd : Nat → Int32} {gre : Nat → Int64} {gse glv gal : Nat → Int32} (ok : netOK n k fhd fin fjo fnu fre fse) (hbi : biOK n gbi bi) (hab : biOK k gab ab) (rl : relT n k ghv gic gbe fhd fin fjo) {post : (Nat → Int32) → (Nat → Int64) → (Nat → Int32) → (Nat → Int32) → (Nat → Int32) → Prop}
    (h : ∀ gnd gre gse glv gal, woOK n k bi ab fnu fre fse gnd gre gse glv gal → post gnd gre gse glv gal) : S_X4_workOut (nI n) (nI k) gbi gab ghv gic gbe gnd gre gse glv gal post := by
  intro E hE
  apply hE
  obtain ⟨nu, hnu⟩ := ok_nu ok
  have ok' := ok
  obtain ⟨o1, o2, o3, o4, o5, o6, o7, o8⟩ := ok
  obtain ⟨r1, r2, r3⟩ := rl
  have bnu : ∀ v, v < n → nu v < 60 := fun v hv => by have := isNum_le (hnu v hv).2; omega
  refine sp_findNodes o1 (J := oneB n fjo) (fun v w hv hw => ⟨fun q => (r3 v w hv hw).mp q.2, fun q => ⟨hv, (r3 v w hv hw).mpr q⟩⟩) (fun v w e => ⟨e.1, oneB_lt o5 v w e⟩) (oneB_sym o5) ?_
  intro gn hgn
  have egn : ∀ v, v < n → gn v = fnu v := by
    intro v hv
    obtain ⟨m, e, hm⟩ := hgn v hv
    rw [e, (hnu v hv).1, isNum_uniq hm (hnu v hv).2]
  have hgnu : ∀ v, v < n → gn v = nI (nu v) ∧ nu v < 60 := fun v hv => ⟨by rw [egn v hv, (hnu v hv).1], bnu v hv⟩
  refine sp_findReach o1 hgnu (I := fun a b => tl (fin a) b = true) r2 ?_
  intro gr hgr
  have hE : ∀ v u, v < n → (rch (fun a b => a < n ∧ b < n ∧ (nu a = nu b ∨ tl (fin a) b = true)) v u ↔ tl (fre v) u = true) := by
    intro v u hv
    rw [o6 v hv u]
    constructor
    · intro q
      refine rch_bind ?_ q
      rintro x y ⟨hx, hy, e | e⟩
      · exact one_step ((isNum_eq_iff (oneB_sym o5) (hnu x hx).2 (hnu y hy).2).mp e)
      · exact rch_one ⟨hx, Or.inl e⟩
    · intro q
      refine rch_bind ?_ q
      intro x y e
      have hy := stepB_lt o4 o5 x y e
      rcases e with ⟨hx, e | e⟩
      · exact rch_one ⟨hx, hy, Or.inr e⟩
      · exact rch_one ⟨hx, hy, Or.inl ((isNum_eq_iff (oneB_sym o5) (hnu x hx).2 (hnu y hy).2).mpr (rch_one ⟨hx, e⟩))⟩
  have gr2 : ∀ v, v < n → ∀ i, i < 64 → (tl (gr v) i = true ↔ ∃ u, u < n ∧ tl (fre v) u = true ∧ fnu u = nI i) := by
    intro v hv i hi
    rw [hgr v hv i]
    constructor
    · rintro ⟨u, hu, e⟩
      have q := (hE v u hv).mp hu
      have hun := ok_rel ok' hv q
      exact ⟨u, hun, q, by rw [(hnu u hun).1, e]⟩
    · rintro ⟨u, hu, q, e⟩
      refine ⟨u, (hE v u hv).mpr q, ?_⟩
      rw [(hnu u hu).1, nI_eq (by have := bnu u hu; omega) (by omega)] at e
      exact e
  have bit : ∀ v w, v < n → w < n → (tl (gr v) (nu w) = true ↔ tl (fre v) w = true) := by
    intro v w hv hw
    rw [gr2 v hv _ (by have := bnu w hw; omega)]
    constructor
    · rintro ⟨u, hu, h1, h2⟩
      exact ok_nu_re ok' hv hu hw (by rw [h2, (hnu w hw).1]) h1
    · intro q
      exact ⟨w, hw, q, (hnu w hw).1⟩
  refine sp_findSets o1 o2 hgnu (Hh := fun v a => ti (fhd v) a = true) r1 ?_
  intro gs hgs
  refine sp_findLevels o1 o2 hgnu hbi hab (Hh := fun v a => ti (fhd v) a = true) r1 ?_
  intro gl ga lv hlv hal
  refine h gn gr gs gl ga ⟨egn, gr2, ?_, ?_, ?_⟩
  · intro v hv
    apply ti_ext
    intro a _
    have : ti (gs v) a = true ↔ ti (fse v) a = true := by
      rw [hgs v hv a, o7 v hv a]
      constructor
      · rintro ⟨_, w, hw, h1, h2⟩
        exact ⟨w, (o6 v hv w).mp ((bit v w hv hw).mp h1), h2⟩
      · rintro ⟨w, h1, h2⟩
        have q := (o6 v hv w).mpr h1
        have hw := ok_rel ok' hv q
        exact ⟨o3 w hw a h2, w, hw, (bit v w hv hw).mpr q, h2⟩
    cases q : ti (gs v) a <;> cases q2 : ti (fse v) a <;> simp [q, q2] at this ⊢
  · intro v hv
    exact ⟨lv v, (hlv v hv).1, isMin_congr (fun w hw => bit w v hw hv) (fun _ _ => rfl) (hlv v hv).2⟩
  · intro a ha
    obtain ⟨m, e, h1, h2, h3⟩ := hal a ha
    refine ⟨m, e, ?_, h2, ?_⟩
    · rcases h1 with q | ⟨w, hw, hp, q⟩
      · exact Or.inl q
      · rcases (hlv w hw).2.1 with q2 | ⟨x, hx, hp2, q2⟩
        · have := (hab a ha).2; omega
        · refine Or.inr ⟨x, hx, (o7 x hx a).mpr ⟨w, (o6 x hx w).mp ((bit x w hx hw).mp hp2), hp⟩, by omega⟩
    · intro u hu q
      obtain ⟨w, h4, h5⟩ := (o7 u hu a).mp q
      have q4 := (o6 u hu w).mpr h4
      have hw := ok_rel ok' hu q4
      have := (hlv w hw).2.2.2 u hu ((bit u w hu hw).mpr q4)
      have := h3 w hw h5
      omega

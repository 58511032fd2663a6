/-! shrink -/
theorem ring_sym {fre : Nat → Int64} {u v : Nat} (h : isRing fre u v) : isRing fre v u := ⟨h.2, h.1⟩
theorem ring_trans {n k : Nat} {fhd : Nat → Int32} {fin fjo : Nat → Int64} {fnu : Nat → Int32} {fre : Nat → Int64} {fse : Nat → Int32} (ok : netOK n k fhd fin fjo fnu fre fse) {u v w : Nat} (hu : u < n) (hw : w < n) (h : isRing fre u v) (h' : isRing fre v w) : isRing fre u w :=
  ⟨ok_trans ok hu h.1 h'.1, ok_trans ok hw h'.2 h.2⟩
theorem lr_same {n k : Nat} {fhd : Nat → Int32} {fin fjo : Nat → Int64} {fnu : Nat → Int32} {fre : Nat → Int64} {fse : Nat → Int32} (ok : netOK n k fhd fin fjo fnu fre fse) {u v r : Nat} (hu : u < n) (hv : v < n) (h : isRing fre u v) (hr : isLR fre u r) : isLR fre v r := by
  have hrn : r < n := by have := hr.1; omega
  refine ⟨?_, ring_trans ok hrn hv hr.2.1 h, fun x hx q => hr.2.2 x hx (ring_trans ok (by omega) hu q (ring_sym h))⟩
  rcases Nat.lt_or_ge v r with q | q
  · exact absurd (ring_sym h) (hr.2.2 v q)
  · exact q
def jdB (nu lr : Nat → Nat) (l x c : Nat) : Bool := decide (nu c = c) && decide (lr c ≠ c) && (decide (lr c < l) || (decide (lr c = l) && decide (c < x)))
def jd (nu lr : Nat → Nat) (l x c : Nat) : Prop := nu c = c ∧ lr c ≠ c ∧ (lr c < l ∨ (lr c = l ∧ c < x))
theorem jd_iff {nu lr : Nat → Nat} {l x c : Nat} : jdB nu lr l x c = true ↔ jd nu lr l x c := by
  unfold jdB jd
  simp only [Bool.and_eq_true, Bool.or_eq_true, decide_eq_true_iff, and_assoc]
theorem cn_ins {f g : Nat → Bool} {n x : Nat} (hx : x < n) (hf : f x = false) (hg : g x = true) (h : ∀ i, i < n → i ≠ x → g i = f i) : cn g n = cn f n + 1 := by
  induction n with
  | zero => omega
  | succ n ih =>
    by_cases e : x = n
    · subst e
      rw [cn_s, cn_s, hf, hg, cn_congr (fun i hi => h i (by omega) (by omega))]
      rfl
    · rw [cn_s, cn_s, ih (by omega) (fun i hi => h i (by omega)), h n (by omega) (fun q => e q.symm)]
      omega
theorem cn_iff {f g : Nat → Bool} {n : Nat} (h : ∀ i, i < n → (f i = true ↔ g i = true)) : cn f n = cn g n := by
  apply cn_congr
  intro i hi
  have := h i hi
  cases q : f i <;> cases q2 : g i <;> simp_all
/-- what is known of a net's rings -/
def ringF (n : Nat) (fnu : Nat → Int32) (fre : Nat → Int64) (nu lr : Nat → Nat) : Prop := (∀ v, v < n → fnu v = nI (nu v) ∧ nu v ≤ v ∧ nu (nu v) = nu v) ∧ (∀ v, v < n → isLR fre v (lr v)) ∧ (∀ v, v < n → nu (lr v) = lr v) ∧ (∀ u v, u < n → v < n → isRing fre u v → lr u = lr v) ∧ (∀ v, v < n → lr (nu v) = lr v)
theorem ringF_ex {n k : Nat} {fhd : Nat → Int32} {fin fjo : Nat → Int64} {fnu : Nat → Int32} {fre : Nat → Int64} {fse : Nat → Int32} (ok : netOK n k fhd fin fjo fnu fre fse) : ∃ nu lr : Nat → Nat, ringF n fnu fre nu lr := by
  have o1 := ok.1
  obtain ⟨nu, hnu⟩ := pick (n := n) (P := fun v m => m ≤ v ∧ fnu v = nI m ∧ fnu m = nI m) (fun v hv => ok_num ok hv)
  obtain ⟨lr, hlr⟩ := pick (n := n) (P := fun v r => isLR fre v r) (fun v hv => lr_ex (ok_self ok hv))
  have hnn : ∀ v, v < n → nu (nu v) = nu v := by
    intro v hv
    have a := hnu v hv
    have b := hnu (nu v) (by omega)
    have := a.2.2.symm.trans b.2.1
    rw [nI_eq (by omega) (by omega)] at this
    exact this.symm
  have hsame : ∀ u v, u < n → v < n → isRing fre u v → lr u = lr v := fun u v hu hv q => isLR_uniq (lr_same ok hu hv q (hlr u hu)) (hlr v hv)
  refine ⟨nu, lr, fun v hv => ⟨(hnu v hv).2.1, (hnu v hv).1, hnn v hv⟩, hlr, fun v hv => ?_, hsame, fun v hv => ?_⟩
  · have h1 := (hlr v hv).1
    have h2 := lr_num ok hv (hlr v hv)
    have h3 := (hnu (lr v) (by omega)).2.1
    have h4 := (hnu (lr v) (by omega)).1
    rw [h2, nI_eq (by omega) (by omega)] at h3
    exact h3.symm
  · have a := hnu v hv
    have hm : nu v < n := by omega
    have e : fnu v = fnu (nu v) := by rw [a.2.1, a.2.2]
    exact hsame (nu v) v hm hv ⟨ok_nu_re ok hm hm hv e.symm (ok_self ok hm), ok_nu_re ok hv hv hm e (ok_self ok hv)⟩
/-- the class's net while rings are joined -/
def joI (n k : Nat) (fhd : Nat → Int32) (fin fjo0 : Nat → Int64) (fre : Nat → Int64) (fse : Nat → Int32) (nu lr : Nat → Nat) (l x : Nat) (fjo : Nat → Int64) (fnu : Nat → Int32) : Prop :=
  netOK n k fhd fin fjo fnu fre fse ∧ (∀ v, v < n → fnu v = nI (if jdB nu lr l x (nu v) then lr v else nu v)) ∧
  (∀ v, v < n → ∀ w, tl (fjo v) w = true ↔ tl (fjo0 v) w = true ∨ (w < n ∧ ((jd nu lr l x w ∧ lr w = v) ∨ (jd nu lr l x v ∧ lr v = w))))
theorem joI_same {n k : Nat} {fhd : Nat → Int32} {fin fjo0 : Nat → Int64} {fre : Nat → Int64} {fse : Nat → Int32} {nu lr : Nat → Nat} {l x l' x' : Nat} {fjo : Nat → Int64} {fnu : Nat → Int32} (hnu : ∀ v, v < n → nu v ≤ v) (h : joI n k fhd fin fjo0 fre fse nu lr l x fjo fnu) (he : ∀ c, c < n → (jd nu lr l x c ↔ jd nu lr l' x' c)) : joI n k fhd fin fjo0 fre fse nu lr l' x' fjo fnu := by
  obtain ⟨h1, h2, h3⟩ := h
  refine ⟨h1, fun v hv => ?_, fun v hv w => ?_⟩
  · have hm : nu v < n := by have := hnu v hv; omega
    have e : jdB nu lr l x (nu v) = jdB nu lr l' x' (nu v) := by
      have := he (nu v) hm
      rw [← jd_iff, ← jd_iff] at this
      cases q : jdB nu lr l x (nu v) <;> cases q2 : jdB nu lr l' x' (nu v) <;> simp_all
    rw [← e]; exact h2 v hv
  · rw [h3 v hv w]
    constructor
    · rintro (q | ⟨hw, q | q⟩)
      · exact Or.inl q
      · exact Or.inr ⟨hw, Or.inl ⟨(he w hw).mp q.1, q.2⟩⟩
      · exact Or.inr ⟨hw, Or.inr ⟨(he v hv).mp q.1, q.2⟩⟩
    · rintro (q | ⟨hw, q | q⟩)
      · exact Or.inl q
      · exact Or.inr ⟨hw, Or.inl ⟨(he w hw).mpr q.1, q.2⟩⟩
      · exact Or.inr ⟨hw, Or.inr ⟨(he v hv).mpr q.1, q.2⟩⟩
theorem joI_root {n k : Nat} (hn : n ≤ 60) {fhd : Nat → Int32} {fin fjo0 : Nat → Int64} {fnu0 : Nat → Int32} {fre : Nat → Int64} {fse : Nat → Int32} {nu lr : Nat → Nat} {l x : Nat} {fjo : Nat → Int64} {fnu : Nat → Int32} (rf : ringF n fnu0 fre nu lr) (h : joI n k fhd fin fjo0 fre fse nu lr l x fjo fnu) {v : Nat} (hv : v < n) : fnu v = nI v ↔ (nu v = v ∧ ¬ jd nu lr l x v) := by
  obtain ⟨r1, r2, r3, r4, r5⟩ := rf
  have b1 := (r1 v hv).2.1
  have b2 := (r2 v hv).1
  rw [h.2.1 v hv]
  by_cases q : jdB nu lr l x (nu v) = true
  · rw [if_pos q, nI_eq (by omega) (by omega)]
    have q' := jd_iff.mp q
    constructor
    · intro e
      have e2 := r3 v hv
      rw [e] at e2
      rw [e2] at q'
      exact absurd e q'.2.1
    · rintro ⟨e, e2⟩
      rw [e] at q'
      exact absurd q' e2
  · rw [if_neg q, nI_eq (by omega) (by omega)]
    constructor
    · intro e
      refine ⟨e, fun c => q ?_⟩
      rw [e]; exact jd_iff.mpr c
    · intro e; exact e.1
theorem jd_step {nu lr : Nat → Nat} {l x : Nat} (hx : ¬ (nu x = x ∧ lr x ≠ x ∧ lr x = l)) (c : Nat) : jd nu lr l x c ↔ jd nu lr l (x + 1) c := by
  constructor
  · rintro ⟨h1, h2, h3 | ⟨h3, h4⟩⟩
    · exact ⟨h1, h2, Or.inl h3⟩
    · exact ⟨h1, h2, Or.inr ⟨h3, by omega⟩⟩
  · rintro ⟨h1, h2, h3 | ⟨h3, h4⟩⟩
    · exact ⟨h1, h2, Or.inl h3⟩
    · have : c ≠ x := fun e => hx (by rw [← e]; exact ⟨h1, h2, h3⟩)
      exact ⟨h1, h2, Or.inr ⟨h3, by omega⟩⟩
theorem jd_new {nu lr : Nat → Nat} {l x : Nat} (hx : nu x = x ∧ lr x ≠ x ∧ lr x = l) (c : Nat) : jd nu lr l (x + 1) c ↔ jd nu lr l x c ∨ c = x := by
  constructor
  · rintro ⟨h1, h2, h3 | ⟨h3, h4⟩⟩
    · exact Or.inl ⟨h1, h2, Or.inl h3⟩
    · rcases Nat.lt_or_ge c x with q | q
      · exact Or.inl ⟨h1, h2, Or.inr ⟨h3, q⟩⟩
      · exact Or.inr (by omega)
  · rintro (⟨h1, h2, h3 | ⟨h3, h4⟩⟩ | e)
    · exact ⟨h1, h2, Or.inl h3⟩
    · exact ⟨h1, h2, Or.inr ⟨h3, by omega⟩⟩
    · rw [e]; exact ⟨hx.1, hx.2.1, Or.inr ⟨hx.2.2, by omega⟩⟩
theorem jd_self {nu lr : Nat → Nat} {l x : Nat} (hx : lr x = l) : ¬ jd nu lr l x x := by
  rintro ⟨_, _, h | ⟨_, h⟩⟩ <;> omega
theorem jd_low {nu lr : Nat → Nat} {l x n : Nat} (hx : x ≤ l + 1) (hlr : ∀ v, v < n → lr v ≤ v) (c : Nat) (hc : c < n) : jd nu lr l x c ↔ jd nu lr l 0 c := by
  constructor
  · rintro ⟨h1, h2, h3 | ⟨h3, h4⟩⟩
    · exact ⟨h1, h2, Or.inl h3⟩
    · have := hlr c hc; omega
  · rintro ⟨h1, h2, h3 | ⟨h3, h4⟩⟩
    · exact ⟨h1, h2, Or.inl h3⟩
    · omega
theorem jd_end {nu lr : Nat → Nat} {l n : Nat} (c : Nat) (hc : c < n) : jd nu lr l n c ↔ jd nu lr (l + 1) 0 c := by
  constructor
  · rintro ⟨h1, h2, h3 | ⟨h3, h4⟩⟩
    · exact ⟨h1, h2, Or.inl (by omega)⟩
    · exact ⟨h1, h2, Or.inl (by omega)⟩
  · rintro ⟨h1, h2, h3 | ⟨h3, h4⟩⟩
    · rcases Nat.lt_or_ge (lr c) l with q | q
      · exact ⟨h1, h2, Or.inl q⟩
      · exact ⟨h1, h2, Or.inr ⟨by omega, hc⟩⟩
    · omega
theorem cn_jd {nu lr : Nat → Nat} {l x l' x' n : Nat} (h : ∀ c, c < n → (jd nu lr l x c ↔ jd nu lr l' x' c)) : cn (jdB nu lr l x) n = cn (jdB nu lr l' x') n := cn_iff (fun c hc => by rw [jd_iff, jd_iff]; exact h c hc)
theorem cn_new {nu lr : Nat → Nat} {l x n : Nat} (hx : nu x = x ∧ lr x ≠ x ∧ lr x = l) (hxn : x < n) : cn (jdB nu lr l (x + 1)) n = cn (jdB nu lr l x) n + 1 := by
  refine cn_ins hxn ?_ (jd_iff.mpr ((jd_new hx x).mpr (Or.inr rfl))) (fun i hi hne => ?_)
  · cases q : jdB nu lr l x x
    · rfl
    · exact absurd (jd_iff.mp q) (jd_self hx.2.2)
  · have a : jdB nu lr l (x + 1) i = true ↔ jdB nu lr l x i = true := by
      rw [jd_iff, jd_iff, jd_new hx]
      exact ⟨fun q => q.elim id (fun e => absurd e hne), Or.inl⟩
    cases q : jdB nu lr l (x + 1) i <;> cases q2 : jdB nu lr l x i <;> simp_all
theorem sp_joinRingOf {n k l : Nat} {fhd : Nat → Int32} {fin fjo0 : Nat → Int64} {fnu0 : Nat → Int32} {fre : Nat → Int64} {fse : Nat → Int32} {nu lr : Nat → Nat} (hn : n ≤ 60) (hl : l < n) (rf : ringF n fnu0 fre nu lr) (ell : lr l = l) {fjo : Nat → Int64} {fnu : Nat → Int32} (h : joI n k fhd fin fjo0 fre fse nu lr l 0 fjo fnu) {post : Int32 → (Nat → Int64) → (Nat → Int32) → (Nat → Int64) → (Nat → Int32) → Prop}
    (hp : ∀ d fjo' fnu', cn (jdB nu lr l 0) n + d = cn (jdB nu lr (l + 1) 0) n → joI n k fhd fin fjo0 fre fse nu lr (l + 1) 0 fjo' fnu' → post (nI d) fjo' fnu' fre fse) : S_X1_joinRingOf (nI l) (nI n) fjo fnu fre fse post := by
  have hnu : ∀ v, v < n → nu v ≤ v := fun v hv => (rf.1 v hv).2.1
  have hlr : ∀ v, v < n → lr v ≤ v := fun v hv => (rf.2.1 v hv).1
  intro E K hK hE
  apply hE
  refine nx_i ?_
  have key := dn (P := fun x => l + 1 ≤ x → ∀ d fjo fnu, cn (jdB nu lr l 0) n + d = cn (jdB nu lr l x) n → joI n k fhd fin fjo0 fre fse nu lr l x fjo fnu → K (nI d) (nI x) fjo fnu fre fse) n (by
    intro _ d fjo fnu hd hI
    apply hK
    refine hd_eq (hp d fjo fnu ?_ (joI_same hnu hI (fun c hc => jd_end c hc)))
    rw [hd]; exact cn_jd (fun c hc => jd_end c hc)) (by
    intro x hx ih hlx d fjo fnu hd hI
    apply hK
    refine hd_lt hx (by omega) ⟨in60 (by omega), ?_⟩
    rw [cl31 (show x < 2 ^ 31 by omega), joI_root hn rf hI hx]
    have skip : ¬ (nu x = x ∧ lr x ≠ x ∧ lr x = l) → K (nI d) (nI (x + 1)) fjo fnu fre fse := by
      intro q
      refine ih (by omega) d fjo fnu ?_ (joI_same hnu hI (fun c _ => jd_step q c))
      rw [hd]; exact cn_jd (fun c _ => jd_step q c)
    refine ⟨fun c => nx_i (skip (fun q => c ⟨q.1, jd_self q.2.2⟩)), fun c => ?_⟩
    refine sp_ring1 (by omega) (by omega) (fun c2 => nx_i (skip (fun q => c2 ?_))) (fun c2 => ?_)
    · have := (rf.2.1 x hx).2.1
      rw [q.2.2] at this
      exact this
    · have e1 : lr x = l := by rw [← rf.2.2.2.1 l x hl hx c2]; exact ell
      have hxx : nu x = x ∧ lr x ≠ x ∧ lr x = l := ⟨c.1, by omega, e1⟩
      have fl : fnu l = nI l := (joI_root hn rf hI hl).mpr ⟨by have := rf.2.2.1 l hl; rw [ell] at this; exact this, fun q => q.2.1 ell⟩
      have fx : fnu x = nI x := (joI_root hn rf hI hx).mpr c
      refine sp_tellOne hn hl hx (fun e => absurd e (by omega)) (fun hne yw yv hyw hyv => ?_)
      have ok' := ok_one hI.1 hl hx hne hyw hyv
      have er : reAdd n l x fre = fre := by unfold reAdd; rw [if_pos c2.1]
      have es : seAdd n l x fre fse = fse := by unfold seAdd; rw [if_pos c2.1]
      have er2 : reAdd n x l fre = fre := by unfold reAdd; rw [if_pos c2.2]
      have es2 : seAdd n x l fre fse = fse := by unfold seAdd; rw [if_pos c2.2]
      rw [er, es, er2, es2] at ok'
      rw [er, es, er2, es2]
      refine nx_i (nx_i (ih (by omega) (d + 1) _ _ ?_ ⟨ok', fun v hv => ?_, fun v hv w => ?_⟩))
      · rw [cn_new hxx hx]; omega
      · -- the numbers
        have hlt : nI l < nI x := (nI_ltI (by omega) (by omega)).mpr (by omega)
        have hnl : ¬ nI x < nI l := fun q => absurd ((nI_ltI (by omega) (by omega)).mp q) (by omega)
        unfold mnF
        rw [fl, fx, if_neg hnl]
        have bv := hnu v hv
        have bl := hlr v hv
        have hm : nu v < n := by omega
        rw [hI.2.1 v hv]
        by_cases q : jdB nu lr l x (nu v) = true
        · have q' := jd_iff.mp q
          have q2 : jdB nu lr l (x + 1) (nu v) = true := jd_iff.mpr ((jd_new hxx _).mpr (Or.inl q'))
          rw [if_pos q, if_pos q2]
          have hle : lr v ≤ l := by
            have := rf.2.2.2.2 v hv
            rcases q'.2.2 with r | r <;> omega
          by_cases e : lr v = l
          · rw [if_pos ⟨hv, Or.inl (by rw [e])⟩, e]
          · rw [if_neg (fun c => ?_)]
            rcases c.2 with r | r
            · exact e ((nI_eq (by omega) (by omega)).mp r)
            · have := (nI_eq (by omega) (by omega)).mp r; omega
        · rw [if_neg q]
          by_cases e : nu v = x
          · have q2 : jdB nu lr l (x + 1) (nu v) = true := jd_iff.mpr ((jd_new hxx _).mpr (Or.inr e))
            rw [if_pos q2, if_pos ⟨hv, Or.inr (by rw [e])⟩, ← rf.2.2.2.2 v hv, e, e1]
          · have q2 : ¬ jdB nu lr l (x + 1) (nu v) = true := fun c => by
              rcases (jd_new hxx _).mp (jd_iff.mp c) with r | r
              · exact q (jd_iff.mpr r)
              · exact e r
            rw [if_neg q2]
            by_cases e3 : nu v = l
            · rw [if_pos ⟨hv, Or.inl (by rw [e3])⟩, e3]
            · rw [if_neg (fun c => ?_)]
              rcases c.2 with r | r
              · exact e3 ((nI_eq (by omega) (by omega)).mp r)
              · exact e ((nI_eq (by omega) (by omega)).mp r)
      · rw [joAdd_bit hne hyw hyv, hI.2.2 v hv w, jd_new hxx, jd_new hxx]
        constructor
        · rintro ((q | ⟨hw, q | q⟩) | q | q)
          · exact Or.inl q
          · exact Or.inr ⟨hw, Or.inl ⟨Or.inl q.1, q.2⟩⟩
          · exact Or.inr ⟨hw, Or.inr ⟨Or.inl q.1, q.2⟩⟩
          · exact Or.inr ⟨by omega, Or.inl ⟨Or.inr q.2, by rw [q.2, e1]; exact q.1.symm⟩⟩
          · exact Or.inr ⟨by omega, Or.inr ⟨Or.inr q.1, by rw [q.1, e1]; exact q.2.symm⟩⟩
        · rintro (q | ⟨hw, ⟨q | q, q2⟩ | ⟨q | q, q2⟩⟩)
          · exact Or.inl (Or.inl q)
          · exact Or.inl (Or.inr ⟨hw, Or.inl ⟨q, q2⟩⟩)
          · exact Or.inr (Or.inl ⟨by rw [← q2, q, e1], q⟩)
          · exact Or.inl (Or.inr ⟨hw, Or.inr ⟨q, q2⟩⟩)
          · exact Or.inr (Or.inr ⟨q, by rw [← q2, q, e1]⟩))
  refine key (l + 1) (by omega) (Nat.le_refl _) 0 fjo fnu ?_ (joI_same hnu h (fun c hc => (jd_low (Nat.le_refl _) hlr c hc).symm))
  rw [Nat.add_zero]; exact cn_jd (fun c hc => (jd_low (Nat.le_refl _) hlr c hc).symm)
theorem sp_joinRings {n k : Nat} {fhd : Nat → Int32} {fin fjo : Nat → Int64} {fnu : Nat → Int32} {fre : Nat → Int64} {fse : Nat → Int32} {nu lr : Nat → Nat} (ok : netOK n k fhd fin fjo fnu fre fse) (rf : ringF n fnu fre nu lr) {post : Int32 → (Nat → Int64) → (Nat → Int32) → (Nat → Int64) → (Nat → Int32) → Prop}
    (hp : ∀ fjo' fnu', joI n k fhd fin fjo fre fse nu lr n 0 fjo' fnu' → post (nI (cn (jdB nu lr n 0) n)) fjo' fnu' fre fse) : S_X1_joinRings (nI n) fjo fnu fre fse post := by
  have hn := ok.1
  have hnu : ∀ v, v < n → nu v ≤ v := fun v hv => (rf.1 v hv).2.1
  have hlr : ∀ v, v < n → lr v ≤ v := fun v hv => (rf.2.1 v hv).1
  intro E K hK hE
  apply hE
  have key := dn (P := fun l => ∀ fjo' fnu', joI n k fhd fin fjo fre fse nu lr l 0 fjo' fnu' → K (nI (cn (jdB nu lr l 0) n)) (nI l) fjo' fnu' fre fse) n (by
    intro fjo' fnu' hI
    apply hK
    exact hd_eq (hp fjo' fnu' hI)) (by
    intro l hl ih fjo' fnu' hI
    apply hK
    refine hd_lt hl (by omega) ⟨in60 (by omega), ?_⟩
    rw [cl31 (show l < 2 ^ 31 by omega), joI_root hn rf hI hl]
    refine ⟨fun c => nx_i ?_, fun c => ?_⟩
    · have none : ∀ x, x < n → ¬ (nu x = x ∧ lr x ≠ x ∧ lr x = l) := by
        rintro x hx ⟨q1, q2, q3⟩
        have e1 := rf.2.2.1 x hx
        have e2 : lr (lr x) = lr x := rf.2.2.2.1 _ _ (by have := hlr x hx; omega) hx (rf.2.1 x hx).2.1
        rw [q3] at e1 e2
        exact c ⟨e1, fun q => q.2.1 e2⟩
      have he : ∀ c, c < n → (jd nu lr l 0 c ↔ jd nu lr (l + 1) 0 c) := by
        intro c hc
        constructor
        · rintro ⟨h1, h2, h3 | ⟨h3, h4⟩⟩
          · exact ⟨h1, h2, Or.inl (by omega)⟩
          · omega
        · rintro ⟨h1, h2, h3 | ⟨h3, h4⟩⟩
          · rcases Nat.lt_or_ge (lr c) l with q | q
            · exact ⟨h1, h2, Or.inl q⟩
            · exact absurd ⟨h1, h2, by omega⟩ (none c hc)
          · omega
      have := ih fjo' fnu' (joI_same hnu hI he)
      rw [← cn_jd he] at this
      exact this
    · have ell : lr l = l := by
        have := hlr l hl
        rcases Nat.lt_or_ge (lr l) l with q | q
        · exact absurd ⟨c.1, by omega, Or.inl q⟩ c.2
        · omega
      refine sp_joinRingOf hn hl rf ell hI (fun d fjo2 fnu2 hd hI2 => nm_r (nI_add _ _) (nx_i ?_))
      rw [hd]
      exact ih fjo2 fnu2 hI2)
  have z : ∀ c, ¬ jd nu lr 0 0 c := by
    rintro c ⟨_, _, h | ⟨_, h⟩⟩ <;> omega
  have zb : ∀ c, jdB nu lr 0 0 c = false := by
    intro c
    cases q : jdB nu lr 0 0 c
    · rfl
    · exact absurd (jd_iff.mp q) (z c)
  have k0 := key 0 (by omega) fjo fnu ⟨ok, fun v hv => by rw [zb, (rf.1 v hv).1]; rfl, fun v hv w => ⟨Or.inl, fun q => q.elim id (fun ⟨_, q⟩ => q.elim (fun q => absurd q.1 (z _)) (fun q => absurd q.1 (z _)))⟩⟩
  rw [cn_false (fun i _ => zb i)] at k0
  exact k0

/-! copy: what is told of copies -/
def cpI (n k N K : Nat) (C D : Nat → Bool) (fhd : Nat → Int32) (fin : Nat → Int64) (fjo' : Nat → Int64) (fnu' : Nat → Int32) (PH PI : Nat → Nat → Prop) (fhd' : Nat → Int32) (fin' fre' : Nat → Int64) (fse' : Nat → Int32) : Prop :=
  netOK N K fhd' fin' fjo' fnu' fre' fse' ∧
  (∀ r, r < N → ∀ b, ti (fhd' r) b = true ↔ (r < n ∧ ti (fhd r) b = true) ∨ ∃ c a, PH c a ∧ vfN n C c = r ∧ vfN k D a = b) ∧
  (∀ r, r < N → ∀ w, tl (fin' r) w = true ↔ (r < n ∧ tl (fin r) w = true) ∨ ∃ c j, PI c j ∧ vfN n C c = r ∧ vfN n C j = w) ∧
  (∀ c a, PH c a → C c = true) ∧ (∀ c j, PI c j → C c = true)
def hN (n : Nat) (nu : Nat → Nat) (fhd : Nat → Int32) (i a : Nat) : Prop := ∃ u, u < n ∧ nu u = i ∧ ti (fhd u) a = true
def iN (n : Nat) (nu : Nat → Nat) (fin : Nat → Int64) (i j : Nat) : Prop := ∃ w, w < n ∧ (∃ u, u < n ∧ nu u = i ∧ tl (fin u) w = true) ∧ nu w = j
theorem cpI_same {n k N K : Nat} {C D : Nat → Bool} {fhd : Nat → Int32} {fin : Nat → Int64} {fjo' : Nat → Int64} {fnu' : Nat → Int32} {PH PI PH' PI' : Nat → Nat → Prop} {fhd' : Nat → Int32} {fin' fre' : Nat → Int64} {fse' : Nat → Int32} (h : cpI n k N K C D fhd fin fjo' fnu' PH PI fhd' fin' fre' fse') (e1 : ∀ c a, PH c a ↔ PH' c a) (e2 : ∀ c a, PI c a ↔ PI' c a) : cpI n k N K C D fhd fin fjo' fnu' PH' PI' fhd' fin' fre' fse' := by
  have q1 : PH = PH' := funext (fun c => funext (fun a => propext (e1 c a)))
  have q2 : PI = PI' := funext (fun c => funext (fun a => propext (e2 c a)))
  rw [← q1, ← q2]; exact h
theorem cpI_has {n k N K i a : Nat} {C D : Nat → Bool} {fhd : Nat → Int32} {fin : Nat → Int64} {fjo' : Nat → Int64} {fnu' : Nat → Int32} {PH PI : Nat → Nat → Prop} {fhd' : Nat → Int32} {fin' fre' : Nat → Int64} {fse' : Nat → Int32} (h : cpI n k N K C D fhd fin fjo' fnu' PH PI fhd' fin' fre' fse') (hC : C i = true) (hvf : vfN n C i < N) (haf : vfN k D a < K) {y : Int32} (hy : ∀ b, ti y b = decide (b = vfN k D a)) : cpI n k N K C D fhd fin fjo' fnu' (fun c b => PH c b ∨ (c = i ∧ b = a)) PI (upd fhd' (vfN n C i) (fhd' (vfN n C i) ||| y)) fin' fre' (spSe N (vfN n C i) y fre' fse') := by
  obtain ⟨h1, h2, h3, h4, h5⟩ := h
  refine ⟨ok_has h1 hvf haf hy, fun r hr b => ?_, h3, fun c b q => q.elim (h4 c b) (fun q => by rw [q.1]; exact hC), h5⟩
  rw [ti_upd]
  by_cases e : r = vfN n C i
  · subst e
    rw [if_pos rfl, ti_or, Bool.or_eq_true, h2 _ hr, hy, decide_eq_true_iff]
    constructor
    · rintro ((q | ⟨c, b', q, q2, q3⟩) | q)
      · exact Or.inl q
      · exact Or.inr ⟨c, b', Or.inl q, q2, q3⟩
      · exact Or.inr ⟨i, a, Or.inr ⟨rfl, rfl⟩, rfl, q.symm⟩
    · rintro (q | ⟨c, b', q | q, q2, q3⟩)
      · exact Or.inl (Or.inl q)
      · exact Or.inl (Or.inr ⟨c, b', q, q2, q3⟩)
      · rw [q.2] at q3; exact Or.inr q3.symm
  · rw [if_neg e, h2 _ hr]
    constructor
    · rintro (q | ⟨c, b', q, q2, q3⟩)
      · exact Or.inl q
      · exact Or.inr ⟨c, b', Or.inl q, q2, q3⟩
    · rintro (q | ⟨c, b', q | q, q2, q3⟩)
      · exact Or.inl q
      · exact Or.inr ⟨c, b', q, q2, q3⟩
      · rw [q.1] at q2; exact absurd q2.symm e
theorem cpI_inc {n k N K i j : Nat} {C D : Nat → Bool} {fhd : Nat → Int32} {fin : Nat → Int64} {fjo' : Nat → Int64} {fnu' : Nat → Int32} {PH PI : Nat → Nat → Prop} {fhd' : Nat → Int32} {fin' fre' : Nat → Int64} {fse' : Nat → Int32} (h : cpI n k N K C D fhd fin fjo' fnu' PH PI fhd' fin' fre' fse') (hC : C i = true) (hvf : vfN n C i < N) (hvj : vfN n C j < N) {y : Int64} (hy : ∀ b, tl y b = decide (b = vfN n C j)) : cpI n k N K C D fhd fin fjo' fnu' PH (fun c b => PI c b ∨ (c = i ∧ b = j)) fhd' (vp_updL fin' (vfN n C i) (fin' (vfN n C i) ||| y)) (reAdd N (vfN n C i) (vfN n C j) fre') (seAdd N (vfN n C i) (vfN n C j) fre' fse') := by
  obtain ⟨h1, h2, h3, h4, h5⟩ := h
  refine ⟨ok_inc h1 hvf hvj hy, h2, fun r hr b => ?_, h4, fun c b q => q.elim (h5 c b) (fun q => by rw [q.1]; exact hC)⟩
  rw [tl_upd]
  by_cases e : r = vfN n C i
  · subst e
    rw [if_pos rfl, tl_or, Bool.or_eq_true, h3 _ hr, hy, decide_eq_true_iff]
    constructor
    · rintro ((q | ⟨c, b', q, q2, q3⟩) | q)
      · exact Or.inl q
      · exact Or.inr ⟨c, b', Or.inl q, q2, q3⟩
      · exact Or.inr ⟨i, j, Or.inr ⟨rfl, rfl⟩, rfl, q.symm⟩
    · rintro (q | ⟨c, b', q | q, q2, q3⟩)
      · exact Or.inl (Or.inl q)
      · exact Or.inl (Or.inr ⟨c, b', q, q2, q3⟩)
      · rw [q.2] at q3; exact Or.inr q3.symm
  · rw [if_neg e, h3 _ hr]
    constructor
    · rintro (q | ⟨c, b', q, q2, q3⟩)
      · exact Or.inl q
      · exact Or.inr ⟨c, b', Or.inl q, q2, q3⟩
    · rintro (q | ⟨c, b', q | q, q2, q3⟩)
      · exact Or.inl q
      · exact Or.inr ⟨c, b', q, q2, q3⟩
      · rw [q.1] at q2; exact absurd q2.symm e
/-- rows of old variables stay -/
theorem cpI_row {n k N K : Nat} (hnN : n ≤ N) {C D : Nat → Bool} {fhd : Nat → Int32} {fin : Nat → Int64} {fjo' : Nat → Int64} {fnu' : Nat → Int32} {PH PI : Nat → Nat → Prop} {fhd' : Nat → Int32} {fin' fre' : Nat → Int64} {fse' : Nat → Int32} (h : cpI n k N K C D fhd fin fjo' fnu' PH PI fhd' fin' fre' fse') {u : Nat} (hu : u < n) : (∀ b, ti (fhd' u) b = true ↔ ti (fhd u) b = true) ∧ (∀ w, tl (fin' u) w = true ↔ tl (fin u) w = true) := by
  obtain ⟨h1, h2, h3, h4, h5⟩ := h
  constructor
  · intro b
    rw [h2 u (by omega) b]
    constructor
    · rintro (q | ⟨c, a, q, q2, q3⟩)
      · exact q.2
      · rw [vf_t (h4 c a q)] at q2; omega
    · intro q; exact Or.inl ⟨hu, q⟩
  · intro b
    rw [h3 u (by omega) b]
    constructor
    · rintro (q | ⟨c, a, q, q2, q3⟩)
      · exact q.2
      · rw [vf_t (h5 c a q)] at q2; omega
    · intro q; exact Or.inl ⟨hu, q⟩
theorem sp_tellOfCopy {n k N K i : Nat} {nu : Nat → Nat} {C D : Nat → Bool} {fvf faf fhd : Nat → Int32} {fin : Nat → Int64} {fjo' : Nat → Int64} {fnu' : Nat → Int32} {PH PI : Nat → Nat → Prop} {fhd' : Nat → Int32} {fin' fre' : Nat → Int64} {fse' : Nat → Int32} (eN : N = n + cn C n) (eK : K = k + cn D k) (hN60 : N ≤ 60) (hK32 : K ≤ 32) (hCn : ∀ c, C c = true → c < n)
    (hvf : ∀ j, j < n → fvf j = nI (vfN n C j)) (haf : ∀ a, a < k → faf a = nI (vfN k D a)) (hnu : ∀ u, u < n → fnu' u = nI (nu u) ∧ nu u ≤ u) (hnu2 : ∀ u, n ≤ u → u < N → fnu' u = nI u) (o3 : ∀ u, u < n → ∀ a, ti (fhd u) a = true → a < k) (o4 : ∀ u, u < n → ∀ w, tl (fin u) w = true → w < n) (hC : C i = true) (h : cpI n k N K C D fhd fin fjo' fnu' PH PI fhd' fin' fre' fse')
    {post : (Nat → Int32) → (Nat → Int64) → (Nat → Int64) → (Nat → Int32) → Prop}
    (hp : ∀ fhd'' fin'' fre'' fse'', cpI n k N K C D fhd fin fjo' fnu' (fun c a => PH c a ∨ (c = i ∧ hN n nu fhd i a)) (fun c j => PI c j ∨ (c = i ∧ iN n nu fin i j)) fhd'' fin'' fre'' fse'' → post fhd'' fin'' fre'' fse'') : S_X0_tellOfCopy (nI i) (nI N) fvf faf fhd' fin' fnu' fre' fse' post := by
  have hi := hCn i hC
  have hnN : n ≤ N := by omega
  -- numbers of all variables
  have hnum : ∀ u, u < N → fnu' u = nI (if u < n then nu u else u) ∧ (if u < n then nu u else u) < 60 := by
    intro u hu
    by_cases q : u < n
    · rw [if_pos q]; exact ⟨(hnu u q).1, by have := (hnu u q).2; omega⟩
    · rw [if_neg q]; exact ⟨hnu2 u (by omega) hu, by omega⟩
  have hvi : vfN n C i < N := by rw [eN]; exact vf_lt hi
  intro E K12 K62 h12 h62 hE
  apply hE
  refine sp_bit (by omega) (fun r hr => sp_hadByNodes hN60 hnum (fun s hs => ?_))
  have hs2 : ∀ a, ti s a = true ↔ hN n nu fhd i a := by
    intro a
    rw [hs a]
    constructor
    · rintro ⟨u, hu, q, q2⟩
      rw [hr, decide_eq_true_iff] at q
      by_cases hun : u < n
      · rw [if_pos hun] at q
        exact ⟨u, hun, q, ((cpI_row hnN h hun).1 a).mp q2⟩
      · rw [if_neg hun] at q; omega
    · rintro ⟨u, hu, q, q2⟩
      refine ⟨u, by omega, ?_, ((cpI_row hnN h hu).1 a).mpr q2⟩
      rw [hr, decide_eq_true_iff, if_pos hu]; exact q
  have hak : ∀ a, hN n nu fhd i a → a < k := fun a ⟨u, hu, _, q⟩ => o3 u hu a q
  have hjn : ∀ j, iN n nu fin i j → j < n := fun j ⟨w, hw, _, q⟩ => by have := (hnu w hw).2; omega
  have part2 : ∀ fhd2 fin2 fre2 fse2 x, (∀ j, tl x j = true ↔ iN n nu fin i j) → cpI n k N K C D fhd fin fjo' fnu' (fun c a => PH c a ∨ (c = i ∧ hN n nu fhd i a)) PI fhd2 fin2 fre2 fse2 → K62 x 0 fhd2 fin2 fre2 fse2 := by
    intro fhd2 fin2 fre2 fse2 x hx h2
    have key := dn (P := fun j => ∀ fin3 fre3 fse3, cpI n k N K C D fhd fin fjo' fnu' (fun c a => PH c a ∨ (c = i ∧ hN n nu fhd i a)) (fun c w => PI c w ∨ (c = i ∧ iN n nu fin i w ∧ w < j)) fhd2 fin3 fre3 fse3 → K62 x (nI j) fhd2 fin3 fre3 fse3) 60 (by
      intro fin3 fre3 fse3 h3
      apply h62
      refine ⟨fun _ => hp _ _ _ _ (cpI_same h3 (fun _ _ => Iff.rfl) (fun c w => ?_)), fun c => absurd (by decide) c⟩
      constructor
      · rintro (q | q)
        · exact Or.inl q
        · exact Or.inr ⟨q.1, q.2.1⟩
      · rintro (q | q)
        · exact Or.inl q
        · exact Or.inr ⟨q.1, q.2, by have := hjn w q.2; omega⟩) (by
      intro j hj ih fin3 fre3 fse3 h3
      apply h62
      refine hd_lt (n := 60) hj (by decide) (sp_has (by omega) (fun c => nx_i (ih _ _ _ (cpI_same h3 (fun _ _ => Iff.rfl) (fun c' w => ?_)))) (fun c => ?_))
      · constructor
        · rintro (q | q)
          · exact Or.inl q
          · exact Or.inr ⟨q.1, q.2.1, by omega⟩
        · rintro (q | ⟨q, q2, q3⟩)
          · exact Or.inl q
          · have : w ≠ j := fun e => by
              have := (hx w).mpr q2
              rw [e, c] at this
              cases this
            exact Or.inr ⟨q, q2, by omega⟩
      · have hI := (hx j).mp c
        have hjl := hjn j hI
        rw [cl31 (show i < 2 ^ 31 by omega), cl31 (show j < 2 ^ 31 by omega), hvf i hi, hvf j hjl]
        have hvj : vfN n C j < N := by rw [eN]; exact vf_lt hjl
        refine ⟨in60 (by omega), in60 (by omega), sp_tellIncludes hN60 (by omega) (by omega) (fun y hy => nx_i (ih _ _ _ (cpI_same (cpI_inc h3 hC hvi hvj hy) (fun _ _ => Iff.rfl) (fun c' w => ?_))))⟩
        constructor
        · rintro ((q | q) | q)
          · exact Or.inl q
          · exact Or.inr ⟨q.1, q.2.1, by omega⟩
          · exact Or.inr ⟨q.1, by rw [q.2]; exact hI, by omega⟩
        · rintro (q | ⟨q, q2, q3⟩)
          · exact Or.inl (Or.inl q)
          · rcases Nat.lt_or_ge w j with r | r
            · exact Or.inl (Or.inr ⟨q, q2, r⟩)
            · exact Or.inr ⟨q, by omega⟩)
    refine key 0 (by omega) fin2 fre2 fse2 (cpI_same h2 (fun _ _ => Iff.rfl) (fun c w => ⟨Or.inl, ?_⟩))
    rintro (q | q)
    · exact q
    · omega
  have key := dn (P := fun a => ∀ fhd2 fre2 fse2, cpI n k N K C D fhd fin fjo' fnu' (fun c b => PH c b ∨ (c = i ∧ hN n nu fhd i b ∧ b < a)) PI fhd2 fin' fre2 fse2 → K12 s (nI a) fhd2 fin' fre2 fse2) 32 (by
    intro fhd2 fre2 fse2 h2
    apply h12
    refine ⟨fun _ => ?_, fun c => absurd (by decide) c⟩
    have h2' := cpI_same h2 (PH' := fun c a => PH c a ∨ (c = i ∧ hN n nu fhd i a)) (PI' := PI) (fun c b => (by
      constructor
      · rintro (q | q)
        · exact Or.inl q
        · exact Or.inr ⟨q.1, q.2.1⟩
      · rintro (q | q)
        · exact Or.inl q
        · exact Or.inr ⟨q.1, q.2, by have := hak b q.2; omega⟩)) (fun _ _ => Iff.rfl)
    refine sp_nodesIncludedByNode hN60 (by omega) hnum (fun x hx => part2 _ _ _ _ x (fun j => ?_) h2')
    rw [hx j]
    constructor
    · rintro ⟨w, hw, ⟨u, hu, q, q2⟩, q3⟩
      have hun : u < n := by
        by_cases c : u < n
        · exact c
        · rw [if_neg c] at q; omega
      rw [if_pos hun] at q
      have q2' := ((cpI_row hnN h2' hun).2 w).mp q2
      have hwn := o4 u hun w q2'
      rw [if_pos hwn] at q3
      exact ⟨w, hwn, ⟨u, hun, q, q2'⟩, q3⟩
    · rintro ⟨w, hw, ⟨u, hu, q, q2⟩, q3⟩
      refine ⟨w, by omega, ⟨u, by omega, by rw [if_pos hu]; exact q, ((cpI_row hnN h2' hu).2 w).mpr q2⟩, by rw [if_pos hw]; exact q3⟩) (by
    intro a ha ih fhd2 fre2 fse2 h2
    apply h12
    refine hd_lt (n := 32) ha (by decide) (sp_hasA ha (fun c => nx_i (ih _ _ _ (cpI_same h2 (fun c' b => ?_) (fun _ _ => Iff.rfl)))) (fun c => ?_))
    · constructor
      · rintro (q | q)
        · exact Or.inl q
        · exact Or.inr ⟨q.1, q.2.1, by omega⟩
      · rintro (q | ⟨q, q2, q3⟩)
        · exact Or.inl q
        · have : b ≠ a := fun e => by
            have := (hs2 b).mpr q2
            rw [e, c] at this
            cases this
          exact Or.inr ⟨q, q2, by omega⟩
    · have hH := (hs2 a).mp c
      have hal := hak a hH
      rw [cl31 (show i < 2 ^ 31 by omega), cl31 (show a < 2 ^ 31 by omega), hvf i hi, haf a hal]
      have hva : vfN k D a < K := by rw [eK]; exact vf_lt hal
      refine ⟨in60 (by omega), in32 (by omega), sp_tellHas hN60 (by omega) (by omega) (fun y hy => nx_i (ih _ _ _ (cpI_same (cpI_has h2 hC hvi hva hy) (fun c' b => ?_) (fun _ _ => Iff.rfl))))⟩
      constructor
      · rintro ((q | q) | q)
        · exact Or.inl q
        · exact Or.inr ⟨q.1, q.2.1, by omega⟩
        · exact Or.inr ⟨q.1, by rw [q.2]; exact hH, by omega⟩
      · rintro (q | ⟨q, q2, q3⟩)
        · exact Or.inl (Or.inl q)
        · rcases Nat.lt_or_ge b a with r | r
          · exact Or.inl (Or.inr ⟨q, q2, r⟩)
          · exact Or.inr ⟨q, by omega⟩)
  refine key 0 (by omega) fhd' fre' fse' (cpI_same h (fun c b => ⟨Or.inl, ?_⟩) (fun _ _ => Iff.rfl))
  rintro (q | q)
  · exact q
  · omega
theorem sp_hasRoomFor {n k x y : Nat} (hn : n ≤ 60) (hk : k ≤ 32) (hx : x ≤ 64) (hy : y ≤ 32) {post : Int32 → Prop} (h0 : ¬ (n + x ≤ 60 ∧ k + y ≤ 32) → post 0) (h1 : n + x ≤ 60 ∧ k + y ≤ 32 → post 1) : S_X1_hasRoomFor (nI x) (nI y) (nI n) (nI k) post := by
  intro E hE
  apply hE
  rw [show (60 : Int32) = nI 60 from rfl, show (32 : Int32) = nI 32 from rfl, pk_sub hn, pk_sub hk, nI_ltI (by omega) (by omega), nI_ltI (by omega) (by omega)]
  refine ⟨fun c => h0 (by omega), fun c => ⟨fun c2 => h0 (by omega), fun c2 => h1 (by omega)⟩⟩
/-- what copying answers, and the net that it leaves -/
theorem sp_copyAbove {n k l v : Nat} {nu lev alev bi ab : Nat → Nat} {C D : Nat → Bool} {fvf faf fbi fab fhd : Nat → Int32} {fin fjo : Nat → Int64} {fnu : Nat → Int32} {fre : Nat → Int64} {fse : Nat → Int32} (ok : netOK n k fhd fin fjo fnu fre fse) (hb : biOK n fbi bi) (ha : biOK k fab ab) (hv : v < n) (hl : l < 10) (cf : cpF n k l v nu lev alev bi ab C D fhd fnu fre fse) {post : Int32 → (Nat → Int32) → (Nat → Int32) → Int32 → Int32 → (Nat → Int32) → (Nat → Int32) → (Nat → Int32) → (Nat → Int64) → (Nat → Int64) → (Nat → Int32) → (Nat → Int64) → (Nat → Int32) → Prop}
    (h0 : lev v ≤ l → post (fnu v) fvf faf (nI n) (nI k) fbi fab fhd fin fjo fnu fre fse)
    (h1 : l < lev v → ¬ (n + cn C n ≤ 60 ∧ k + cn D k ≤ 32) → post (-1) fvf faf (nI n) (nI k) fbi fab fhd fin fjo fnu fre fse)
    (h2 : l < lev v → n + cn C n ≤ 60 → k + cn D k ≤ 32 → ∀ fvf' faf' fbi' fab' fhd' fin' fjo' fnu' fre' fse', biOK (n + cn C n) fbi' (biX n C lev bi n) → biOK (k + cn D k) fab' (biX k D alev ab k) → (∀ u, u < n → fjo' u = fjo u) → (∀ u, n ≤ u → u < n + cn C n → fjo' u = 0) →
      cpI n k (n + cn C n) (k + cn D k) C D fhd fin fjo' fnu' (fun c a => C c = true ∧ hN n nu fhd c a) (fun c j => C c = true ∧ iN n nu fin c j) fhd' fin' fre' fse' → post (nI (vfN n C (nu v))) fvf' faf' (nI (n + cn C n)) (nI (k + cn D k)) fbi' fab' fhd' fin' fjo' fnu' fre' fse') :
    S_X0_copyAbove (nI v) (nI l) (nI n) (nI k) fvf faf fbi fab fhd fin fjo fnu fre fse post := by
  have o1 := ok.1
  have o2 := ok.2.1
  obtain ⟨c1, c2, c3, c4, c5⟩ := id cf
  have cv := cl31 (show v < 2 ^ 31 by omega)
  have hnv := (c1 v hv).2.1
  have hCn : ∀ c, C c = true → c < n := fun c q => ((c4 c).mp q).1
  have hDk : ∀ c, D c = true → c < k := fun c q => ((c5 c).mp q).1
  -- levels and the level asked for
  have lowL : ∀ u, u < n → ((∃ w, w < n ∧ ¬ nI l < fbi w ∧ tl (fre w) u = true) ↔ lev u ≤ l) := by
    intro u hu
    have q := low_iff (L := nI l) (c2 u hu).1 (by omega) (fun w hw => by have := (hb w hw).2; omega)
    have e10 : nI l < nI 10 := (nI_ltI (by omega) (by omega)).mpr (by omega)
    rw [nI_ltI (by omega) (by have := (c2 u hu).2; omega)] at q
    constructor
    · rintro ⟨w, hw, q1, q2⟩
      rw [(hb w hw).1] at q1
      have := q.mpr (Or.inr ⟨w, hw, q2, q1⟩)
      omega
    · intro hle
      rcases q.mp (by omega) with r | ⟨w, hw, r1, r2⟩
      · exact absurd e10 r
      · exact ⟨w, hw, by rw [(hb w hw).1]; exact r2, r1⟩
  have hlnu : ∀ u, u < n → lev (nu u) = lev u := fun u hu => lev_nu ok c1 c2 hu
  have hCnu : ∀ u, u < n → (C (nu u) = true ↔ tl (fre v) u = true ∧ l < lev u) := by
    intro u hu
    have hm : nu u < n := by have := (c1 u hu).2.1; omega
    have e : fnu u = fnu (nu u) := by rw [(c1 u hu).1, (c1 _ hm).1, (c1 u hu).2.2]
    rw [c4, hlnu u hu]
    constructor
    · rintro ⟨_, _, q, q2⟩; exact ⟨ok_nu_re ok hv hm hu e.symm q, q2⟩
    · rintro ⟨q, q2⟩; exact ⟨hm, (c1 u hu).2.2, ok_nu_re ok hv hu hm e q, q2⟩
  intro E K95 h95 hE
  apply hE
  refine ⟨in60 (by omega), ?_⟩
  rw [cv]
  refine nm_e (sp_variablesUpTo o1 (fun r14 hr14 => ?_))
  refine sp_nodesAmong o1 (nu := nu) (fun u hu => ⟨(c1 u hu).1, by have := (c1 u hu).2.1; omega⟩) (fun r15 hr15 => ?_)
  have hr : ∀ i, tl r15 i = true ↔ C i = true := by
    intro i
    rw [hr15 i]
    constructor
    · rintro ⟨u, hu, q, q2⟩
      rw [tl_and, Bool.and_eq_true, tl_not _ (by omega), Bool.not_eq_true'] at q
      rw [← q2, hCnu u hu]
      refine ⟨q.1, ?_⟩
      rcases Nat.lt_or_ge l (lev u) with r | r
      · exact r
      · have := (hr14 u).mpr ((lowL u hu).mpr r)
        rw [q.2] at this
        cases this
    · intro q
      obtain ⟨q1, q2, q3, q4⟩ := (c4 i).mp q
      refine ⟨i, q1, ?_, q2⟩
      rw [tl_and, Bool.and_eq_true, tl_not _ (by omega), Bool.not_eq_true']
      refine ⟨q3, ?_⟩
      cases r : tl r14 i
      · rfl
      · have := (lowL i q1).mp ((hr14 i).mp r)
        omega
  rw [(c1 v hv).1]
  refine sp_contains (by omega) ?_
  have hCv : C (nu v) = true ↔ l < lev v := by
    rw [hCnu v hv]
    exact ⟨fun q => q.2, fun q => ⟨ok_self ok hv, q⟩⟩
  by_cases hlv : l < lev v
  · have ht : tl r15 (nu v) = true := (hr _).mpr (hCv.mpr hlv)
    rw [ht]
    refine gone (sp_hadByNodes o1 (nu := nu) (fun u hu => ⟨(c1 u hu).1, by have := (c1 u hu).2.1; omega⟩) (fun r18 hr18 => sp_atomsUpTo o1 o2 (fun r19 hr19 => nm_e ?_)))
    have hrD : ∀ a, ti (r18 &&& (r19 ^^^ (-1))) a = true ↔ D a = true := by
      intro a
      rcases Nat.lt_or_ge a 32 with h32 | h32
      · rw [ti_and, Bool.and_eq_true, ti_not _ h32, Bool.not_eq_true', c5]
        constructor
        · rintro ⟨q, q2⟩
          obtain ⟨u, hu, q3, q4⟩ := (hr18 a).mp q
          have hak := ok.2.2.1 u hu a q4
          refine ⟨hak, ⟨u, hu, (hr _).mp q3, q4⟩, ?_⟩
          have al := alev_iff (L := nI l) hb ha hak (c3 a hak).1
          rw [nI_ltI (by omega) (by have := (c3 a hak).2; omega)] at al
          rcases Nat.lt_or_ge l (alev a) with r | r
          · exact r
          · have := (hr19 a).mpr ((al.mp (by omega)).elim Or.inl (fun q => Or.inr ⟨hak, q⟩))
            rw [q2] at this
            cases this
        · rintro ⟨hak, ⟨u, hu, q3, q4⟩, q5⟩
          refine ⟨(hr18 a).mpr ⟨u, hu, (hr _).mpr q3, q4⟩, ?_⟩
          have al := alev_iff (L := nI l) hb ha hak (c3 a hak).1
          rw [nI_ltI (by omega) (by have := (c3 a hak).2; omega)] at al
          cases r : ti r19 a
          · rfl
          · have := al.mpr (((hr19 a).mp r).elim Or.inl (fun q => Or.inr q.2))
            omega
      · rw [ti_big h32]
        constructor
        · intro q; cases q
        · intro q; have := hDk a q; omega
    generalize r18 &&& (r19 ^^^ (-1)) = y20 at hrD
    refine sp_bitCountL _ (sp_bitCount _ ?_)
    have e1 : cn (fun i => tl r15 i) 64 = cn C n := by
      rw [cn_iff (g := C) (fun i _ => hr i)]
      exact cn_cut (by omega) hCn
    have e2 : cn (fun i => ti y20 i) 32 = cn D k := by
      rw [cn_iff (g := D) (fun i _ => hrD i)]
      exact cn_cut o2 hDk
    rw [e1, e2]
    have bC := cn_le C n
    have bD := cn_le D k
    refine sp_hasRoomFor o1 o2 (by omega) (by omega) (fun q => gzer (h1 hlv q)) (fun q => gone ?_)
    refine sp_makeVariables ok hb cf (fun i _ => hr i) q.1 (fun fvf' fbi' fhd' fin' fjo' fnu' fre' fse' hvf hI => ?_)
    obtain ⟨i1, i2, i3, i4⟩ := hI
    refine sp_makeAtoms (bi' := biX n C lev bi n) (show n ≤ n + cn C n by omega) q.1 o2 ha i2 cf (fun u hu => ⟨(i3 u hu).2.2.2.2.2, biX_low hu n⟩) (fun u hu hu2 => (i4 u hu hu2).2.2.2.2.2) (fun i _ => hrD i) q.2 (fun faf' fab' haf hbA => ?_)
    have ok' : netOK (n + cn C n) (k + cn D k) fhd' fin' fjo' fnu' fre' fse' := by
      obtain ⟨p1, p2, p3, p4, p5, p6, p7, p8⟩ := i1
      exact ⟨p1, q.2, fun u hu a hh => by have := p3 u hu a hh; omega, p4, p5, p6, p7, p8⟩
    have key := dn (P := fun i => ∀ fhd2 fin2 fre2 fse2, cpI n k (n + cn C n) (k + cn D k) C D fhd fin fjo' fnu' (fun c a => c < i ∧ C c = true ∧ hN n nu fhd c a) (fun c j => c < i ∧ C c = true ∧ iN n nu fin c j) fhd2 fin2 fre2 fse2 → K95 (nI (nu v)) r15 (nI i) fvf' faf' (nI (n + cn C n)) (nI (k + cn D k)) fbi' fab' fhd2 fin2 fjo' fnu' fre2 fse2) 60 (by
      intro fhd2 fin2 fre2 fse2 hc
      apply h95
      refine ⟨fun _ => ⟨in60 (by omega), ?_⟩, fun c => absurd (by decide) c⟩
      rw [cl31 (show nu v < 2 ^ 31 by omega), hvf (nu v) (by omega)]
      refine h2 hlv q.1 q.2 _ _ _ _ _ _ _ _ _ _ i2 hbA (fun u hu => (i3 u hu).2.2.1) (fun u hu hu2 => (i4 u hu hu2).2.2.1) (cpI_same hc (fun c a => ?_) (fun c j => ?_))
      · exact ⟨fun r => r.2, fun r => ⟨by have := hCn c r.1; omega, r⟩⟩
      · exact ⟨fun r => r.2, fun r => ⟨by have := hCn c r.1; omega, r⟩⟩) (by
      intro i hi ih fhd2 fin2 fre2 fse2 hc
      apply h95
      refine hd_lt (n := 60) hi (by decide) (sp_has (by omega) (fun c => nx_i (ih _ _ _ _ (cpI_same hc (fun c' a => ?_) (fun c' a => ?_)))) (fun c => ?_))
      · constructor
        · rintro ⟨r, r2⟩; exact ⟨by omega, r2⟩
        · rintro ⟨r, r2⟩
          have : c' ≠ i := fun e => by
            have := (hr c').mpr r2.1
            rw [e, c] at this
            cases this
          exact ⟨by omega, r2⟩
      · constructor
        · rintro ⟨r, r2⟩; exact ⟨by omega, r2⟩
        · rintro ⟨r, r2⟩
          have : c' ≠ i := fun e => by
            have := (hr c').mpr r2.1
            rw [e, c] at this
            cases this
          exact ⟨by omega, r2⟩
      · have hCi := (hr i).mp c
        refine sp_tellOfCopy (nu := nu) rfl rfl q.1 q.2 hCn hvf haf (fun u hu => ⟨by rw [(i3 u hu).2.2.2.1]; exact (c1 u hu).1, (c1 u hu).2.1⟩) (fun u hu hu2 => (i4 u hu hu2).2.2.2.1) ok.2.2.1 ok.2.2.2.1 hCi hc (fun fhd3 fin3 fre3 fse3 hc3 => nx_i (ih _ _ _ _ (cpI_same hc3 (fun c' a => ?_) (fun c' a => ?_))))
        · constructor
          · rintro (⟨r, r2⟩ | ⟨r, r2⟩)
            · exact ⟨by omega, r2⟩
            · subst r; exact ⟨by omega, hCi, r2⟩
          · rintro ⟨r, r2, r3⟩
            by_cases e : c' = i
            · subst e; exact Or.inr ⟨rfl, r3⟩
            · exact Or.inl ⟨by omega, r2, r3⟩
        · constructor
          · rintro (⟨r, r2⟩ | ⟨r, r2⟩)
            · exact ⟨by omega, r2⟩
            · subst r; exact ⟨by omega, hCi, r2⟩
          · rintro ⟨r, r2, r3⟩
            by_cases e : c' = i
            · subst e; exact Or.inr ⟨rfl, r3⟩
            · exact Or.inl ⟨by omega, r2, r3⟩)
    refine key 0 (by omega) _ _ _ _ ⟨ok', fun r hr' b => ?_, fun r hr' w => ?_, fun c a q => absurd q.1 (by omega), fun c a q => absurd q.1 (by omega)⟩
    · constructor
      · intro hh
        by_cases e : r < n
        · rw [(i3 r e).1] at hh; exact Or.inl ⟨e, hh⟩
        · rw [(i4 r (by omega) hr').1, ti_0] at hh; cases hh
      · rintro (⟨e, hh⟩ | ⟨c, a, hh, _⟩)
        · rw [(i3 r e).1]; exact hh
        · exact absurd hh.1 (by omega)
    · constructor
      · intro hh
        by_cases e : r < n
        · rw [(i3 r e).2.1] at hh; exact Or.inl ⟨e, hh⟩
        · rw [(i4 r (by omega) hr').2.1, tl_0] at hh; cases hh
      · rintro (⟨e, hh⟩ | ⟨c, a, hh, _⟩)
        · rw [(i3 r e).2.1]; exact hh
        · exact absurd hh.1 (by omega)
  · have ht : tl r15 (nu v) = false := by
      cases r : tl r15 (nu v)
      · rfl
      · exact absurd (hCv.mp ((hr _).mp r)) hlv
    rw [ht]
    refine gzer ?_
    rw [← (c1 v hv).1]
    exact h0 (by omega)

/-! copy: the reference -/
def rpI (n k t0 : Nat) (th tic tbe : Nat → Nat) (gbe : Nat → Int32) (C D : Nat → Bool) (PH PI : Nat → Nat → Prop) (t : Nat) (th' tic' : Nat → Nat) (ghv' gic' : Nat → Int32) : Prop :=
  RT t th' tic' tbe ghv' gic' gbe ∧ extT t0 th tic tbe t th' tic' tbe ∧
  (∀ i, 1 ≤ th' i ↔ 1 ≤ th i ∨ ∃ c a, PH c a ∧ i = 32 * vfN n C c + vfN k D a) ∧
  (∀ i, 1 ≤ tic' i ↔ 1 ≤ tic i ∨ ∃ c j, PI c j ∧ i = 60 * vfN n C c + vfN n C j) ∧
  (∀ c a, PH c a → C c = true) ∧ (∀ c j, PI c j → C c = true)
theorem rpI_same {n k t0 : Nat} {th tic tbe : Nat → Nat} {gbe : Nat → Int32} {C D : Nat → Bool} {PH PI PH' PI' : Nat → Nat → Prop} {t : Nat} {th' tic' : Nat → Nat} {ghv' gic' : Nat → Int32} (h : rpI n k t0 th tic tbe gbe C D PH PI t th' tic' ghv' gic') (e1 : ∀ c a, PH c a ↔ PH' c a) (e2 : ∀ c a, PI c a ↔ PI' c a) : rpI n k t0 th tic tbe gbe C D PH' PI' t th' tic' ghv' gic' := by
  have q1 : PH = PH' := funext (fun c => funext (fun a => propext (e1 c a)))
  have q2 : PI = PI' := funext (fun c => funext (fun a => propext (e2 c a)))
  rw [← q1, ← q2]; exact h
/-- what stands for a copy, or none -/
def gnV (n : Nat) (C : Nat → Bool) (i : Nat) : Int32 := if C i then nI (vfN n C i) else -1
theorem gnV_t {n : Nat} {C : Nat → Bool} {i : Nat} (h : C i = true) : gnV n C i = nI (vfN n C i) := by unfold gnV; rw [if_pos h]
theorem gnV_f {n : Nat} {C : Nat → Bool} {i : Nat} (h : ¬ C i = true) : gnV n C i = -1 := by unfold gnV; rw [if_neg h]
theorem gnV_iff {n : Nat} {C : Nat → Bool} {i : Nat} (hb : vfN n C i < 2 ^ 31) : gnV n C i = -1 ↔ ¬ C i = true := by
  by_cases h : C i = true
  · rw [gnV_t h]; exact ⟨fun q => absurd q (ne_m1 hb), fun q => absurd h q⟩
  · rw [gnV_f h]; exact ⟨fun _ => h, fun _ => rfl⟩
theorem pos_br {x : Int32} {P A B : Prop} (h : ¬ x ≤ 0 ↔ P) (a : ¬ P → A) (b : P → B) : (x ≤ 0 → A) ∧ (¬ x ≤ 0 → B) := ⟨fun c => a (fun q => h.mpr q c), fun c => b (h.mp c)⟩
theorem sp_copyNode {n k i t0 t : Nat} {nu : Nat → Nat} {C D : Nat → Bool} {th tic tbe th' tic' : Nat → Nat} {gbe ghv' gic' gnd gno gna fhd : Nat → Int32} {fin fjo : Nat → Int64} {PH PI : Nat → Nat → Prop} (hn : n ≤ 60) (hk : k ≤ 32) (hN6 : n + cn C n ≤ 60) (hK3 : k + cn D k ≤ 32) (hCn : ∀ c, C c = true → c < n) (hnu : ∀ u, u < n → gnd u = nI (nu u) ∧ nu u ≤ u ∧ nu (nu u) = nu u) (hgno : ∀ j, j < n → gno j = gnV n C j) (hgna : ∀ a, a < k → gna a = gnV k D a) (ft : fitC n th tic tbe fhd fin fjo) (o3 : ∀ u, u < n → ∀ a, ti (fhd u) a = true → a < k) (hC : C i = true) (h : rpI n k t0 th tic tbe gbe C D PH PI t th' tic' ghv' gic')
    {post : Int32 → (Nat → Int32) → (Nat → Int32) → Prop}
    (hp : ∀ t2 th2 tic2 ghv2 gic2, rpI n k t0 th tic tbe gbe C D (fun c a => PH c a ∨ (c = i ∧ hN n nu fhd i a)) (fun c j => PI c j ∨ (c = i ∧ iN n nu fin i j)) t2 th2 tic2 ghv2 gic2 → post (nI t2) ghv2 gic2) : S_X4_copyNode (nI i) (nI n) (nI k) (nI t) ghv' gic' gnd gno gna post := by
  have hi := hCn i hC
  have hvi : vfN n C i < n + cn C n := vf_lt hi
  have ci := cl31 (show i < 2 ^ 31 by omega)
  intro E K3 K12 K101 K110 K119 h3 h12 h101 h110 h119 hE
  apply hE
  -- the second part
  have second : ∀ t2 th2 tic2 ghv2 gic2, rpI n k t0 th tic tbe gbe C D (fun c a => PH c a ∨ (c = i ∧ hN n nu fhd i a)) PI t2 th2 tic2 ghv2 gic2 → K101 0 (nI t2) ghv2 gic2 := by
    intro t2 th2 tic2 ghv2 gic2 hh
    have top := dn (P := fun m => ∀ t2 th2 tic2 ghv2 gic2, rpI n k t0 th tic tbe gbe C D (fun c a => PH c a ∨ (c = i ∧ hN n nu fhd i a)) (fun c j => PI c j ∨ (c = i ∧ j < m ∧ iN n nu fin i j)) t2 th2 tic2 ghv2 gic2 → K101 (nI m) (nI t2) ghv2 gic2) n (by
      intro t2 th2 tic2 ghv2 gic2 h2
      apply h101
      refine hd_eq (hp _ th2 tic2 _ _ (rpI_same h2 (fun _ _ => Iff.rfl) (fun c j => ?_)))
      constructor
      · rintro (q | q)
        · exact Or.inl q
        · exact Or.inr ⟨q.1, q.2.2⟩
      · rintro (q | ⟨q, q2⟩)
        · exact Or.inl q
        · obtain ⟨w, hw, _, e⟩ := id q2
          exact Or.inr ⟨q, by have := (hnu w hw).2.1; omega, q2⟩) (by
      intro m hm ihm t2 th2 tic2 ghv2 gic2 h2
      apply h101
      refine hd_lt hm (by omega) ?_
      have mid := dn (P := fun w => ∀ t2 th2 tic2 ghv2 gic2, rpI n k t0 th tic tbe gbe C D (fun c a => PH c a ∨ (c = i ∧ hN n nu fhd i a)) (fun c j => PI c j ∨ (c = i ∧ ((j < m ∧ iN n nu fin i j) ∨ (j = m ∧ ∃ w' u', w' < w ∧ u' < n ∧ nu w' = i ∧ tl (fin w') u' = true ∧ nu u' = m)))) t2 th2 tic2 ghv2 gic2 → K110 (nI m) (nI w) (nI t2) ghv2 gic2) n (by
        intro t2 th2 tic2 ghv2 gic2 h2
        apply h110
        refine hd_eq (nx_i (ihm _ th2 tic2 _ _ (rpI_same h2 (fun _ _ => Iff.rfl) (fun c j => ?_))))
        constructor
        · rintro (q | ⟨q, q2 | ⟨q2, w', u', a1, a2, a3, a4, a5⟩⟩)
          · exact Or.inl q
          · exact Or.inr ⟨q, by omega, q2.2⟩
          · subst q2; exact Or.inr ⟨q, by omega, u', a2, ⟨w', a1, a3, a4⟩, a5⟩
        · rintro (q | ⟨q, q2, q3⟩)
          · exact Or.inl q
          · rcases Nat.lt_or_ge j m with r | r
            · exact Or.inr ⟨q, Or.inl ⟨r, q3⟩⟩
            · have e : j = m := by omega
              subst e
              obtain ⟨u', a2, ⟨w', a1, a3, a4⟩, a5⟩ := q3
              exact Or.inr ⟨q, Or.inr ⟨rfl, w', u', a1, a2, a3, a4, a5⟩⟩) (by
        intro w hw ihw t2 th2 tic2 ghv2 gic2 h2
        apply h110
        refine hd_lt hw (by omega) ?_
        by_cases hmm : nu m = m
        · have inn := dn (P := fun u => ∀ t2 th2 tic2 ghv2 gic2, rpI n k t0 th tic tbe gbe C D (fun c a => PH c a ∨ (c = i ∧ hN n nu fhd i a)) (fun c j => PI c j ∨ (c = i ∧ ((j < m ∧ iN n nu fin i j) ∨ (j = m ∧ ((∃ w' u', w' < w ∧ u' < n ∧ nu w' = i ∧ tl (fin w') u' = true ∧ nu u' = m) ∨ (∃ u', u' < u ∧ nu w = i ∧ tl (fin w) u' = true ∧ nu u' = m)))))) t2 th2 tic2 ghv2 gic2 → K119 (nI m) (nI w) (nI u) (nI t2) ghv2 gic2) n (by
            intro t2 th2 tic2 ghv2 gic2 h2
            apply h119
            refine hd_eq (nx_i (ihw _ th2 tic2 _ _ (rpI_same h2 (fun _ _ => Iff.rfl) (fun c j => ?_))))
            constructor
            · rintro (q | ⟨q, q2 | ⟨q2, ⟨w', u', a1, a2⟩ | ⟨u', a1, a2, a3, a4⟩⟩⟩)
              · exact Or.inl q
              · exact Or.inr ⟨q, Or.inl q2⟩
              · exact Or.inr ⟨q, Or.inr ⟨q2, w', u', by omega, a2⟩⟩
              · exact Or.inr ⟨q, Or.inr ⟨q2, w, u', by omega, a1, a2, a3, a4⟩⟩
            · rintro (q | ⟨q, q2 | ⟨q2, w', u', a1, a2, a3, a4, a5⟩⟩)
              · exact Or.inl q
              · exact Or.inr ⟨q, Or.inl q2⟩
              · rcases Nat.lt_or_ge w' w with r | r
                · exact Or.inr ⟨q, Or.inr ⟨q2, Or.inl ⟨w', u', r, a2, a3, a4, a5⟩⟩⟩
                · have e : w' = w := by omega
                  subst e
                  exact Or.inr ⟨q, Or.inr ⟨q2, Or.inr ⟨u', a2, a3, a4, a5⟩⟩⟩) (by
            intro u hu ihu t2 th2 tic2 ghv2 gic2 h2
            apply h119
            refine hd_lt hu (by omega) ⟨in60 (by omega), ?_⟩
            have bw := (hnu w hw).2.1
            have bu := (hnu u hu).2.1
            rw [ci, cl31 (show m < 2 ^ 31 by omega), cl31 (show w < 2 ^ 31 by omega), cl31 (show u < 2 ^ 31 by omega), ix60, cl31 (show 60 * w + u < 2 ^ 31 by omega), (hnu m hm).1, (hnu w hw).1, (hnu u hu).1, nI_eq (by omega) (by omega), nI_eq (by omega) (by omega), nI_eq (by omega) (by omega)]
            have skip : ¬ (nu w = i ∧ tl (fin w) u = true ∧ nu u = m) → K119 (nI m) (nI w) (nI (u + 1)) (nI t2) ghv2 gic2 := by
              intro hno
              refine ihu _ th2 tic2 _ _ (rpI_same h2 (fun _ _ => Iff.rfl) (fun c j => ?_))
              constructor
              · rintro (q | ⟨q, q2 | ⟨q2, q3 | ⟨u', a1, a2⟩⟩⟩)
                · exact Or.inl q
                · exact Or.inr ⟨q, Or.inl q2⟩
                · exact Or.inr ⟨q, Or.inr ⟨q2, Or.inl q3⟩⟩
                · exact Or.inr ⟨q, Or.inr ⟨q2, Or.inr ⟨u', by omega, a2⟩⟩⟩
              · rintro (q | ⟨q, q2 | ⟨q2, q3 | ⟨u', a1, a2⟩⟩⟩)
                · exact Or.inl q
                · exact Or.inr ⟨q, Or.inl q2⟩
                · exact Or.inr ⟨q, Or.inr ⟨q2, Or.inl q3⟩⟩
                · have : u' ≠ u := fun e => hno (by rw [← e]; exact a2)
                  exact Or.inr ⟨q, Or.inr ⟨q2, Or.inr ⟨u', by omega, a2⟩⟩⟩
            refine ⟨fun c => absurd hmm c, fun _ => ⟨in60 (by omega), fun c => nx_i (skip (fun q => c q.1)), fun c1 => ⟨in60 (by omega), fun c => nx_i (skip (fun q => c q.2.2)), fun c2 => ⟨vp_in_nI (by omega) (by decide), ?_⟩⟩⟩⟩
            have t9 := times_le h2.1.2
            have bt := h2.1.2.2.1 (60 * w + u) (by omega)
            have rd : ¬ gic2 (60 * w + u) ≤ 0 ↔ tl (fin w) u = true := by
              rw [pos_iff (h2.1.1.2.1 _ (by omega)) (by omega), h2.2.2.2.1, ft.2.1 w u (by omega) (by omega)]
              constructor
              · rintro (q | ⟨c, j, q, e⟩)
                · exact q.2
                · have q' := h2.2.2.2.2.2 c j q
                  rw [vf_t q'] at e
                  omega
              · intro q; exact Or.inl ⟨hw, q⟩
            refine pos_br rd (fun c => nx_i (skip (fun q => c q.2.1))) (fun c3 => ⟨in60 (by omega), ?_⟩)
            have hvm : vfN n C m < n + cn C n := vf_lt hm
            have cont : ∀ t3 tic3 gic3, RT t3 th2 tic3 tbe ghv2 gic3 gbe → extT t2 th2 tic2 tbe t3 th2 tic3 tbe → (∀ x, 1 ≤ tic3 x ↔ 1 ≤ tic2 x ∨ x = 60 * vfN n C i + vfN n C m) → ∀ y : Int32, y = nI u + 1 → K119 (nI m) (nI w) y (nI t3) ghv2 gic3 := by
              intro t3 tic3 gic3 rt3 ex3 hx3
              refine nx_i (ihu _ th2 tic3 _ _ ⟨rt3, extT_trans h2.2.1 ex3, h2.2.2.1, fun x => ?_, h2.2.2.2.2.1, fun c j q => ?_⟩)
              · rw [hx3, h2.2.2.2.1]
                constructor
                · rintro ((q | ⟨c, j, q, e⟩) | q)
                  · exact Or.inl q
                  · refine Or.inr ⟨c, j, ?_, e⟩
                    rcases q with q | ⟨q, q2 | ⟨q2, q3 | ⟨u', a1, a2⟩⟩⟩
                    · exact Or.inl q
                    · exact Or.inr ⟨q, Or.inl q2⟩
                    · exact Or.inr ⟨q, Or.inr ⟨q2, Or.inl q3⟩⟩
                    · exact Or.inr ⟨q, Or.inr ⟨q2, Or.inr ⟨u', by omega, a2⟩⟩⟩
                  · exact Or.inr ⟨i, m, Or.inr ⟨rfl, Or.inr ⟨rfl, Or.inr ⟨u, by omega, c1, c3, c2⟩⟩⟩, q⟩
                · rintro (q | ⟨c, j, q, e⟩)
                  · exact Or.inl (Or.inl q)
                  · rcases q with q | ⟨q, q2 | ⟨q2, q3 | ⟨u', a1, a2⟩⟩⟩
                    · exact Or.inl (Or.inr ⟨c, j, Or.inl q, e⟩)
                    · exact Or.inl (Or.inr ⟨c, j, Or.inr ⟨q, Or.inl q2⟩, e⟩)
                    · exact Or.inl (Or.inr ⟨c, j, Or.inr ⟨q, Or.inr ⟨q2, Or.inl q3⟩⟩, e⟩)
                    · subst q q2; exact Or.inr e
              · rcases q with q | ⟨q, _⟩
                · exact h2.2.2.2.2.2 c j (Or.inl q)
                · rw [q]; exact hC
            rw [hgno i hi, hgno m hm, gnV_t hC, gnV_iff (show vfN n C m < 2 ^ 31 by omega)]
            refine ⟨fun c => ?_, fun c => ?_⟩
            · rw [gnV_t (Classical.not_not.mp c), ix60]
              exact sp_tellI h2.1 (by omega) cont
            · rw [vf_f c] at cont hvm
              rw [ix60]
              exact sp_tellI h2.1 (by omega) cont)
          refine inn 0 (by omega) _ th2 tic2 _ _ (rpI_same h2 (fun _ _ => Iff.rfl) (fun c j => ?_))
          constructor
          · rintro (q | ⟨q, q2 | ⟨q2, q3⟩⟩)
            · exact Or.inl q
            · exact Or.inr ⟨q, Or.inl q2⟩
            · exact Or.inr ⟨q, Or.inr ⟨q2, Or.inl q3⟩⟩
          · rintro (q | ⟨q, q2 | ⟨q2, q3 | ⟨u', a1, a2⟩⟩⟩)
            · exact Or.inl q
            · exact Or.inr ⟨q, Or.inl q2⟩
            · exact Or.inr ⟨q, Or.inr ⟨q2, q3⟩⟩
            · omega
        · apply h119
          refine hd_lt (n := n) (u := 0) (by omega) (by omega) ⟨in60 (by omega), ?_⟩
          have bm := (hnu m hm).2.1
          rw [cl31 (show m < 2 ^ 31 by omega), (hnu m hm).1, nI_eq (by omega) (by omega)]
          refine ⟨fun _ => nx_i (ihw _ th2 tic2 _ _ (rpI_same h2 (fun _ _ => Iff.rfl) (fun c j => ?_))), fun c => absurd c hmm⟩
          have none : ∀ u', u' < n → ¬ nu u' = m := fun u' hu' e => hmm (by rw [← e]; exact (hnu u' hu').2.2)
          constructor
          · rintro (q | ⟨q, q2 | ⟨q2, w', u', a1, a2, a3, a4, a5⟩⟩)
            · exact Or.inl q
            · exact Or.inr ⟨q, Or.inl q2⟩
            · exact absurd a5 (none u' a2)
          · rintro (q | ⟨q, q2 | ⟨q2, w', u', a1, a2, a3, a4, a5⟩⟩)
            · exact Or.inl q
            · exact Or.inr ⟨q, Or.inl q2⟩
            · exact absurd a5 (none u' a2))
      refine mid 0 (by omega) _ th2 tic2 _ _ (rpI_same h2 (fun _ _ => Iff.rfl) (fun c j => ?_))
      constructor
      · rintro (q | ⟨q, q2⟩)
        · exact Or.inl q
        · exact Or.inr ⟨q, Or.inl q2⟩
      · rintro (q | ⟨q, q2 | ⟨q2, w', u', a1, _⟩⟩)
        · exact Or.inl q
        · exact Or.inr ⟨q, q2⟩
        · omega)
    refine top 0 (by omega) _ th2 tic2 _ _ (rpI_same hh (fun _ _ => Iff.rfl) (fun c j => ⟨Or.inl, ?_⟩))
    rintro (q | ⟨_, q, _⟩)
    · exact q
    · omega
  -- the first part
  have top := dn (P := fun a => ∀ t2 th2 ghv2, rpI n k t0 th tic tbe gbe C D (fun c b => PH c b ∨ (c = i ∧ b < a ∧ hN n nu fhd i b)) PI t2 th2 tic' ghv2 gic' → K3 (nI a) (nI t2) ghv2 gic') k (by
    intro t2 th2 ghv2 h2
    apply h3
    refine hd_eq (second _ th2 tic' _ _ (rpI_same h2 (fun c b => ?_) (fun _ _ => Iff.rfl)))
    constructor
    · rintro (q | q)
      · exact Or.inl q
      · exact Or.inr ⟨q.1, q.2.2⟩
    · rintro (q | ⟨q, q2⟩)
      · exact Or.inl q
      · obtain ⟨w, hw, _, e⟩ := id q2
        exact Or.inr ⟨q, o3 w hw b e, q2⟩) (by
    intro a ha iha t2 th2 ghv2 h2
    apply h3
    refine hd_lt ha (by omega) ?_
    have mid := dn (P := fun w => ∀ t2 th2 ghv2, rpI n k t0 th tic tbe gbe C D (fun c b => PH c b ∨ (c = i ∧ ((b < a ∧ hN n nu fhd i b) ∨ (b = a ∧ ∃ w', w' < w ∧ nu w' = i ∧ ti (fhd w') a = true)))) PI t2 th2 tic' ghv2 gic' → K12 (nI a) (nI w) (nI t2) ghv2 gic') n (by
      intro t2 th2 ghv2 h2
      apply h12
      refine hd_eq (nx_i (iha _ th2 _ (rpI_same h2 (fun c b => ?_) (fun _ _ => Iff.rfl))))
      constructor
      · rintro (q | ⟨q, q2 | ⟨q2, w', a1, a2, a3⟩⟩)
        · exact Or.inl q
        · exact Or.inr ⟨q, by omega, q2.2⟩
        · subst q2; exact Or.inr ⟨q, by omega, w', a1, a2, a3⟩
      · rintro (q | ⟨q, q2, q3⟩)
        · exact Or.inl q
        · rcases Nat.lt_or_ge b a with r | r
          · exact Or.inr ⟨q, Or.inl ⟨r, q3⟩⟩
          · have e : b = a := by omega
            subst e
            obtain ⟨w', a1, a2, a3⟩ := q3
            exact Or.inr ⟨q, Or.inr ⟨rfl, w', a1, a2, a3⟩⟩) (by
      intro w hw ihw t2 th2 ghv2 h2
      apply h12
      refine hd_lt hw (by omega) ⟨in60 (by omega), ?_⟩
      have bw := (hnu w hw).2.1
      rw [ci, cl31 (show a < 2 ^ 31 by omega), cl31 (show w < 2 ^ 31 by omega), ix32, cl31 (show 32 * w + a < 2 ^ 31 by omega), (hnu w hw).1, nI_eq (by omega) (by omega)]
      have skip : ¬ (nu w = i ∧ ti (fhd w) a = true) → K12 (nI a) (nI (w + 1)) (nI t2) ghv2 gic' := by
        intro hno
        refine ihw _ th2 _ (rpI_same h2 (fun c b => ?_) (fun _ _ => Iff.rfl))
        constructor
        · rintro (q | ⟨q, q2 | ⟨q2, w', a1, a2⟩⟩)
          · exact Or.inl q
          · exact Or.inr ⟨q, Or.inl q2⟩
          · exact Or.inr ⟨q, Or.inr ⟨q2, w', by omega, a2⟩⟩
        · rintro (q | ⟨q, q2 | ⟨q2, w', a1, a2⟩⟩)
          · exact Or.inl q
          · exact Or.inr ⟨q, Or.inl q2⟩
          · have : w' ≠ w := fun e => hno (by rw [← e]; exact a2)
            exact Or.inr ⟨q, Or.inr ⟨q2, w', by omega, a2⟩⟩
      refine ⟨fun c => nx_i (skip (fun q => c q.1)), fun c1 => ⟨vp_in_nI (by omega) (by decide), ?_⟩⟩
      have t9 := times_le h2.1.2
      have bt := h2.1.2.1 (32 * w + a) (by omega)
      have rd : ¬ ghv2 (32 * w + a) ≤ 0 ↔ ti (fhd w) a = true := by
        rw [pos_iff (h2.1.1.1 _ (by omega)) (by omega), h2.2.2.1, ft.1 w a (by omega) (by omega)]
        constructor
        · rintro (q | ⟨c, j, q, e⟩)
          · exact q.2
          · have q' := h2.2.2.2.2.1 c j q
            rw [vf_t q'] at e
            omega
        · intro q; exact Or.inl ⟨hw, q⟩
      refine pos_br rd (fun c => nx_i (skip (fun q => c q.2))) (fun c3 => ⟨in60 (by omega), in32 (by omega), ?_⟩)
      have hva : vfN k D a < k + cn D k := vf_lt ha
      have cont : ∀ t3 th3 ghv3, RT t3 th3 tic' tbe ghv3 gic' gbe → extT t2 th2 tic' tbe t3 th3 tic' tbe → (∀ x, 1 ≤ th3 x ↔ 1 ≤ th2 x ∨ x = 32 * vfN n C i + vfN k D a) → ∀ y : Int32, y = nI w + 1 → K12 (nI a) y (nI t3) ghv3 gic' := by
        intro t3 th3 ghv3 rt3 ex3 hx3
        refine nx_i (ihw _ th3 _ ⟨rt3, extT_trans h2.2.1 ex3, fun x => ?_, h2.2.2.2.1, fun c j q => ?_, h2.2.2.2.2.2⟩)
        · rw [hx3, h2.2.2.1]
          constructor
          · rintro ((q | ⟨c, b, q, e⟩) | q)
            · exact Or.inl q
            · refine Or.inr ⟨c, b, ?_, e⟩
              rcases q with q | ⟨q, q2 | ⟨q2, w', a1, a2⟩⟩
              · exact Or.inl q
              · exact Or.inr ⟨q, Or.inl q2⟩
              · exact Or.inr ⟨q, Or.inr ⟨q2, w', by omega, a2⟩⟩
            · exact Or.inr ⟨i, a, Or.inr ⟨rfl, Or.inr ⟨rfl, w, by omega, c1, c3⟩⟩, q⟩
          · rintro (q | ⟨c, b, q, e⟩)
            · exact Or.inl (Or.inl q)
            · rcases q with q | ⟨q, q2 | ⟨q2, w', a1, a2⟩⟩
              · exact Or.inl (Or.inr ⟨c, b, Or.inl q, e⟩)
              · exact Or.inl (Or.inr ⟨c, b, Or.inr ⟨q, Or.inl q2⟩, e⟩)
              · subst q q2; exact Or.inr e
        · rcases q with q | ⟨q, _⟩
          · exact h2.2.2.2.2.1 c j (Or.inl q)
          · rw [q]; exact hC
      rw [hgno i hi, hgna a ha, gnV_t hC, gnV_iff (show vfN k D a < 2 ^ 31 by omega)]
      refine ⟨fun c => ?_, fun c => ?_⟩
      · rw [gnV_t (Classical.not_not.mp c), ix32]
        exact sp_tellH h2.1 (by omega) cont
      · rw [vf_f c] at cont hva
        rw [ix32]
        exact sp_tellH h2.1 (by omega) cont)
    refine mid 0 (by omega) _ th2 _ (rpI_same h2 (fun c b => ?_) (fun _ _ => Iff.rfl))
    constructor
    · rintro (q | ⟨q, q2⟩)
      · exact Or.inl q
      · exact Or.inr ⟨q, Or.inl q2⟩
    · rintro (q | ⟨q, q2 | ⟨q2, w', a1, _⟩⟩)
      · exact Or.inl q
      · exact Or.inr ⟨q, q2⟩
      · omega)
  refine top 0 (by omega) _ th' _ (rpI_same h (fun c b => ⟨Or.inl, ?_⟩) (fun _ _ => Iff.rfl))
  rintro (q | ⟨_, q, _⟩)
  · exact q
  · omega

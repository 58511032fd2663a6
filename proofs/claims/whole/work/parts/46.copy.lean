/-! copy: the reference's run, and the law's case -/
theorem sp_isCopied {n k l v i : Nat} {nu lev alev bi ab : Nat → Nat} {C D : Nat → Bool} {fhd : Nat → Int32} {fin fjo : Nat → Int64} {fnu : Nat → Int32} {fre : Nat → Int64} {fse : Nat → Int32} {gnd : Nat → Int32} {gre : Nat → Int64} {gse glv gal : Nat → Int32} (ok : netOK n k fhd fin fjo fnu fre fse) (cf : cpF n k l v nu lev alev bi ab C D fhd fnu fre fse) (wo : woOK n k bi ab fnu fre fse gnd gre gse glv gal) (hv : v < n) (hl : l < 10) (hi : i < n) {post : Int32 → Prop} (h0 : ¬ C i = true → post 0) (h1 : C i = true → post 1) : S_X4_isCopied (nI v) (nI i) (nI l) gnd gre glv post := by
  have o1 := ok.1
  obtain ⟨c1, c2, c3, c4, c5⟩ := id cf
  have bi' := (c1 i hi).2.1
  intro E hE
  apply hE
  refine ⟨in60 (by omega), ?_⟩
  obtain ⟨mm, em, hm⟩ := wo.2.2.2.1 i hi
  have emm : mm = lev i := isMin_uniq hm (c2 i hi).1
  rw [cl31 (show i < 2 ^ 31 by omega), cl31 (show v < 2 ^ 31 by omega), wo.1 i hi, (c1 i hi).1, nI_eq (by omega) (by omega), em, emm]
  refine ⟨fun c => h0 (fun q => c ((c4 i).mp q).2.1), fun c => ⟨in60 (by omega), fun c2' => h0 (fun q => c2' ?_), fun c2' => ?_⟩⟩
  · have q3 := ((c4 i).mp q).2.2.1
    exact (sar1 _ (by omega)).mpr ((wo_bit ok wo hv hi (by omega) (by rw [(c1 i hi).1, c])).mpr q3)
  · have q3 := (wo_bit ok wo hv hi (by omega) (by rw [(c1 i hi).1, c])).mp ((sar1 _ (by omega)).mp c2')
    have bl := (c2 i hi).2
    rw [nI_leI (by omega) (by omega)]
    exact ⟨fun c3' => h0 (fun q => by have := ((c4 i).mp q).2.2.2; omega), fun c3' => h1 ((c4 i).mpr ⟨hi, c, q3, by omega⟩)⟩
theorem sp_copyR {n k l v t0 : Nat} {nu lev alev bi ab th tic tbe : Nat → Nat} {C D : Nat → Bool} {fhd : Nat → Int32} {fin fjo : Nat → Int64} {fnu : Nat → Int32} {fre : Nat → Int64} {fse : Nat → Int32} {xth : Int32} {gbi gab ghv gic gbe gnd : Nat → Int32} {gre : Nat → Int64} {gse glv gal gno gna : Nat → Int32} (ok : netOK n k fhd fin fjo fnu fre fse) (hb : biOK n gbi bi) (ha : biOK k gab ab) (rt : RT t0 th tic tbe ghv gic gbe) (ft : fitC n th tic tbe fhd fin fjo) (hv : v < n) (hl : l < 10) (cf : cpF n k l v nu lev alev bi ab C D fhd fnu fre fse) {post : Int32 → Int32 → Int32 → Int32 → (Nat → Int32) → (Nat → Int32) → Int32 → (Nat → Int32) → (Nat → Int32) → (Nat → Int32) → (Nat → Int64) → (Nat → Int32) → (Nat → Int32) → (Nat → Int32) → (Nat → Int32) → (Nat → Int32) → Prop}
    (h0 : lev v ≤ l → ∀ gnd gre gse glv gal, post (fnu v) 0 (nI n) (nI k) gbi gab (nI t0) ghv gic gnd gre gse glv gal gno gna)
    (h1 : l < lev v → ¬ (n + cn C n ≤ 60 ∧ k + cn D k ≤ 32) → ∀ gnd gre gse glv gal gno gna, post (-1) 0 (nI n) (nI k) gbi gab (nI t0) ghv gic gnd gre gse glv gal gno gna)
    (h2 : l < lev v → n + cn C n ≤ 60 → k + cn D k ≤ 32 → ∀ gbi' gab' t' th' tic' ghv' gic' gnd gre gse glv gal gno gna, biOK (n + cn C n) gbi' (biX n C lev bi n) → biOK (k + cn D k) gab' (biX k D alev ab k) → rpI n k t0 th tic tbe gbe C D (fun c a => C c = true ∧ hN n nu fhd c a) (fun c j => C c = true ∧ iN n nu fin c j) t' th' tic' ghv' gic' → post (nI (vfN n C (nu v))) 0 (nI (n + cn C n)) (nI (k + cn D k)) gbi' gab' (nI t') ghv' gic' gnd gre gse glv gal gno gna) :
    S_X4_copy (nI v) (nI l) xth (nI n) (nI k) (nI t0) gbi gab ghv gic gbe gnd gre gse glv gal gno gna post := by
  have o1 := ok.1
  have o2 := ok.2.1
  obtain ⟨c1, c2, c3, c4, c5⟩ := id cf
  have hCn : ∀ c, C c = true → c < n := fun c q => ((c4 c).mp q).1
  have cv := cl31 (show v < 2 ^ 31 by omega)
  have bnv := (c1 v hv).2.1
  have bC := cn_le C n
  have bD := cn_le D k
  have vb : ∀ i, i < n → vfN n C i < 2 ^ 31 := fun i hi => by have := vf_lt (C := C) hi; omega
  have vbD : ∀ a, a < k → vfN k D a < 2 ^ 31 := fun a haa => by have := vf_lt (C := D) haa; omega
  have rl := RT_relT (k := k) o1 o2 rt ft
  intro E K29 K70 K136 K149 K280 K323 K367 h29 h70 h136 h149 h280 h323 h367 hE
  apply hE
  refine isV_ok hv o1 (lev_ok hl (go11 (gone (h29 _ _ _ _ _ _ _ _ _ _ _ _ _ _ _ ?_))))
  refine sp_workOut ok hb ha rl (fun gnd gre gse glv gal w1 => ⟨in60 (by omega), ?_⟩)
  have hlv : ∀ i, i < n → glv i = nI (lev i) := by
    intro i hi
    obtain ⟨mm, em, hm⟩ := w1.2.2.2.1 i hi
    rw [em, isMin_uniq hm (c2 i hi).1]
  have hal : ∀ a, a < k → gal a = nI (alev a) := by
    intro a haa
    obtain ⟨mm, em, hm⟩ := w1.2.2.2.2 a haa
    rw [em, isMin_uniq hm (c3 a haa).1]
  have hgn : ∀ u, u < n → gnd u = nI (nu u) ∧ nu u ≤ u ∧ nu (nu u) = nu u := fun u hu => ⟨by rw [w1.1 u hu]; exact (c1 u hu).1, (c1 u hu).2⟩
  have blv := (c2 v hv).2
  rw [cv, hlv v hv, nI_ltI (by omega) (by omega)]
  refine ⟨fun hlt => ?_, fun hge => by rw [w1.1 v hv]; exact h0 (by omega) _ _ _ _ _⟩
  -- the copies are told of
  have fifth : ∀ gbi' gab' gno' gna', n + cn C n ≤ 60 → k + cn D k ≤ 32 → biOK (n + cn C n) gbi' (biX n C lev bi n) → biOK (k + cn D k) gab' (biX k D alev ab k) → (∀ j, j < n → gno' j = gnV n C j) → (∀ a, a < k → gna' a = gnV k D a) → K367 (nI n) (nI k) 0 0 (nI (n + cn C n)) (nI (k + cn D k)) gbi' gab' (nI t0) ghv gic gnd gre gse glv gal gno' gna' := by
    intro gbi' gab' gno' gna' hN6 hK3 hbi' hab' hgno hgna
    have key := dn (P := fun i => ∀ t' th' tic' ghv' gic', rpI n k t0 th tic tbe gbe C D (fun c a => c < i ∧ C c = true ∧ hN n nu fhd c a) (fun c j => c < i ∧ C c = true ∧ iN n nu fin c j) t' th' tic' ghv' gic' → K367 (nI n) (nI k) (nI i) 0 (nI (n + cn C n)) (nI (k + cn D k)) gbi' gab' (nI t') ghv' gic' gnd gre gse glv gal gno' gna') n (by
      intro t' th' tic' ghv' gic' hr
      apply h367
      refine hd_eq ⟨in60 (by omega), ?_⟩
      have hCv : C (nu v) = true := by
        rw [c4]
        have hm : nu v < n := by omega
        have e : fnu v = fnu (nu v) := by rw [(c1 v hv).1, (c1 _ hm).1, (c1 v hv).2.2]
        exact ⟨hm, (c1 v hv).2.2, ok_nu_re ok hv hv hm e (ok_self ok hv), by rw [lev_nu ok c1 c2 hv]; exact hlt⟩
      rw [cv, (hgn v hv).1, cl31 (show nu v < 2 ^ 31 by omega), hgno (nu v) (by omega), gnV_t hCv]
      refine ⟨in60 (by omega), h2 hlt hN6 hK3 _ _ _ th' tic' _ _ _ _ _ _ _ _ _ hbi' hab' (rpI_same hr (fun c a => ?_) (fun c a => ?_))⟩
      · exact ⟨fun r => r.2, fun r => ⟨hCn c r.1, r⟩⟩
      · exact ⟨fun r => r.2, fun r => ⟨hCn c r.1, r⟩⟩) (by
      intro i hi ih t' th' tic' ghv' gic' hr
      apply h367
      refine hd_lt hi (by omega) ⟨in60 (by omega), ?_⟩
      rw [cl31 (show i < 2 ^ 31 by omega), hgno i hi, gnV_iff (vb i hi)]
      refine ⟨fun c => nx_i (ih _ th' tic' _ _ (rpI_same hr (fun c' a => ?_) (fun c' a => ?_))), fun c => ?_⟩
      · constructor
        · rintro ⟨r, r2⟩; exact ⟨by omega, r2⟩
        · rintro ⟨r, r2⟩
          have : c' ≠ i := fun e => c (e ▸ r2.1)
          exact ⟨by omega, r2⟩
      · constructor
        · rintro ⟨r, r2⟩; exact ⟨by omega, r2⟩
        · rintro ⟨r, r2⟩
          have : c' ≠ i := fun e => c (e ▸ r2.1)
          exact ⟨by omega, r2⟩
      · have hCi := Classical.not_not.mp c
        refine sp_copyNode o1 o2 hN6 hK3 hCn hgn hgno hgna ft ok.2.2.1 hCi hr (fun t2 th2 tic2 ghv2 gic2 hr2 => nx_i (ih _ th2 tic2 _ _ (rpI_same hr2 (fun c' a => ?_) (fun c' a => ?_))))
        · constructor
          · rintro (⟨r, r2⟩ | ⟨r, r2⟩)
            · exact ⟨by omega, r2⟩
            · subst r; exact ⟨by omega, hCi, r2⟩
          · rintro ⟨r, r2, r3⟩
            by_cases e : c' = i
            · subst e; exact Or.inr ⟨rfl, r3⟩
            · exact Or.inl ⟨by omega, r2, r3⟩
        · constructor
          · rintro (⟨r, r2⟩ | ⟨r, r2⟩)
            · exact ⟨by omega, r2⟩
            · subst r; exact ⟨by omega, hCi, r2⟩
          · rintro ⟨r, r2, r3⟩
            by_cases e : c' = i
            · subst e; exact Or.inr ⟨rfl, r3⟩
            · exact Or.inl ⟨by omega, r2, r3⟩)
    refine key 0 (by omega) t0 th tic ghv gic ⟨rt, extT_refl _ _ _ _, fun i => ⟨Or.inl, ?_⟩, fun i => ⟨Or.inl, ?_⟩, fun c a q => q.2.1, fun c a q => q.2.1⟩
    · rintro (q | ⟨c, a, ⟨q, _⟩, _⟩)
      · exact q
      · omega
    · rintro (q | ⟨c, a, ⟨q, _⟩, _⟩)
      · exact q
      · omega
  -- atoms are made
  have fourth : ∀ gbi' gno' gna', n + cn C n ≤ 60 → k + cn D k ≤ 32 → biOK (n + cn C n) gbi' (biX n C lev bi n) → (∀ j, j < n → gno' j = gnV n C j) → (∀ a, a < k → gna' a = gnV k D a) → K323 (nI n) (nI k) 0 0 (nI (n + cn C n)) (nI k) gbi' gab (nI t0) ghv gic gnd gre gse glv gal gno' gna' := by
    intro gbi' gno' gna' hN6 hK3 hbi' hgno hgna
    have key := dn (P := fun a => ∀ gab', biOK (k + cn D a) gab' (biX k D alev ab a) → K323 (nI n) (nI k) (nI a) 0 (nI (n + cn C n)) (nI (k + cn D a)) gbi' gab' (nI t0) ghv gic gnd gre gse glv gal gno' gna') k (by
      intro gab' hab'
      apply h323
      exact hd_eq (fifth _ _ _ _ hN6 hK3 hbi' hab' hgno hgna)) (by
      intro a haa ih gab' hab'
      apply h323
      refine hd_lt haa (by omega) ⟨in32 (by omega), ?_⟩
      rw [cl31 (show a < 2 ^ 31 by omega), hgna a haa, gnV_iff (vbD a haa), hal a haa]
      refine ⟨fun c => ?_, fun c => nx_i ?_⟩
      · have hD := Classical.not_not.mp c
        have := cn_below haa hD
        refine sp_newAtom (by omega) (nx_i ?_)
        have q := ih _ (biX_ok hD (c3 a haa).2 hab')
        rw [cn_t hD] at q
        exact q
      · have q := ih _ (biX_skip c hab')
        rw [cn_f c] at q
        exact q)
    exact key 0 (by omega) gab ha
  -- variables are made
  have third : ∀ gno' gna', n + cn C n ≤ 60 → k + cn D k ≤ 32 → (∀ j, j < n → gno' j = gnV n C j) → (∀ a, a < k → gna' a = gnV k D a) → K280 (nI n) (nI k) 0 0 (nI n) (nI k) gbi gab (nI t0) ghv gic gnd gre gse glv gal gno' gna' := by
    intro gno' gna' hN6 hK3 hgno hgna
    have key := dn (P := fun i => ∀ gbi', biOK (n + cn C i) gbi' (biX n C lev bi i) → K280 (nI n) (nI k) (nI i) 0 (nI (n + cn C i)) (nI k) gbi' gab (nI t0) ghv gic gnd gre gse glv gal gno' gna') n (by
      intro gbi' hbi'
      apply h280
      exact hd_eq (fourth _ _ _ hN6 hK3 hbi' hgno hgna)) (by
      intro i hi ih gbi' hbi'
      apply h280
      refine hd_lt hi (by omega) ⟨in60 (by omega), ?_⟩
      rw [cl31 (show i < 2 ^ 31 by omega), hgno i hi, gnV_iff (vb i hi), hlv i hi]
      refine ⟨fun c => ?_, fun c => nx_i ?_⟩
      · have hCi := Classical.not_not.mp c
        have := cn_below hi hCi
        refine sp_newVariable (by omega) (nx_i ?_)
        have q := ih _ (biX_ok hCi (c2 i hi).2 hbi')
        rw [cn_t hCi] at q
        exact q
      · have q := ih _ (biX_skip c hbi')
        rw [cn_f c] at q
        exact q)
    exact key 0 (by omega) gbi hb
  -- which atoms
  have second : ∀ gno', (∀ j, j < n → gno' j = gnV n C j) → K136 (nI n) (nI k) (nI (n + cn C n)) (nI k) 0 0 (nI n) (nI k) gbi gab (nI t0) ghv gic gnd gre gse glv gal gno' gna := by
    intro gno' hgno
    have key := dn (P := fun a => ∀ gna', (∀ b, b < a → gna' b = gnV k D b) → K136 (nI n) (nI k) (nI (n + cn C n)) (nI (k + cn D a)) (nI a) 0 (nI n) (nI k) gbi gab (nI t0) ghv gic gnd gre gse glv gal gno' gna') k (by
      intro gna' hgna
      apply h136
      refine hd_eq ?_
      rw [show (60 : Int32) = nI 60 from rfl, show (32 : Int32) = nI 32 from rfl, nI_ltI (by omega) (by omega), nI_leI (by omega) (by omega)]
      exact ⟨fun c => h1 hlt (by omega) _ _ _ _ _ _ _, fun c => ⟨fun c' => third _ _ (by omega) (by omega) hgno hgna, fun c' => h1 hlt (by omega) _ _ _ _ _ _ _⟩⟩) (by
      intro a haa ih gna' hgna
      apply h136
      refine hd_lt haa (by omega) ?_
      have ca := cl31 (show a < 2 ^ 31 by omega)
      have put1 : ∀ x : Int32, x = gnV k D a → ∀ b, b < a + 1 → upd gna' a x b = gnV k D b := by
        intro x hx b hbb
        by_cases e : b = a
        · rw [e, upd_at]; exact hx
        · rw [upd_ne e]; exact hgna b (by omega)
      have setNone : ¬ D a = true → (¬ upd gna' a (-1) a = -1 → ∀ y : Int32, y = nI (k + cn D a) + 1 → ∀ z : Int32, z = nI a + 1 → K136 (nI n) (nI k) (nI (n + cn C n)) y z 0 (nI n) (nI k) gbi gab (nI t0) ghv gic gnd gre gse glv gal gno' (upd gna' a (-1))) ∧ (upd gna' a (-1) a = -1 → ∀ y : Int32, y = nI (k + cn D a) + 0 → ∀ z : Int32, z = nI a + 1 → K136 (nI n) (nI k) (nI (n + cn C n)) y z 0 (nI n) (nI k) gbi gab (nI t0) ghv gic gnd gre gse glv gal gno' (upd gna' a (-1))) := by
        intro hD
        refine ⟨fun c => absurd upd_at c, fun _ => nm_r (nI_add _ 0) (nx_i ?_)⟩
        have q := ih _ (put1 (-1) (gnV_f hD).symm)
        rw [cn_f hD] at q
        exact q
      have setNew : D a = true → (¬ upd gna' a (nI (k + cn D a)) a = -1 → ∀ y : Int32, y = nI (k + cn D a) + 1 → ∀ z : Int32, z = nI a + 1 → K136 (nI n) (nI k) (nI (n + cn C n)) y z 0 (nI n) (nI k) gbi gab (nI t0) ghv gic gnd gre gse glv gal gno' (upd gna' a (nI (k + cn D a)))) ∧ (upd gna' a (nI (k + cn D a)) a = -1 → ∀ y : Int32, y = nI (k + cn D a) + 0 → ∀ z : Int32, z = nI a + 1 → K136 (nI n) (nI k) (nI (n + cn C n)) y z 0 (nI n) (nI k) gbi gab (nI t0) ghv gic gnd gre gse glv gal gno' (upd gna' a (nI (k + cn D a)))) := by
        intro hD
        have hlt2 := cn_below haa hD
        refine ⟨fun _ => nx_i (nx_i ?_), fun c => ?_⟩
        · have q := ih _ (put1 (nI (k + cn D a)) (by rw [gnV_t hD, vf_t hD]))
          rw [cn_t hD] at q
          exact q
        · rw [upd_at] at c
          exact absurd c (ne_m1 (by omega))
      have bal := (c3 a haa).2
      have inn := dn (P := fun w => ∀ x8 : Int32, ((x8 = 0 ∧ ¬ ∃ u, u < w ∧ C (nu u) = true ∧ ti (fhd u) a = true) ∨ (x8 = 1 ∧ ∃ u, u < w ∧ C (nu u) = true ∧ ti (fhd u) a = true)) → K149 (nI n) (nI k) (nI (n + cn C n)) (nI (k + cn D a)) (nI a) x8 (nI w) 0 (nI n) (nI k) gbi gab (nI t0) ghv gic gnd gre gse glv gal gno' gna') n (by
        intro x8 h8
        apply h149
        refine hd_eq ?_
        rw [ca, hal a haa, nI_leI (by omega) (by omega)]
        rcases h8 with ⟨rfl, hno⟩ | ⟨rfl, hyes⟩
        · exact gzer' ⟨in32 (by omega), setNone (fun q => hno ((c5 a).mp q).2.1)⟩
        · refine gone' ⟨in32 (by omega), fun c => setNone (fun q => by have := ((c5 a).mp q).2.2; omega), fun c => setNew ((c5 a).mpr ⟨haa, hyes, by omega⟩)⟩) (by
        intro w hw ihw x8 h8
        apply h149
        refine hd_lt hw (by omega) ?_
        have more : ∀ {P : Prop}, (∃ u, u < w ∧ C (nu u) = true ∧ ti (fhd u) a = true) → ∃ u, u < w + 1 ∧ C (nu u) = true ∧ ti (fhd u) a = true := fun ⟨u, q1, q2⟩ => ⟨u, by omega, q2⟩
        rcases h8 with ⟨rfl, hno⟩ | ⟨rfl, hyes⟩
        · refine gzer ?_
          have none : ¬ (C (nu w) = true ∧ ti (fhd w) a = true) → ¬ ∃ u, u < w + 1 ∧ C (nu u) = true ∧ ti (fhd u) a = true := by
            rintro q ⟨u, q1, q2⟩
            by_cases e : u = w
            · subst e; exact q q2
            · exact hno ⟨u, by omega, q2⟩
          have bw := (hgn w hw).2.1
          rw [ix32, cl31 (show 32 * w + a < 2 ^ 31 by omega), cl31 (show w < 2 ^ 31 by omega), (hgn w hw).1, cl31 (show nu w < 2 ^ 31 by omega), hgno (nu w) (by omega), gnV_iff (vb (nu w) (by omega))]
          refine ⟨vp_in_nI (by omega) (by decide), pos_br (rl.1 w a hw haa).symm (fun c => nx_i (ihw 0 (Or.inl ⟨rfl, none (fun q => c q.2)⟩))) (fun c => ⟨in60 (by omega), in60 (by omega), fun c' => nx_i (ihw 0 (Or.inl ⟨rfl, none (fun q => c' q.1)⟩)), fun c' => nx_i (ihw 1 (Or.inr ⟨rfl, w, by omega, Classical.not_not.mp c', c⟩))⟩)⟩
        · exact gone (nx_i (ihw 1 (Or.inr ⟨rfl, more (P := True) hyes⟩))))
      exact inn 0 (by omega) 0 (Or.inl ⟨rfl, fun ⟨u, q, _⟩ => absurd q (by omega)⟩))
    exact key 0 (by omega) gna (fun b hbb => absurd hbb (by omega))
  -- which nodes
  have first := dn (P := fun i => ∀ gno', (∀ j, j < i → gno' j = gnV n C j) → K70 (nI n) (nI k) (nI (n + cn C i)) (nI i) 0 (nI n) (nI k) gbi gab (nI t0) ghv gic gnd gre gse glv gal gno' gna) n (by
    intro gno' hgno
    apply h70
    exact hd_eq (second gno' hgno)) (by
    intro i hi ih gno' hgno
    apply h70
    refine hd_lt hi (by omega) ?_
    have put1 : ∀ x : Int32, x = gnV n C i → ∀ b, b < i + 1 → upd gno' i x b = gnV n C b := by
      intro x hx b hbb
      by_cases e : b = i
      · rw [e, upd_at]; exact hx
      · rw [upd_ne e]; exact hgno b (by omega)
    rw [cl31 (show i < 2 ^ 31 by omega)]
    refine sp_isCopied ok cf w1 hv hl hi (fun c => gzer' ⟨in60 (by omega), fun c' => absurd upd_at c', fun _ => nm_r (nI_add _ 0) (nx_i ?_)⟩) (fun c => gone' ⟨in60 (by omega), fun _ => nx_i (nx_i ?_), fun c' => ?_⟩)
    · have q := ih _ (put1 (-1) (gnV_f c).symm)
      rw [cn_f c] at q
      exact q
    · have q := ih _ (put1 (nI (n + cn C i)) (by rw [gnV_t c, vf_t c]))
      rw [cn_t c] at q
      exact q
    · rw [upd_at] at c'
      have := cn_below hi c
      exact absurd c' (ne_m1 (by omega)))
  exact first 0 (by omega) gno (fun j hj => absurd hj (by omega))
theorem li_6 (xs : Nat → Int32) (x4 : Int32) {mk : Int32} {nv : Int32} {na : Int32} {fbi : Nat → Int32} {fab : Nat → Int32} {fhd : Nat → Int32} {fin : Nat → Int64} {fjo : Nat → Int64} {fnu : Nat → Int32} {fre : Nat → Int64} {fse : Nat → Int32} {kv : Nat → NV} {fvf : Nat → Int32} {faf : Nat → Int32} {fla : Nat → Int64} {xth : Int32} {xnv : Int32} {xna : Int32} {xtl : Int32} {xmk : Int32} {gbi : Nat → Int32} {gab : Nat → Int32} {ghv : Nat → Int32} {gic : Nat → Int32} {gbe : Nat → Int32} {gmt : Nat → Int32} {gmv : Nat → Int32} {gma : Nat → Int32} {gnd : Nat → Int32} {gre : Nat → Int64} {gse : Nat → Int32} {glv : Nat → Int32} {gal : Nat → Int32} {gds : Nat → Int32} {gno : Nat → Int32} {gna : Nat → Int32} {gp3 : Nat → Int64} (hI : lawI mk nv na fbi fab fhd fin fjo fnu fre fse kv fvf faf fla xth xnv xna xtl xmk gbi gab ghv gic gbe gmt gmv gma gnd gre gse glv gal gds gno gna gp3) : T_law_6 xs x4 mk nv na fbi fab fhd fin fjo fnu fre fse kv fvf faf fla xth xnv xna xtl xmk gbi gab ghv gic gbe gmt gmv gma gnd gre gse glv gal gds gno gna gp3 lawI := by
  obtain ⟨n, k, t, m, bi, ab, th, tic, tbe, mt, mv, ma, e1, e2, e3, e4, e5, e6, e7, ok, b1, b2, b3, b4, rt, ft, mo⟩ := hI
  subst e1 e2 e3 e4 e5 e6 e7
  have o1 := ok.1
  have o2 := ok.2.1
  unfold T_law_6
  generalize xs (x4 + 1).toNatClampNeg = x
  generalize xs (x4 + 2).toNatClampNeg = z
  have stay : ∀ fvf faf xth gnd gre gse glv gal gno gna gp3, lawI (nI m) (nI n) (nI k) fbi fab fhd fin fjo fnu fre fse kv fvf faf fla xth (nI n) (nI k) (nI t) (nI m) gbi gab ghv gic gbe gmt gmv gma gnd gre gse glv gal gds gno gna gp3 := fun _ _ _ _ _ _ _ _ _ _ _ => ⟨n, k, t, m, bi, ab, th, tic, tbe, mt, mv, ma, rfl, rfl, rfl, rfl, rfl, rfl, rfl, ok, b1, b2, b3, b4, rt, ft, mo⟩
  intro E hE
  apply hE
  intro E hE
  apply hE
  rcases ixs x (n := n) (by omega) with ⟨v, hv, rfl⟩ | hx
  · refine reqV_ok hv o1 ?_
    rcases ixs z (n := 10) (by decide) with ⟨l, hl, rfl⟩ | hz
    · refine reqL_ok hl ?_
      obtain ⟨nu, lev, alev, C, D, cf⟩ := cpF_ex l v ok b1 b2
      refine sp_copyAbove ok b1 b2 hv hl cf (fun q => ⟨v01, ?_⟩) (fun q q2 => ⟨v01, ?_⟩) (fun q q2 q3 fvf' faf' fbi' fab' fhd' fin' fjo' fnu' fre' fse' d1 d2 d3 d4 hc => ⟨v01, ?_⟩)
      · exact sp_copyR ok b3 b4 rt ft hv hl cf (fun _ _ _ _ _ _ => tail0 rfl (stay _ _ _ _ _ _ _ _ _ _ _)) (fun r => absurd q (by omega)) (fun r => absurd q (by omega))
      · exact sp_copyR ok b3 b4 rt ft hv hl cf (fun r => absurd q (by omega)) (fun _ _ _ _ _ _ _ _ _ => tail0 rfl (stay _ _ _ _ _ _ _ _ _ _ _)) (fun _ r r2 => absurd ⟨r, r2⟩ q2)
      · refine sp_copyR ok b3 b4 rt ft hv hl cf (fun r => absurd q (by omega)) (fun _ r => absurd ⟨q2, q3⟩ r) (fun _ _ _ gbi' gab' t' th' tic' ghv' gic' _ _ _ _ _ _ _ e1 e2 hr => tail0 rfl ?_)
        obtain ⟨r1, r2, r3, r4, r5, r6⟩ := hr
        obtain ⟨p1, p2, p3, p4, p5⟩ := hc
        refine ⟨n + cn C n, k + cn D k, t', m, biX n C lev bi n, biX k D alev ab k, th', tic', tbe, mt, mv, ma, rfl, rfl, rfl, rfl, rfl, rfl, rfl, p1, d1, d2, e1, e2, r1, ⟨fun u b hu hbb => ?_, fun u w hu hw => ?_, fun u w hu hw => ?_⟩, marks_ext mo (by omega) (by omega) (fun u hu => biX_low hu n) (fun a haa => biX_low haa k) r2⟩
        · have hCn : ∀ c, C c = true → c < n := fun c q => ((cf.2.2.2.1 c).mp q).1
          have hak : ∀ c a, hN n nu fhd c a → a < k := fun c a ⟨u, hu, _, q⟩ => ok.2.2.1 u hu a q
          rw [r3, ft.1 u b hu hbb]
          constructor
          · rintro (s | ⟨c, a, s, e⟩)
            · exact ⟨by omega, (p2 u (by omega) b).mpr (Or.inl s)⟩
            · have h1 := vf_lt (C := C) (hCn c s.1)
              have h2 := vf_lt (C := D) (hak c a s.2)
              have e3 : u = vfN n C c := by omega
              have e4 : b = vfN k D a := by omega
              exact ⟨by omega, (p2 u (by omega) b).mpr (Or.inr ⟨c, a, s, e3.symm, e4.symm⟩)⟩
          · rintro ⟨s, s2⟩
            rcases (p2 u s b).mp s2 with s3 | ⟨c, a, s3, s4, s5⟩
            · exact Or.inl s3
            · exact Or.inr ⟨c, a, s3, by rw [s4, s5]⟩
        · have hCn : ∀ c, C c = true → c < n := fun c q => ((cf.2.2.2.1 c).mp q).1
          have hjn : ∀ c j, iN n nu fin c j → j < n := fun c j ⟨w, hw, _, q⟩ => by have := (cf.1 w hw).2.1; omega
          rw [r4, ft.2.1 u w hu hw]
          constructor
          · rintro (s | ⟨c, a, s, e⟩)
            · exact ⟨by omega, (p3 u (by omega) w).mpr (Or.inl s)⟩
            · have h1 := vf_lt (C := C) (hCn c s.1)
              have h2 := vf_lt (C := C) (hjn c a s.2)
              have e3 : u = vfN n C c := by omega
              have e4 : w = vfN n C a := by omega
              exact ⟨by omega, (p3 u (by omega) w).mpr (Or.inr ⟨c, a, s, e3.symm, e4.symm⟩)⟩
          · rintro ⟨s, s2⟩
            rcases (p3 u s w).mp s2 with s3 | ⟨c, a, s3, s4, s5⟩
            · exact Or.inl s3
            · exact Or.inr ⟨c, a, s3, by rw [s4, s5]⟩
        · rw [ft.2.2 u w hu hw]
          constructor
          · rintro ⟨s, s2⟩; exact ⟨by omega, by rw [d3 u s]; exact s2⟩
          · rintro ⟨s, s2⟩
            rcases Nat.lt_or_ge u n with r | r
            · rw [d3 u r] at s2; exact ⟨r, s2⟩
            · rw [d4 u r s, tl_0] at s2; cases s2
    · refine reqL_bad hz (Or.inr ⟨rfl, ?_⟩)
      intro E K29 K70 K136 K149 K280 K323 K367 h29 h70 h136 h149 h280 h323 h367 hE
      apply hE
      exact isV_ok hv o1 (lev_bad hz (go10 (gzer (tail1 (by decide) (stay _ _ _ _ _ _ _ _ _ _ _)))))
  · refine reqV_bad hx (Or.inl ⟨rfl, ?_⟩)
    intro E K29 K70 K136 K149 K280 K323 K367 h29 h70 h136 h149 h280 h323 h367 hE
    apply hE
    refine isV_bad hx ⟨fun _ => go01 (gzer (tail1 (by decide) (stay _ _ _ _ _ _ _ _ _ _ _))), fun _ => ⟨fun _ => go01 (gzer (tail1 (by decide) (stay _ _ _ _ _ _ _ _ _ _ _))), fun _ => go01 (gzer (tail1 (by decide) (stay _ _ _ _ _ _ _ _ _ _ _)))⟩⟩

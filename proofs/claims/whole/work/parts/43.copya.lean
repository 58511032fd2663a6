/-! copy: what is made anew -/
theorem cn_up {f : Nat → Bool} {a b : Nat} (h : a ≤ b) : cn f a ≤ cn f b := by
  obtain ⟨d, rfl⟩ : ∃ d, b = a + d := ⟨b - a, by omega⟩
  rw [cn_add]; omega
theorem cn_below {f : Nat → Bool} {i n : Nat} (hi : i < n) (h : f i = true) : cn f i < cn f n := by
  have := cn_up (f := f) (show i + 1 ≤ n by omega)
  rw [cn_t h] at this
  omega
theorem isMin_shrink {P : Nat → Prop} {f : Nat → Nat} {n n' c m : Nat} (hn : n ≤ n') (h : isMin P f n' c m) (hno : ∀ w, n ≤ w → w < n' → ¬ P w) : isMin P f n c m := by
  obtain ⟨h1, h2, h3⟩ := h
  refine ⟨?_, h2, fun w hw => h3 w (by omega)⟩
  rcases h1 with e | ⟨w, hw, hp, e⟩
  · exact Or.inl e
  · rcases Nat.lt_or_ge w n with q | q
    · exact Or.inr ⟨w, q, hp, e⟩
    · exact absurd hp (hno w q hw)
/-- the number of a copy, or one's own -/
def vfN (n : Nat) (C : Nat → Bool) (i : Nat) : Nat := if C i then n + cn C i else i
theorem vf_t {n : Nat} {C : Nat → Bool} {i : Nat} (h : C i = true) : vfN n C i = n + cn C i := by unfold vfN; rw [if_pos h]
theorem vf_f {n : Nat} {C : Nat → Bool} {i : Nat} (h : ¬ C i = true) : vfN n C i = i := by unfold vfN; rw [if_neg h]
theorem vf_lt {n : Nat} {C : Nat → Bool} {i : Nat} (hi : i < n) : vfN n C i < n + cn C n := by
  by_cases h : C i = true
  · rw [vf_t h]; have := cn_below hi h; omega
  · rw [vf_f h]; omega
/-- births as the copies are made -/
def biX (n : Nat) (C : Nat → Bool) (lev bi : Nat → Nat) : Nat → Nat → Nat
  | 0 => bi
  | i + 1 => if C i then put (biX n C lev bi i) (n + cn C i) (lev i) else biX n C lev bi i
theorem biX_low {n : Nat} {C : Nat → Bool} {lev bi : Nat → Nat} {u : Nat} (hu : u < n) : ∀ i, biX n C lev bi i u = bi u
  | 0 => rfl
  | i + 1 => by
    unfold biX
    by_cases h : C i = true
    · rw [if_pos h, put_ne (by omega)]; exact biX_low hu i
    · rw [if_neg h]; exact biX_low hu i
theorem biX_ok {n i : Nat} {C : Nat → Bool} {lev bi : Nat → Nat} {f : Nat → Int32} (h : C i = true) (hl : lev i < 10) (hb : biOK (n + cn C i) f (biX n C lev bi i)) : biOK (n + cn C (i + 1)) (upd f (n + cn C i) (nI (lev i))) (biX n C lev bi (i + 1)) := by
  rw [cn_t h, ← Nat.add_assoc]
  unfold biX
  rw [if_pos h]
  exact biOK_put hb hl
theorem biX_skip {n i : Nat} {C : Nat → Bool} {lev bi : Nat → Nat} {f : Nat → Int32} (h : ¬ C i = true) (hb : biOK (n + cn C i) f (biX n C lev bi i)) : biOK (n + cn C (i + 1)) f (biX n C lev bi (i + 1)) := by
  rw [cn_f h]
  unfold biX
  rw [if_neg h]
  exact hb
/-- what is copied: nodes C, atoms D -/
def cpF (n k l v : Nat) (nu lev alev bi ab : Nat → Nat) (C D : Nat → Bool) (fhd : Nat → Int32) (fnu : Nat → Int32) (fre : Nat → Int64) (fse : Nat → Int32) : Prop :=
  (∀ u, u < n → fnu u = nI (nu u) ∧ nu u ≤ u ∧ nu (nu u) = nu u) ∧ (∀ u, u < n → isLev n fre bi u (lev u) ∧ lev u < 10) ∧ (∀ a, a < k → isALev n fse bi ab a (alev a) ∧ alev a < 10) ∧
  (∀ i, C i = true ↔ i < n ∧ nu i = i ∧ tl (fre v) i = true ∧ l < lev i) ∧
  (∀ a, D a = true ↔ a < k ∧ (∃ u, u < n ∧ C (nu u) = true ∧ ti (fhd u) a = true) ∧ l < alev a)
theorem lev_ex {n k : Nat} {bi : Nat → Nat} {fhd : Nat → Int32} {fin fjo : Nat → Int64} {fbi fnu : Nat → Int32} {fre : Nat → Int64} {fse : Nat → Int32} (ok : netOK n k fhd fin fjo fnu fre fse) (hb : biOK n fbi bi) {v : Nat} (hv : v < n) : ∃ m, isLev n fre bi v m ∧ m < 10 := by
  have key : ∀ j, ∃ m, isMin (fun w => tl (fre w) v = true) bi j 10 m := by
    intro j
    induction j with
    | zero => exact ⟨10, isMin_0 _ _ _⟩
    | succ j ih =>
      obtain ⟨m, hm⟩ := ih
      by_cases q : tl (fre j) v = true
      · exact ⟨_, isMin_step hm q⟩
      · exact ⟨m, isMin_skip hm q⟩
  obtain ⟨m, hm⟩ := key n
  refine ⟨m, hm, ?_⟩
  have := hm.2.2 v hv (ok_self ok hv)
  have := (hb v hv).2
  omega
theorem alev_ex {n k : Nat} {bi ab : Nat → Nat} {fab : Nat → Int32} {fse : Nat → Int32} (hb : biOK k fab ab) {a : Nat} (ha : a < k) : ∃ m, isALev n fse bi ab a m ∧ m < 10 := by
  have key : ∀ j, ∃ m, isMin (fun w => ti (fse w) a = true) bi j (ab a) m := by
    intro j
    induction j with
    | zero => exact ⟨ab a, isMin_0 _ _ _⟩
    | succ j ih =>
      obtain ⟨m, hm⟩ := ih
      by_cases q : ti (fse j) a = true
      · exact ⟨_, isMin_step hm q⟩
      · exact ⟨m, isMin_skip hm q⟩
  obtain ⟨m, hm⟩ := key n
  refine ⟨m, hm, ?_⟩
  have := hm.2.1
  have := (hb a ha).2
  omega
theorem cpF_ex {n k : Nat} (l v : Nat) {bi ab : Nat → Nat} {fhd : Nat → Int32} {fin fjo : Nat → Int64} {fbi fab fnu : Nat → Int32} {fre : Nat → Int64} {fse : Nat → Int32} (ok : netOK n k fhd fin fjo fnu fre fse) (hb : biOK n fbi bi) (ha : biOK k fab ab) : ∃ (nu lev alev : Nat → Nat) (C D : Nat → Bool), cpF n k l v nu lev alev bi ab C D fhd fnu fre fse := by
  obtain ⟨nu, lr, rf⟩ := ringF_ex ok
  obtain ⟨lev, hlev⟩ := pick (n := n) (P := fun u m => isLev n fre bi u m ∧ m < 10) (fun u hu => lev_ex ok hb hu)
  obtain ⟨alev, halev⟩ := pick (n := k) (P := fun a m => isALev n fse bi ab a m ∧ m < 10) (fun a haa => alev_ex ha haa)
  obtain ⟨C, hC⟩ := boolOf (fun i => i < n ∧ nu i = i ∧ tl (fre v) i = true ∧ l < lev i)
  obtain ⟨D, hD⟩ := boolOf (fun a => a < k ∧ (∃ u, u < n ∧ C (nu u) = true ∧ ti (fhd u) a = true) ∧ l < alev a)
  exact ⟨nu, lev, alev, C, D, rf.1, hlev, halev, hC, hD⟩
/-- levels are those of nodes -/
theorem lev_nu {n k : Nat} {bi nu lev : Nat → Nat} {fhd : Nat → Int32} {fin fjo : Nat → Int64} {fnu : Nat → Int32} {fre : Nat → Int64} {fse : Nat → Int32} (ok : netOK n k fhd fin fjo fnu fre fse) (hnu : ∀ u, u < n → fnu u = nI (nu u) ∧ nu u ≤ u ∧ nu (nu u) = nu u) (hlev : ∀ u, u < n → isLev n fre bi u (lev u) ∧ lev u < 10) {u : Nat} (hu : u < n) : lev (nu u) = lev u := by
  have hm : nu u < n := by have := (hnu u hu).2.1; omega
  have e : fnu u = fnu (nu u) := by rw [(hnu u hu).1, (hnu _ hm).1, (hnu u hu).2.2]
  refine isMin_uniq (isMin_congr (fun w hw => ?_) (fun _ _ => rfl) (hlev _ hm).1) (hlev u hu).1
  exact ⟨fun q => ok_nu_re ok hw hm hu e.symm q, fun q => ok_nu_re ok hw hu hm e q⟩
/-- the net as variables are made -/
def cvI (n k : Nat) (C : Nat → Bool) (lev bi : Nat → Nat) (fhd : Nat → Int32) (fin fjo : Nat → Int64) (fnu : Nat → Int32) (fre : Nat → Int64) (fse : Nat → Int32) (i : Nat) (fbi' fhd' : Nat → Int32) (fin' fjo' : Nat → Int64) (fnu' : Nat → Int32) (fre' : Nat → Int64) (fse' : Nat → Int32) : Prop :=
  netOK (n + cn C i) k fhd' fin' fjo' fnu' fre' fse' ∧ biOK (n + cn C i) fbi' (biX n C lev bi i) ∧
  (∀ u, u < n → fhd' u = fhd u ∧ fin' u = fin u ∧ fjo' u = fjo u ∧ fnu' u = fnu u ∧ fre' u = fre u ∧ fse' u = fse u) ∧
  (∀ u, n ≤ u → u < n + cn C i → fhd' u = 0 ∧ fin' u = 0 ∧ fjo' u = 0 ∧ fnu' u = nI u ∧ (∀ b, tl (fre' u) b = decide (b = u)) ∧ fse' u = 0)
theorem sp_makeVariables {n k l v : Nat} {nu lev alev bi ab : Nat → Nat} {C D : Nat → Bool} {fvf fbi fhd : Nat → Int32} {fin fjo : Nat → Int64} {fnu : Nat → Int32} {fre : Nat → Int64} {fse : Nat → Int32} (ok : netOK n k fhd fin fjo fnu fre fse) (hb : biOK n fbi bi) (cf : cpF n k l v nu lev alev bi ab C D fhd fnu fre fse) {r : Int64} (hr : ∀ i, i < 60 → (tl r i = true ↔ C i = true)) (hroom : n + cn C n ≤ 60) {post : (Nat → Int32) → Int32 → (Nat → Int32) → (Nat → Int32) → (Nat → Int64) → (Nat → Int64) → (Nat → Int32) → (Nat → Int64) → (Nat → Int32) → Prop}
    (h : ∀ fvf' fbi' fhd' fin' fjo' fnu' fre' fse', (∀ i, i < n → fvf' i = nI (vfN n C i)) → cvI n k C lev bi fhd fin fjo fnu fre fse n fbi' fhd' fin' fjo' fnu' fre' fse' → post fvf' (nI (n + cn C n)) fbi' fhd' fin' fjo' fnu' fre' fse') : S_X0_makeVariables r (nI n) fvf fbi fhd fin fjo fnu fre fse post := by
  have o1 := ok.1
  intro E K hK hE
  apply hE
  have key := dn (P := fun i => ∀ fvf' fbi' fhd' fin' fjo' fnu' fre' fse', (∀ j, j < i → fvf' j = nI (vfN n C j)) → cvI n k C lev bi fhd fin fjo fnu fre fse i fbi' fhd' fin' fjo' fnu' fre' fse' → K (nI n) (nI i) fvf' (nI (n + cn C i)) fbi' fhd' fin' fjo' fnu' fre' fse') n (by
    intro fvf' fbi' fhd' fin' fjo' fnu' fre' fse' hv hI
    apply hK
    exact hd_eq (h _ _ _ _ _ _ _ _ hv hI)) (by
    intro i hi ih fvf' fbi' fhd' fin' fjo' fnu' fre' fse' hvf hI
    apply hK
    refine hd_lt hi (by omega) ?_
    have vfs : ∀ x : Int32, x = nI (vfN n C i) → ∀ j, j < i + 1 → upd fvf' i x j = nI (vfN n C j) := by
      intro x hx j hj
      by_cases e : j = i
      · rw [e, upd_at]; exact hx
      · rw [upd_ne e]; exact hvf j (by omega)
    refine sp_has (by omega) (fun c => ⟨in60 (by omega), nx_i ?_⟩) (fun c => ?_)
    · have hC : ¬ C i = true := fun q => by
        have := (hr i (by omega)).mpr q
        rw [c] at this
        cases this
      rw [cl31 (show i < 2 ^ 31 by omega)]
      have := ih (upd fvf' i (nI i)) fbi' fhd' fin' fjo' fnu' fre' fse' (vfs _ (by rw [vf_f hC])) (by
        obtain ⟨h1, h2, h3, h4⟩ := hI
        refine ⟨by rw [cn_f hC]; exact h1, biX_skip hC h2, h3, fun u hu hu2 => h4 u hu (by rw [cn_f hC] at hu2; exact hu2)⟩)
      rw [cn_f hC] at this
      exact this
    · have hC : C i = true := (hr i (by omega)).mp c
      have hlt := cn_below hi hC
      obtain ⟨h1, h2, h3, h4⟩ := hI
      refine sp_levelOf (by omega) (by omega) h2 (ok_self h1 (by omega)) (fun mm hm => ?_)
      have em : mm = lev i := by
        refine isMin_uniq (isMin_congr (fun w hw => ?_) (fun w hw => ?_) (isMin_shrink (show n ≤ n + cn C i by omega) hm (fun w hw hw2 => ?_))) (cf.2.1 i hi).1
        · rw [(h3 w hw).2.2.2.2.1]
        · exact biX_low hw i
        · rw [(h4 w hw hw2).2.2.2.2.1, decide_eq_true_iff]; omega
      rw [em]
      refine sp_addVariable (by omega) (fun q => absurd q (by omega)) (fun q y hy => ⟨in60 (by omega), nx_i ?_⟩)
      rw [cl31 (show i < 2 ^ 31 by omega)]
      have := ih (upd fvf' i (nI (n + cn C i))) (upd fbi' (n + cn C i) (nI (lev i))) (upd fhd' (n + cn C i) 0) (vp_updL fin' (n + cn C i) 0) (vp_updL fjo' (n + cn C i) 0) (upd fnu' (n + cn C i) (nI (n + cn C i))) (vp_updL fre' (n + cn C i) y) (upd fse' (n + cn C i) 0) (vfs _ (by rw [vf_t hC])) (by
        refine ⟨by rw [cn_t hC]; exact ok_var h1 q hy, biX_ok hC (cf.2.1 i hi).2 h2, fun u hu => ?_, fun u hu hu2 => ?_⟩
        · have e : u ≠ n + cn C i := by omega
          rw [upd_ne e, updL_ne e, updL_ne e, upd_ne e, updL_ne e, upd_ne e]
          exact h3 u hu
        · by_cases e : u = n + cn C i
          · subst e
            rw [upd_at, updL_at, updL_at, upd_at, updL_at, upd_at]
            exact ⟨rfl, rfl, rfl, rfl, hy, rfl⟩
          · rw [upd_ne e, updL_ne e, updL_ne e, upd_ne e, updL_ne e, upd_ne e]
            rw [cn_t hC] at hu2
            exact h4 u hu (by omega))
      rw [cn_t hC] at this
      exact this)
  refine key 0 (by omega) fvf fbi fhd fin fjo fnu fre fse (fun j hj => absurd hj (by omega)) ⟨ok, hb, fun u hu => ⟨rfl, rfl, rfl, rfl, rfl, rfl⟩, fun u hu hu2 => ?_⟩
  have : cn C 0 = 0 := rfl
  omega
theorem sp_makeAtoms {n k l v N : Nat} {nu lev alev bi ab bi' : Nat → Nat} {C D : Nat → Bool} {faf fbi' fab fhd : Nat → Int32} {fnu : Nat → Int32} {fre : Nat → Int64} {fse fse' : Nat → Int32} (hn : n ≤ N) (hN : N ≤ 60) (hk : k ≤ 32) (ha : biOK k fab ab) (hbi' : biOK N fbi' bi') (cf : cpF n k l v nu lev alev bi ab C D fhd fnu fre fse) (hlow : ∀ u, u < n → fse' u = fse u ∧ bi' u = bi u) (hhigh : ∀ u, n ≤ u → u < N → fse' u = 0) {r : Int32} (hr : ∀ i, i < 32 → (ti r i = true ↔ D i = true)) (hroom : k + cn D k ≤ 32) {post : (Nat → Int32) → Int32 → (Nat → Int32) → Prop}
    (h : ∀ faf' fab', (∀ i, i < k → faf' i = nI (vfN k D i)) → biOK (k + cn D k) fab' (biX k D alev ab k) → post faf' (nI (k + cn D k)) fab') : S_X0_makeAtoms r (nI N) (nI k) faf fbi' fab fse' post := by
  intro E K hK hE
  apply hE
  have key := dn (P := fun i => ∀ faf' fab', (∀ j, j < i → faf' j = nI (vfN k D j)) → biOK (k + cn D i) fab' (biX k D alev ab i) → K (nI k) (nI i) faf' (nI (k + cn D i)) fab') k (by
    intro faf' fab' hv hI
    apply hK
    exact hd_eq (h _ _ hv hI)) (by
    intro i hi ih faf' fab' hvf hI
    apply hK
    refine hd_lt hi (by omega) ?_
    have vfs : ∀ x : Int32, x = nI (vfN k D i) → ∀ j, j < i + 1 → upd faf' i x j = nI (vfN k D j) := by
      intro x hx j hj
      by_cases e : j = i
      · rw [e, upd_at]; exact hx
      · rw [upd_ne e]; exact hvf j (by omega)
    refine sp_hasA (by omega) (fun c => ⟨in32 (by omega), nx_i ?_⟩) (fun c => ?_)
    · have hD : ¬ D i = true := fun q => by
        have := (hr i (by omega)).mpr q
        rw [c] at this
        cases this
      rw [cl31 (show i < 2 ^ 31 by omega)]
      have := ih (upd faf' i (nI i)) fab' (vfs _ (by rw [vf_f hD])) (biX_skip hD hI)
      rw [cn_f hD] at this
      exact this
    · have hD : D i = true := (hr i (by omega)).mp c
      have hlt := cn_below hi hD
      refine sp_levelOfAtom hN (show k + cn D i ≤ 32 by omega) (show i < k + cn D i by omega) hbi' hI (fun mm hm => ?_)
      have em : mm = alev i := by
        have e1 : biX k D alev ab i i = ab i := biX_low hi i
        unfold isALev at hm
        rw [e1] at hm
        refine isMin_uniq (isMin_congr (fun w hw => ?_) (fun w hw => (hlow w hw).2) (isMin_shrink hn hm (fun w hw hw2 => ?_))) (cf.2.2.1 i hi).1
        · rw [(hlow w hw).1]
        · rw [hhigh w hw hw2, ti_0]; decide
      rw [em]
      refine sp_addAtom (by omega) (fun q => absurd q (by omega)) (fun q => ⟨in32 (by omega), nx_i ?_⟩)
      rw [cl31 (show i < 2 ^ 31 by omega)]
      have := ih (upd faf' i (nI (k + cn D i))) (upd fab' (k + cn D i) (nI (alev i))) (vfs _ (by rw [vf_t hD])) (biX_ok hD (cf.2.2.1 i hi).2 hI)
      rw [cn_t hD] at this
      exact this)
  exact key 0 (by omega) faf fab (fun j hj => absurd hj (by omega)) ha

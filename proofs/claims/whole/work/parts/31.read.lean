/-! what the class's reading methods find -/
theorem gI_add {Q : Nat → Nat → Prop} {a r : Int32} {u : Nat} (hI : ∀ i, ti a i = true ↔ ∃ v, v < u ∧ Q v i) (hr : ∀ i, ti r i = true ↔ Q u i) : ∀ i, ti (a ||| r) i = true ↔ ∃ v, v < u + 1 ∧ Q v i := by
  intro i
  rw [ti_or, Bool.or_eq_true, hI, hr]
  constructor
  · rintro (⟨v, h1, h2⟩ | h)
    · exact ⟨v, by omega, h2⟩
    · exact ⟨u, by omega, h⟩
  · rintro ⟨v, h1, h2⟩
    rcases Nat.lt_or_ge v u with q | q
    · exact Or.inl ⟨v, q, h2⟩
    · have : v = u := by omega
      rw [this] at h2
      exact Or.inr h2
theorem gL_add {Q : Nat → Nat → Prop} {a r : Int64} {u : Nat} (hI : ∀ i, tl a i = true ↔ ∃ v, v < u ∧ Q v i) (hr : ∀ i, tl r i = true ↔ Q u i) : ∀ i, tl (a ||| r) i = true ↔ ∃ v, v < u + 1 ∧ Q v i := by
  intro i
  rw [tl_or, Bool.or_eq_true, hI, hr]
  constructor
  · rintro (⟨v, h1, h2⟩ | h)
    · exact ⟨v, by omega, h2⟩
    · exact ⟨u, by omega, h⟩
  · rintro ⟨v, h1, h2⟩
    rcases Nat.lt_or_ge v u with q | q
    · exact Or.inl ⟨v, q, h2⟩
    · have : v = u := by omega
      rw [this] at h2
      exact Or.inr h2
theorem g_skip {Q : Nat → Nat → Prop} {A : Nat → Prop} {u : Nat} (hI : ∀ i, A i ↔ ∃ v, v < u ∧ Q v i) (hr : ∀ i, ¬ Q u i) : ∀ i, A i ↔ ∃ v, v < u + 1 ∧ Q v i := by
  intro i
  rw [hI]
  constructor
  · rintro ⟨v, h1, h2⟩
    exact ⟨v, by omega, h2⟩
  · rintro ⟨v, h1, h2⟩
    have : v ≠ u := fun e => hr i (e ▸ h2)
    exact ⟨v, by omega, h2⟩
theorem gI_0 {Q : Nat → Nat → Prop} : ∀ i, ti 0 i = true ↔ ∃ v, v < 0 ∧ Q v i := fun i => ⟨fun q => absurd q (by rw [ti_0]; decide), fun ⟨v, h, _⟩ => absurd h (by omega)⟩
theorem gL_0 {Q : Nat → Nat → Prop} : ∀ i, tl 0 i = true ↔ ∃ v, v < 0 ∧ Q v i := fun i => ⟨fun q => absurd q (by rw [tl_0]; decide), fun ⟨v, h, _⟩ => absurd h (by omega)⟩
theorem cn_s (f : Nat → Bool) (n : Nat) : cn f (n + 1) = cn f n + (if f n then 1 else 0) := rfl
theorem cn_t {f : Nat → Bool} {n : Nat} (h : f n = true) : cn f (n + 1) = cn f n + 1 := by rw [cn_s, h]; rfl
theorem cn_f {f : Nat → Bool} {n : Nat} (h : ¬ f n = true) : cn f (n + 1) = cn f n := by
  rw [cn_s, if_neg h, Nat.add_zero]
def isRing (fre : Nat → Int64) (u v : Nat) : Prop := tl (fre u) v = true ∧ tl (fre v) u = true
def isLR (fre : Nat → Int64) (v r : Nat) : Prop := r ≤ v ∧ isRing fre r v ∧ ∀ u, u < r → ¬ isRing fre u v
theorem isLR_uniq {fre : Nat → Int64} {v r r' : Nat} (h : isLR fre v r) (h' : isLR fre v r') : r = r' := by
  rcases Nat.lt_trichotomy r r' with q | q | q
  · exact absurd h.2.1 (h'.2.2 r q)
  · exact q
  · exact absurd h'.2.1 (h.2.2 r' q)
theorem lr_ex {fre : Nat → Int64} {v : Nat} (hv : tl (fre v) v = true) : ∃ r, isLR fre v r := by
  obtain ⟨r, h1, h2⟩ := pk_least (fun u => isRing fre u v) ⟨v, hv, hv⟩
  refine ⟨r, ?_, h1, h2⟩
  rcases Nat.lt_or_ge v r with q | q
  · exact absurd ⟨hv, hv⟩ (h2 v q)
  · exact q
theorem ring_b {fre : Nat → Int64} {u v : Nat} : isRing fre u v ↔ (tl (fre u) v && tl (fre v) u) = true := by unfold isRing; rw [Bool.and_eq_true]
theorem sp_ring1 {v w : Nat} (hv : v < 60) (hw : w < 60) {fre : Nat → Int64} {A B : Prop} (h0 : ¬ isRing fre v w → A) (h1 : isRing fre v w → B) : S_X1_inOneRing (nI v) (nI w) fre (fun r => (r = 0 → A) ∧ (¬ r = 0 → B)) := by
  refine sp_inOneRing hv hw (b01 (fun q => h0 (fun c => ?_)) (fun q => h1 (ring_b.mpr q)))
  rw [ring_b, q] at c
  cases c
theorem sp_leastOfRing {v r : Nat} (hv : v < 60) {fre : Nat → Int64} (hr : isLR fre v r) {post : Int32 → Prop} (h : post (nI r)) : S_X1_leastOfRing (nI v) fre post := by
  intro E K hK hE
  apply hE
  obtain ⟨h1, h2, h3⟩ := hr
  have key := dn (P := fun u => K (nI u)) r (by
    apply hK
    rcases Nat.lt_or_ge r v with q | q
    · exact hd_lt q (by omega) (sp_ring1 (by omega) hv (fun c => absurd h2 c) (fun _ => h))
    · have : r = v := by omega
      subst this
      exact hd_eq h) (by
    intro u hu ih
    apply hK
    exact hd_lt (show u < v by omega) (by omega) (sp_ring1 (by omega) hv (fun _ => nx_i ih) (fun c => absurd c (h3 u hu))))
  exact key 0 (by omega)
theorem sp_nodes {n : Nat} (hn : n ≤ 60) {fnu : Nat → Int32} {f : Nat → Bool} (hf : ∀ v, v < n → (f v = true ↔ fnu v = nI v)) {post : Int32 → Prop} (h : post (nI (cn f n))) : S_X1_nodes (nI n) fnu post := by
  intro E K hK hE
  apply hE
  have key := dn (P := fun u => K (nI (cn f u)) (nI u)) n (by
    apply hK
    exact hd_eq h) (by
    intro u hu ih
    apply hK
    refine hd_lt hu (by omega) ⟨in60 (by omega), ?_⟩
    rw [cl31 (show u < 2 ^ 31 by omega)]
    refine ⟨fun c => ?_, fun c => ?_⟩
    · rw [cn_f (fun q => c ((hf u hu).mp q))] at ih
      exact nx_i ih
    · rw [cn_t ((hf u hu).mpr c)] at ih
      exact nx_i (nx_i ih))
  exact key 0 (by omega)
theorem sp_rings {n : Nat} (hn : n ≤ 60) {fre : Nat → Int64} (hs : ∀ v, v < n → tl (fre v) v = true) {f : Nat → Bool} (hf : ∀ v, v < n → (f v = true ↔ isLR fre v v)) {post : Int32 → Prop} (h : post (nI (cn f n))) : S_X1_rings (nI n) fre post := by
  intro E K hK hE
  apply hE
  have key := dn (P := fun u => K (nI (cn f u)) (nI u)) n (by
    apply hK
    exact hd_eq h) (by
    intro u hu ih
    apply hK
    refine hd_lt hu (by omega) ?_
    obtain ⟨r, hr⟩ := lr_ex (hs u hu)
    have br := hr.1
    refine sp_leastOfRing (by omega) hr ⟨fun c => ?_, fun c => ?_⟩
    · rw [cn_f (fun q => c (by rw [isLR_uniq hr ((hf u hu).mp q)]))] at ih
      exact nx_i ih
    · rw [nI_eq (by omega) (by omega)] at c
      subst c
      rw [cn_t ((hf r hu).mpr hr)] at ih
      exact nx_i (nx_i ih))
  exact key 0 (by omega)
theorem sp_membersOf {n : Nat} (hn : n ≤ 60) {p : Int32} {fnu : Nat → Int32} {f : Nat → Bool} (hf : ∀ v, v < n → (f v = true ↔ fnu v = p)) {post : Int32 → Prop} (h : post (nI (cn f n))) : S_X1_membersOf p (nI n) fnu post := by
  intro E K hK hE
  apply hE
  have key := dn (P := fun u => K (nI (cn f u)) (nI u)) n (by
    apply hK
    exact hd_eq h) (by
    intro u hu ih
    apply hK
    refine hd_lt hu (by omega) ⟨in60 (by omega), ?_⟩
    rw [cl31 (show u < 2 ^ 31 by omega)]
    refine ⟨fun c => ?_, fun c => ?_⟩
    · rw [cn_f (fun q => c ((hf u hu).mp q))] at ih
      exact nx_i ih
    · rw [cn_t ((hf u hu).mpr c)] at ih
      exact nx_i (nx_i ih))
  exact key 0 (by omega)
theorem sp_setsWith {n a : Nat} (hn : n ≤ 60) (ha : a < 32) {fse : Nat → Int32} {post : Int32 → Prop} (h : post (nI (cn (fun v => ti (fse v) a) n))) : S_X1_setsWith (nI a) (nI n) fse post := by
  intro E K hK hE
  apply hE
  have key := dn (P := fun u => K (nI (cn (fun v => ti (fse v) a) u)) (nI u)) n (by
    apply hK
    exact hd_eq h) (by
    intro u hu ih
    apply hK
    refine hd_lt hu (by omega) ⟨in60 (by omega), ?_⟩
    rw [cl31 (show u < 2 ^ 31 by omega)]
    refine sp_hasA ha (fun c => ?_) (fun c => ?_)
    · rw [cn_f (by show ¬ ti (fse u) a = true; rw [c]; decide)] at ih
      exact nx_i ih
    · rw [cn_t (by show ti (fse u) a = true; exact c)] at ih
      exact nx_i (nx_i ih))
  exact key 0 (by omega)
theorem nI_min {b m : Nat} (hb : b < 2 ^ 31) (hm : m < 2 ^ 31) : (if nI b < nI m then nI b else nI m) = nI (if b < m then b else m) := by
  by_cases c : b < m
  · rw [if_pos c, if_pos ((nI_ltI hb hm).mpr c)]
  · rw [if_neg c, if_neg (fun q => c ((nI_ltI hb hm).mp q))]
theorem isMin_step {P : Nat → Prop} {f : Nat → Nat} {u c m : Nat} (h : isMin P f u c m) (hp : P u) : isMin P f (u + 1) c (if f u < m then f u else m) := by
  by_cases q : f u < m
  · rw [if_pos q]; exact isMin_low h hp (by omega)
  · rw [if_neg q]; exact isMin_high h (by omega)
theorem sp_levelOf {n v : Nat} (hn : n ≤ 60) (hv : v < n) {fbi : Nat → Int32} {bi : Nat → Nat} (hbi : biOK n fbi bi) {fre : Nat → Int64} (hs : tl (fre v) v = true) {post : Int32 → Prop} (h : ∀ m, isLev n fre bi v m → post (nI m)) : S_X1_levelOf (nI v) (nI n) fbi fre post := by
  intro E K hK hE
  apply hE
  refine ⟨in60 (by omega), ?_⟩
  rw [cl31 (show v < 2 ^ 31 by omega), (hbi v hv).1]
  refine nm_e ?_
  have key := dn (P := fun u => ∀ m, isMin (fun w => tl (fre w) v = true) bi u (bi v) m → K (nI m) (nI u)) n (by
    intro m hm
    apply hK
    refine hd_eq (h m ?_)
    have := (hbi v hv).2
    obtain ⟨h1, h2, h3⟩ := hm
    refine ⟨?_, by omega, h3⟩
    rcases h1 with e | e
    · exact Or.inr ⟨v, hv, hs, e.symm⟩
    · exact Or.inr e) (by
    intro u hu ih m hm
    apply hK
    refine hd_lt hu (by omega) ⟨in60 (by omega), ?_⟩
    rw [cl31 (show u < 2 ^ 31 by omega), (hbi u hu).1]
    have b0 := (hbi v hv).2
    have b1 := hm.2.1
    have b2 := (hbi u hu).2
    refine sp_has (by omega) (fun c => ?_) (fun c => ?_)
    · exact nx_i (ih m (isMin_skip hm (by rw [c]; decide)))
    · refine nm_r (nI_min (by omega) (by omega)) ?_
      exact nx_i (ih _ (isMin_step hm c)))
  exact key 0 (by omega) _ (isMin_0 _ _ _)
theorem sp_levelOfAtom {n k a : Nat} (hn : n ≤ 60) (hk : k ≤ 32) (ha : a < k) {fbi fab : Nat → Int32} {bi ab : Nat → Nat} (hbi : biOK n fbi bi) (hab : biOK k fab ab) {fse : Nat → Int32} {post : Int32 → Prop} (h : ∀ m, isALev n fse bi ab a m → post (nI m)) : S_X1_levelOfAtom (nI a) (nI n) fbi fab fse post := by
  intro E K hK hE
  apply hE
  refine ⟨in32 (by omega), ?_⟩
  rw [cl31 (show a < 2 ^ 31 by omega), (hab a ha).1]
  refine nm_e ?_
  have key := dn (P := fun u => ∀ m, isMin (fun w => ti (fse w) a = true) bi u (ab a) m → K (nI m) (nI u)) n (by
    intro m hm
    apply hK
    exact hd_eq (h m hm)) (by
    intro u hu ih m hm
    apply hK
    refine hd_lt hu (by omega) ⟨in60 (by omega), ?_⟩
    rw [cl31 (show u < 2 ^ 31 by omega), (hbi u hu).1]
    have b0 := (hab a ha).2
    have b1 := hm.2.1
    have b2 := (hbi u hu).2
    refine sp_hasA (by omega) (fun c => ?_) (fun c => ?_)
    · exact nx_i (ih m (isMin_skip hm (by rw [c]; decide)))
    · refine nm_r (nI_min (by omega) (by omega)) ?_
      exact nx_i (ih _ (isMin_step hm c)))
  exact key 0 (by omega) _ (isMin_0 _ _ _)
theorem sp_variablesUpTo {n : Nat} (hn : n ≤ 60) {L : Int32} {fbi : Nat → Int32} {fre : Nat → Int64} {post : Int64 → Prop} (h : ∀ r, (∀ i, tl r i = true ↔ ∃ u, u < n ∧ ¬ L < fbi u ∧ tl (fre u) i = true) → post r) : S_X1_variablesUpTo L (nI n) fbi fre post := by
  intro E K hK hE
  apply hE
  have key := dn (P := fun u => ∀ a, (∀ i, tl a i = true ↔ ∃ v, v < u ∧ (fun v i => ¬ L < fbi v ∧ tl (fre v) i = true) v i) → K a (nI u)) n (by
    intro a hI
    apply hK
    exact hd_eq (h a hI)) (by
    intro u hu ih a hI
    apply hK
    refine hd_lt hu (by omega) ⟨in60 (by omega), ?_⟩
    rw [cl31 (show u < 2 ^ 31 by omega)]
    refine ⟨fun c => nx_i (ih a (g_skip hI (fun i q => q.1 c))), fun c => nm_e (nx_i (ih _ (gL_add hI (fun i => ⟨fun q => ⟨c, q⟩, fun q => q.2⟩))))⟩)
  exact key 0 (by omega) 0 gL_0
theorem sp_atomsUpTo {n k : Nat} (hn : n ≤ 60) (hk : k ≤ 32) {L : Int32} {fbi fab fse : Nat → Int32} {post : Int32 → Prop} (h : ∀ r, (∀ i, ti r i = true ↔ (∃ u, u < n ∧ ¬ L < fbi u ∧ ti (fse u) i = true) ∨ (i < k ∧ ¬ L < fab i)) → post r) : S_X1_atomsUpTo L (nI n) (nI k) fbi fab fse post := by
  intro E K K39 hK hK39 hE
  apply hE
  have second := dn (P := fun b => ∀ a, (∀ i, ti a i = true ↔ (∃ u, u < n ∧ ¬ L < fbi u ∧ ti (fse u) i = true) ∨ (i < b ∧ ¬ L < fab i)) → K39 a (nI b)) k (by
    intro a hI
    apply hK39
    exact hd_eq (h a hI)) (by
    intro b hb ih a hI
    apply hK39
    refine hd_lt hb (by omega) ⟨in32 (by omega), ?_⟩
    rw [cl31 (show b < 2 ^ 31 by omega)]
    refine ⟨fun c => nx_i (ih a (fun i => (hI i).trans ?_)), fun c => nm_e (nx_i (ih _ (fun i => ?_)))⟩
    · constructor
      · rintro (q | ⟨q, q2⟩)
        · exact Or.inl q
        · exact Or.inr ⟨by omega, q2⟩
      · rintro (q | ⟨q, q2⟩)
        · exact Or.inl q
        · have : i ≠ b := fun e => q2 (e ▸ c)
          exact Or.inr ⟨by omega, q2⟩
    · rw [ti_or, Bool.or_eq_true, hI, ti_bit (by omega), decide_eq_true_iff]
      constructor
      · rintro ((q | ⟨q, q2⟩) | e)
        · exact Or.inl q
        · exact Or.inr ⟨by omega, q2⟩
        · rw [e]; exact Or.inr ⟨by omega, c⟩
      · rintro (q | ⟨q, q2⟩)
        · exact Or.inl (Or.inl q)
        · rcases Nat.lt_or_ge i b with q3 | q3
          · exact Or.inl (Or.inr ⟨q3, q2⟩)
          · exact Or.inr (by omega))
  have key := dn (P := fun u => ∀ a, (∀ i, ti a i = true ↔ ∃ v, v < u ∧ (fun v i => ¬ L < fbi v ∧ ti (fse v) i = true) v i) → K a (nI u)) n (by
    intro a hI
    apply hK
    refine hd_eq (second 0 (by omega) a (fun i => (hI i).trans ⟨Or.inl, ?_⟩))
    rintro (q | ⟨q, _⟩)
    · exact q
    · exact absurd q (by omega)) (by
    intro u hu ih a hI
    apply hK
    refine hd_lt hu (by omega) ⟨in60 (by omega), ?_⟩
    rw [cl31 (show u < 2 ^ 31 by omega)]
    refine ⟨fun c => nx_i (ih a (g_skip hI (fun i q => q.1 c))), fun c => nm_e (nx_i (ih _ (gI_add hI (fun i => ⟨fun q => ⟨c, q⟩, fun q => q.2⟩))))⟩)
  exact key 0 (by omega) 0 gI_0
theorem sp_hadByNodes {n : Nat} (hn : n ≤ 60) {x : Int64} {fhd fnu : Nat → Int32} {nu : Nat → Nat} (hf : ∀ v, v < n → fnu v = nI (nu v) ∧ nu v < 60) {post : Int32 → Prop} (h : ∀ r, (∀ i, ti r i = true ↔ ∃ u, u < n ∧ tl x (nu u) = true ∧ ti (fhd u) i = true) → post r) : S_X1_hadByNodes x (nI n) fhd fnu post := by
  intro E K hK hE
  apply hE
  have key := dn (P := fun u => ∀ a, (∀ i, ti a i = true ↔ ∃ v, v < u ∧ (fun v i => tl x (nu v) = true ∧ ti (fhd v) i = true) v i) → K a (nI u)) n (by
    intro a hI
    apply hK
    exact hd_eq (h a hI)) (by
    intro u hu ih a hI
    apply hK
    refine hd_lt hu (by omega) ⟨in60 (by omega), ?_⟩
    have b := (hf u hu).2
    rw [cl31 (show u < 2 ^ 31 by omega), (hf u hu).1]
    refine sp_has (by omega) (fun c => nx_i (ih a (g_skip hI (fun i q => ?_)))) (fun c => nm_e (nx_i (ih _ (gI_add hI (fun i => ⟨fun q => ⟨c, q⟩, fun q => q.2⟩)))))
    have := q.1
    rw [c] at this
    cases this)
  exact key 0 (by omega) 0 gI_0
theorem sp_nodesIncludedByNode {n p : Nat} (hn : n ≤ 60) (hp : p < 60) {fin : Nat → Int64} {fnu : Nat → Int32} {nu : Nat → Nat} (hf : ∀ v, v < n → fnu v = nI (nu v) ∧ nu v < 60) {post : Int64 → Prop} (h : ∀ r, (∀ i, tl r i = true ↔ ∃ w, w < n ∧ (∃ u, u < n ∧ nu u = p ∧ tl (fin u) w = true) ∧ nu w = i) → post r) : S_X1_nodesIncludedByNode (nI p) (nI n) fin fnu post := by
  intro E K hK hE
  apply hE
  have key := dn (P := fun u => ∀ a, (∀ i, tl a i = true ↔ ∃ v, v < u ∧ (fun v i => nu v = p ∧ tl (fin v) i = true) v i) → K a (nI u)) n (by
    intro a hI
    apply hK
    refine hd_eq (sp_nodesAmong hn hf (fun r hr => h r (fun i => (hr i).trans ?_)))
    constructor
    · rintro ⟨v, h1, h2, h3⟩; exact ⟨v, h1, (hI v).mp h2, h3⟩
    · rintro ⟨v, h1, h2, h3⟩; exact ⟨v, h1, (hI v).mpr h2, h3⟩) (by
    intro u hu ih a hI
    apply hK
    refine hd_lt hu (by omega) ⟨in60 (by omega), ?_⟩
    have b := (hf u hu).2
    rw [cl31 (show u < 2 ^ 31 by omega), (hf u hu).1, nI_eq (by omega) (by omega)]
    exact ⟨fun c => nx_i (ih a (g_skip hI (fun i q => c q.1))), fun c => nm_e (nx_i (ih _ (gL_add hI (fun i => ⟨fun q => ⟨c, q⟩, fun q => q.2⟩))))⟩)
  exact key 0 (by omega) 0 gL_0
theorem sp_holdersOf {n a : Nat} (hn : n ≤ 60) (ha : a < 32) {fhd : Nat → Int32} {post : Int64 → Prop} (h : ∀ r, (∀ i, tl r i = true ↔ ∃ u, u < n ∧ ti (fhd u) a = true ∧ u = i) → post r) : S_X1_holdersOf (nI a) (nI n) fhd post := by
  intro E K hK hE
  apply hE
  have key := dn (P := fun u => ∀ x, (∀ i, tl x i = true ↔ ∃ v, v < u ∧ (fun v i => ti (fhd v) a = true ∧ v = i) v i) → K x (nI u)) n (by
    intro x hI
    apply hK
    exact hd_eq (h x hI)) (by
    intro u hu ih x hI
    apply hK
    refine hd_lt hu (by omega) ⟨in60 (by omega), ?_⟩
    rw [cl31 (show u < 2 ^ 31 by omega)]
    refine sp_hasA ha (fun c => nx_i (ih x (g_skip hI (fun i q => ?_)))) (fun c => sp_bit (by omega) (fun r hr => nm_e (nx_i (ih _ (gL_add hI (fun i => ?_))))))
    · have := q.1
      rw [c] at this
      cases this
    · rw [hr, decide_eq_true_iff]
      exact ⟨fun q => ⟨c, q.symm⟩, fun q => q.2.symm⟩)
  exact key 0 (by omega) 0 gL_0
theorem some_bit {x y : Int64} : ¬ lg_cmp (x &&& y) 0 = 0 ↔ ∃ i, tl x i = true ∧ tl y i = true := by
  rw [lc_eq, tl_none]
  constructor
  · intro h
    obtain ⟨i, hi⟩ := Classical.not_forall.mp h
    obtain ⟨hi, h2⟩ := Classical.not_forall.mp hi
    rw [tl_and] at h2
    refine ⟨i, ?_⟩
    cases q : tl x i <;> cases q2 : tl y i <;> simp [q, q2] at h2 ⊢
  · rintro ⟨i, h1, h2⟩ c
    have := c i (tl_lt h1)
    rw [tl_and, h1, h2] at this
    cases this
theorem sp_leadingTo {n : Nat} (hn : n ≤ 60) {x : Int64} {fin fjo : Nat → Int64} {post : Int64 → Prop} (h : ∀ r, (∀ i, tl r i = true ↔ i < n ∧ ∃ w, stepB n fin fjo i w ∧ tl x w = true) → post r) : S_X1_leadingTo x (nI n) fin fjo post := by
  intro E K hK hE
  apply hE
  have key := dn (P := fun u => ∀ a, (∀ i, tl a i = true ↔ ∃ v, v < u ∧ (fun v i => (∃ w, stepB n fin fjo v w ∧ tl x w = true) ∧ v = i) v i) → K a (nI u)) n (by
    intro a hI
    apply hK
    refine hd_eq (h a (fun i => (hI i).trans ?_))
    constructor
    · rintro ⟨v, h1, h2, rfl⟩; exact ⟨h1, h2⟩
    · rintro ⟨h1, h2⟩; exact ⟨i, h1, h2, rfl⟩) (by
    intro u hu ih a hI
    apply hK
    refine hd_lt hu (by omega) ?_
    intro E2 hE2
    apply hE2
    refine ⟨in60 (by omega), ?_⟩
    rw [cl31 (show u < 2 ^ 31 by omega)]
    have hq : (∃ w, stepB n fin fjo u w ∧ tl x w = true) ↔ ¬ lg_cmp ((fin u ||| fjo u) &&& x) 0 = 0 := by
      rw [some_bit]
      constructor
      · rintro ⟨w, ⟨_, h1⟩, h2⟩
        exact ⟨w, by rw [tl_or, Bool.or_eq_true]; exact h1, h2⟩
      · rintro ⟨w, h1, h2⟩
        rw [tl_or, Bool.or_eq_true] at h1
        exact ⟨w, ⟨hu, h1⟩, h2⟩
    refine ⟨fun c => nx_i (ih a (g_skip hI (fun i q => absurd c (hq.mp q.1)))), fun c => sp_bit (by omega) (fun r hr => nm_e (nx_i (ih _ (gL_add hI (fun i => ?_)))))⟩
    rw [hr, decide_eq_true_iff]
    exact ⟨fun q => ⟨hq.mpr c, q.symm⟩, fun q => q.2.symm⟩)
  exact key 0 (by omega) 0 gL_0
/-- the reference's ring -/
theorem lr_num {n k : Nat} {fhd : Nat → Int32} {fin fjo : Nat → Int64} {fnu : Nat → Int32} {fre : Nat → Int64} {fse : Nat → Int32} (ok : netOK n k fhd fin fjo fnu fre fse) {v r : Nat} (hv : v < n) (h : isLR fre v r) : fnu r = nI r := by
  have hr : r < n := by have := h.1; omega
  obtain ⟨m, h1, h2, h3⟩ := ok_num ok hr
  have hm : m < n := by omega
  have e : fnu r = fnu m := by rw [h2, h3]
  have a1 := ok_nu_re ok hr hr hm e (ok_self ok hr)
  have a2 := ok_nu_re ok hm hm hr e.symm (ok_self ok hm)
  rcases Nat.lt_or_ge m r with q | q
  · exact absurd ⟨ok_trans ok hm a2 h.2.1.1, ok_trans ok hv h.2.1.2 a1⟩ (h.2.2 m q)
  · have : m = r := by omega
    rw [h2, this]
theorem sp_ring {n k : Nat} {bi ab : Nat → Nat} {fhd : Nat → Int32} {fin fjo : Nat → Int64} {fnu : Nat → Int32} {fre : Nat → Int64} {fse : Nat → Int32} {gnd : Nat → Int32} {gre : Nat → Int64} {gse glv gal : Nat → Int32} (ok : netOK n k fhd fin fjo fnu fre fse) (wo : woOK n k bi ab fnu fre fse gnd gre gse glv gal) {v r : Nat} (hv : v < n) (hr : isLR fre v r) {post : Int32 → Prop} (h : post (nI r)) : S_X4_ring (nI v) gnd gre post := by
  intro E K hK hE
  apply hE
  have o1 := ok.1
  have br := hr.1
  obtain ⟨mv, b1, ev, _⟩ := ok_num ok hv
  have cond : ∀ u, u < n → (isRing fre u v → post (fnu u)) → (¬ isRing fre u v → K (nI (u + 1))) → K (nI u) := by
    intro u hu hp hk
    apply hK
    refine ⟨in60 (by omega), in60 (by omega), ?_⟩
    obtain ⟨mu, b2, eu, _⟩ := ok_num ok hu
    rw [cl31 (show u < 2 ^ 31 by omega), cl31 (show v < 2 ^ 31 by omega), wo.1 v hv, wo.1 u hu, ev, eu]
    refine ⟨fun c => nx_i (hk ?_), fun c => ⟨fun c2 => ?_, fun c2 => nx_i (hk ?_)⟩⟩
    · intro q
      have := (wo_bit ok wo hu hv (by omega) ev).mpr q.1
      rw [(sar0 _ (by omega)).mp c] at this
      cases this
    · have q1 : tl (gre u) mv = true := by
        cases q : tl (gre u) mv
        · exact absurd ((sar0 _ (by omega)).mpr q) c
        · rfl
      have q2 : tl (gre v) mu = true := by
        cases q : tl (gre v) mu
        · exact absurd ((sar0 _ (by omega)).mpr q) c2
        · rfl
      have hring : isRing fre u v := ⟨(wo_bit ok wo hu hv (by omega) ev).mp q1, (wo_bit ok wo hv hu (by omega) eu).mp q2⟩
      have q3 := hp hring
      rw [eu] at q3
      exact q3
    · intro q
      have := (wo_bit ok wo hv hu (by omega) eu).mpr q.2
      rw [(sar0 _ (by omega)).mp c2] at this
      cases this
  have key := dn (P := fun u => K (nI u)) r (cond r (by omega) (fun _ => by rw [lr_num ok hv hr]; exact h) (fun c => absurd hr.2.1 c)) (fun u hu ih => cond u (by omega) (fun c => absurd c (hr.2.2 u hu)) (fun _ => ih))
  exact key 0 (by omega)

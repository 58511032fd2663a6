/-! way -/
def ldn (E : Nat → Nat → Prop) (H : Nat → Prop) : Nat → Nat → Prop
  | 0, u => H u
  | d + 1, u => ∃ w, E u w ∧ ldn E H d w
theorem ldn_path {E : Nat → Nat → Prop} {H : Nat → Prop} : ∀ d u, ldn E H d u ↔ ∃ w, pathN E d u w ∧ H w
  | 0, u => ⟨fun h => ⟨u, rfl, h⟩, fun ⟨w, e, h⟩ => by have e' : u = w := e; rw [e']; exact h⟩
  | d + 1, u => by
    constructor
    · rintro ⟨x, h1, h2⟩
      obtain ⟨w, h3, h4⟩ := (ldn_path d x).mp h2
      exact ⟨w, ⟨x, h1, h3⟩, h4⟩
    · rintro ⟨w, ⟨x, h1, h3⟩, h4⟩
      exact ⟨x, h1, (ldn_path d x).mpr ⟨w, h3, h4⟩⟩
def isD (E : Nat → Nat → Prop) (H : Nat → Prop) (u d : Nat) : Prop := ldn E H d u ∧ ∀ c, c < d → ¬ ldn E H c u
theorem isD_uniq {E : Nat → Nat → Prop} {H : Nat → Prop} {u d d' : Nat} (h : isD E H u d) (h' : isD E H u d') : d = d' := by
  rcases Nat.lt_trichotomy d d' with q | q | q
  · exact absurd h.1 (h'.2 d q)
  · exact q
  · exact absurd h'.1 (h.2 d' q)
theorem isD_ex {E : Nat → Nat → Prop} {H : Nat → Prop} {u d : Nat} (h : ldn E H d u) : ∃ c, c ≤ d ∧ isD E H u c := by
  obtain ⟨c, h1, h2⟩ := pk_least (fun c => ldn E H c u) ⟨d, h⟩
  refine ⟨c, ?_, h1, h2⟩
  rcases Nat.lt_or_ge d c with q | q
  · exact absurd h (h2 d q)
  · exact q
theorem isD_pred {E : Nat → Nat → Prop} {H : Nat → Prop} {u d : Nat} (h : isD E H u (d + 1)) : ∃ w, E u w ∧ isD E H w d := by
  obtain ⟨⟨w, h1, h2⟩, h3⟩ := h
  exact ⟨w, h1, h2, fun c hc q => h3 (c + 1) (by omega) ⟨w, h1, q⟩⟩
theorem isD_next {E : Nat → Nat → Prop} {H : Nat → Prop} {u w d : Nat} (h : isD E H u (d + 1)) (e : E u w) (q : ldn E H d w) : isD E H w d := ⟨q, fun c hc r => h.2 (c + 1) (by omega) ⟨w, e, r⟩⟩
theorem isD_lt {n : Nat} {E : Nat → Nat → Prop} {H : Nat → Prop} (hE : ∀ x y, E x y → x < n) (hH : ∀ x, H x → x < n) {u d : Nat} (h : isD E H u d) : u < n := by
  cases d with
  | zero => exact hH u h.1
  | succ d => obtain ⟨w, e, _⟩ := h.1; exact hE u w e
theorem isD_bound {n : Nat} {E : Nat → Nat → Prop} {H : Nat → Prop} (hE : ∀ x y, E x y → x < n) (hH : ∀ x, H x → x < n) {u d : Nat} (h : isD E H u d) : d + 1 ≤ n := by
  obtain ⟨g, hg⟩ := pick (n := n) (P := fun v c => ∀ c', isD E H v c' → c' = c) (fun v _ => by
    by_cases q : ∃ c, isD E H v c
    · obtain ⟨c, hc⟩ := q
      exact ⟨c, fun c' hc' => isD_uniq hc' hc⟩
    · exact ⟨0, fun c' hc' => absurd ⟨c', hc'⟩ q⟩)
  refine pig n g (d + 1) ?_
  have key : ∀ d u, isD E H u d → ∀ s, s < d + 1 → ∃ i, i < n ∧ g i = s := by
    intro d
    induction d with
    | zero =>
      intro u hu s hs
      have e : s = 0 := by omega
      have hun := isD_lt hE hH hu
      exact ⟨u, hun, by rw [e]; exact (hg u hun 0 hu).symm⟩
    | succ d ih =>
      intro u hu s hs
      rcases Nat.lt_or_ge s (d + 1) with q | q
      · obtain ⟨w, _, hw⟩ := isD_pred hu
        exact ih w hw s q
      · have e : s = d + 1 := by omega
        have hun := isD_lt hE hH hu
        exact ⟨u, hun, by rw [e]; exact (hg u hun (d + 1) hu).symm⟩
  exact key d u h
def isNext (E : Nat → Nat → Prop) (H : Nat → Prop) (u d w : Nat) : Prop := E u w ∧ isD E H w d ∧ ∀ i, i < w → ¬ (E u i ∧ isD E H i d)
theorem isNext_uniq {E : Nat → Nat → Prop} {H : Nat → Prop} {u d w w' : Nat} (h : isNext E H u d w) (h' : isNext E H u d w') : w = w' := by
  rcases Nat.lt_trichotomy w w' with q | q | q
  · exact absurd ⟨h.1, h.2.1⟩ (h'.2.2 w q)
  · exact q
  · exact absurd ⟨h'.1, h'.2.1⟩ (h.2.2 w' q)
theorem isNext_ex {E : Nat → Nat → Prop} {H : Nat → Prop} {u d : Nat} (h : isD E H u (d + 1)) : ∃ w, isNext E H u d w := by
  obtain ⟨w, h1, h2⟩ := isD_pred h
  obtain ⟨c, h3, h4⟩ := pk_least (fun c => E u c ∧ isD E H c d) ⟨w, h1, h2⟩
  exact ⟨c, h3.1, h3.2, h4⟩
def wy (E : Nat → Nat → Prop) (H : Nat → Prop) (D v : Nat) : Nat → Nat → Prop
  | 0, u => u = v
  | s + 1, u => ∃ w, wy E H D v s w ∧ isNext E H w (D - (s + 1)) u
theorem wy_uniq {E : Nat → Nat → Prop} {H : Nat → Prop} {D v : Nat} : ∀ s u u', wy E H D v s u → wy E H D v s u' → u = u'
  | 0, u, u', h, h' => by have a : u = v := h; have b : u' = v := h'; rw [a, b]
  | s + 1, u, u', h, h' => by
    obtain ⟨w, h1, h2⟩ := h
    obtain ⟨w', h3, h4⟩ := h'
    have e := wy_uniq s w w' h1 h3
    subst e
    exact isNext_uniq h2 h4
theorem ne_m1 {w : Nat} (h : w < 2 ^ 31) : ¬ nI w = -1 := by
  intro q
  have a := nI_toInt h
  rw [q] at a
  have : (-1 : Int32).toInt = -1 := by decide
  omega
/-- holders of atom a -/
def hdA (n a : Nat) (fhd : Nat → Int32) (u : Nat) : Prop := u < n ∧ ti (fhd u) a = true
theorem sp_lengthFrom {n v a : Nat} (hn : n ≤ 60) (hv : v < n) (ha : a < 32) {fla : Nat → Int64} {fhd : Nat → Int32} {fin fjo : Nat → Int64} {fse : Nat → Int32} (hse : ti (fse v) a = true ↔ ∃ d, ldn (stepB n fin fjo) (hdA n a fhd) d v) {post : Int32 → (Nat → Int64) → Prop}
    (h0 : (∀ d, ¬ isD (stepB n fin fjo) (hdA n a fhd) v d) → post 0 fla)
    (h1 : ∀ D, isD (stepB n fin fjo) (hdA n a fhd) v D → ∀ fla', (∀ d, d ≤ D → ∀ i, tl (fla' d) i = true ↔ ldn (stepB n fin fjo) (hdA n a fhd) d i) → post (nI (D + 1)) fla') : S_X2_lengthFrom (nI v) (nI a) (nI n) fla fhd fin fjo fse post := by
  intro E K hK hE
  apply hE
  refine ⟨in60 (by omega), ?_⟩
  rw [cl31 (show v < 2 ^ 31 by omega)]
  refine sp_containsAtom ha ?_
  cases q : ti (fse v) a
  · refine gzer (h0 (fun d hd => ?_))
    have := hse.mpr ⟨d, hd.1⟩
    rw [q] at this
    cases this
  · obtain ⟨d, hd⟩ := hse.mp q
    obtain ⟨D, _, hD⟩ := isD_ex hd
    have hb := isD_bound (n := n) (fun x y e => e.1) (fun x e => e.1) hD
    refine gone (sp_holdersOf hn ha (fun r hr => ?_))
    have key := dn (P := fun d => ∀ x f, (∀ i, tl x i = true ↔ ldn (stepB n fin fjo) (hdA n a fhd) d i) → (∀ c, c < d → ∀ i, tl (f c) i = true ↔ ldn (stepB n fin fjo) (hdA n a fhd) c i) → K x (nI d) f) D (by
      intro x f hx hf
      apply hK
      refine hd_lt (n := 60) (by omega) (by decide) ⟨in60 (by omega), ?_⟩
      rw [cl31 (show D < 2 ^ 31 by omega)]
      refine sp_has (by omega) (fun c => ?_) (fun _ => ?_)
      · have := (hx v).mpr hD.1
        rw [c] at this
        cases this
      · rw [nI_1]
        refine h1 D hD _ (fun c hc i => ?_)
        by_cases e : c = D
        · rw [e, updL_at]; exact hx i
        · rw [updL_ne e]; exact hf c (by omega) i) (by
      intro d hd ih x f hx hf
      apply hK
      refine hd_lt (n := 60) (by omega) (by decide) ⟨in60 (by omega), ?_⟩
      rw [cl31 (show d < 2 ^ 31 by omega)]
      refine sp_has (by omega) (fun _ => ?_) (fun c => absurd ((hx v).mp c) (hD.2 d hd))
      refine sp_leadingTo hn (fun r hr => nx_i (ih r _ (fun i => ?_) (fun c hc i => ?_)))
      · rw [hr i]
        constructor
        · rintro ⟨_, w, h2, h3⟩; exact ⟨w, h2, (hx w).mp h3⟩
        · rintro ⟨w, h2, h3⟩; exact ⟨h2.1, w, h2, (hx w).mpr h3⟩
      · by_cases e : c = d
        · rw [e, updL_at]; exact hx i
        · rw [updL_ne e]; exact hf c (by omega) i)
    refine key 0 (by omega) r fla (fun i => ?_) (fun c hc => absurd hc (by omega))
    rw [hr i]
    constructor
    · rintro ⟨u, h2, h3, rfl⟩; exact ⟨h2, h3⟩
    · rintro ⟨h2, h3⟩; exact ⟨i, h2, h3, rfl⟩
theorem sp_variableAt {n v D j : Nat} (hn : n ≤ 60) {H : Nat → Prop} {fla fin fjo : Nat → Int64} (hH : ∀ x, H x → x < n) (hlt : ∀ x y, stepB n fin fjo x y → y < n) (hD : isD (stepB n fin fjo) H v D) (hf : ∀ d, d ≤ D → ∀ i, tl (fla d) i = true ↔ ldn (stepB n fin fjo) H d i) (hj : j ≤ D) {post : Int32 → Prop}
    (h : ∀ u, wy (stepB n fin fjo) H D v j u → post (nI u)) : S_X2_variableAt (nI v) (nI (D + 1)) (nI j) fla fin fjo post := by
  intro E K hK hE
  apply hE
  have hb := isD_bound (n := n) (fun x y e => e.1) hH hD
  have key := dn (P := fun s => ∀ w, wy (stepB n fin fjo) H D v s w → isD (stepB n fin fjo) H w (D - s) → K (nI w) (nI (s + 1))) j (by
    intro w hw hd
    apply hK
    exact ⟨fun _ => h w hw, fun c => absurd ((nI_ltI (by omega) (by omega)).mpr (by omega)) c⟩) (by
    intro s hs ih w hw hd
    have hwn := isD_lt (n := n) (fun x y e => e.1) hH hd
    apply hK
    refine ⟨fun c => absurd ((nI_ltI (by omega) (by omega)).mp c) (by omega), fun _ => ⟨fun c => absurd c (ne_m1 (by omega)), fun _ => ?_⟩⟩
    intro E2 hE2
    apply hE2
    refine ⟨in60 (by omega), ?_⟩
    rw [nI_pred, pk_sub (show s + 1 ≤ D by omega), cl31 (show w < 2 ^ 31 by omega), cl31 (show D - (s + 1) < 2 ^ 31 by omega)]
    refine ⟨in60 (by omega), ?_⟩
    have eD : D - s = (D - (s + 1)) + 1 := by omega
    rw [eD] at hd
    have iff : ∀ i, tl ((fin w ||| fjo w) &&& fla (D - (s + 1))) i = true ↔ stepB n fin fjo w i ∧ isD (stepB n fin fjo) H i (D - (s + 1)) := by
      intro i
      rw [tl_and, Bool.and_eq_true, tl_or, Bool.or_eq_true, hf _ (by omega)]
      constructor
      · rintro ⟨q, q2⟩; exact ⟨⟨hwn, q⟩, isD_next hd ⟨hwn, q⟩ q2⟩
      · rintro ⟨q, q2⟩; exact ⟨q.2, q2.1⟩
    obtain ⟨x, hx⟩ := isNext_ex hd
    refine sp_least (fun c => ?_) (fun u hu q q2 => nx_i (ih u ⟨w, hw, ?_⟩ ((iff u).mp q).2))
    · have hxn := hlt w x hx.1
      have := (iff x).mpr ⟨hx.1, hx.2.1⟩
      rw [c x (by omega)] at this
      cases this
    · refine ⟨((iff u).mp q).1, ((iff u).mp q).2, fun i hi r => ?_⟩
      have := (iff i).mpr r
      rw [q2 i hi] at this
      cases this)
  exact key 0 (by omega) v rfl hD

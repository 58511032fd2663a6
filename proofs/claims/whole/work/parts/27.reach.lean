/-! the reference: what is reached -/
theorem cn_lt {f g : Nat → Bool} {n k : Nat} (hk : k < n) (hf : f k = false) (hg : g k = true) (h : ∀ i, i < n → f i = true → g i = true) : cn f n < cn g n := by
  induction n with
  | zero => omega
  | succ n ih =>
    by_cases e : k = n
    · subst e
      have := cn_mono (f := f) (g := g) (n := k) (fun i hi => h i (by omega))
      show cn f k + _ < cn g k + _
      rw [hf, hg]
      simp
      omega
    · have := ih (by omega) (fun i hi => h i (by omega))
      have q := h n (by omega)
      show cn f n + _ < cn g n + _
      cases e2 : f n
      · simp; omega
      · rw [q e2]; simp; omega
/-- the bits of x not in y: none -/
theorem no_more {x y : Int64} : lg_cmp (x &&& (y ^^^ (-1))) 0 = 0 ↔ ∀ i, tl x i = true → tl y i = true := by
  rw [lc_eq, tl_none]
  constructor
  · intro h i hi
    have hlt := tl_lt hi
    have q := h i hlt
    rw [tl_and, tl_not _ hlt, hi] at q
    simpa using q
  · intro h i hi
    rw [tl_and, tl_not _ hi]
    cases q : tl x i
    · rfl
    · rw [h i q]; rfl
def reOK (n : Nat) (E : Nat → Nat → Prop) (nu : Nat → Nat) (g : Nat → Int64) : Prop := ∀ v, v < n → (∀ i, tl (g v) i = true → ∃ u, rch E v u ∧ nu u = i) ∧ tl (g v) (nu v) = true
def reMu (g : Nat → Int64) (v : Nat) : Nat := 64 - cn (fun i => tl (g v) i) 64
theorem reMu_lt {n v w : Nat} {g : Nat → Int64} (hv : v < n) (h : ¬ ∀ i, tl (g w) i = true → tl (g v) i = true) : sm (reMu (vp_updL g v (g v ||| g w))) n < sm (reMu g) n := by
  refine sm_lt (v := v) hv ?_ ?_
  · obtain ⟨i, hi⟩ : ∃ i, ¬ (tl (g w) i = true → tl (g v) i = true) := Classical.not_forall.mp h
    have h1 : tl (g w) i = true := Classical.byContradiction (fun c => hi (fun q => absurd q c))
    have h2 : tl (g v) i = false := by
      cases q : tl (g v) i
      · rfl
      · exact absurd (fun _ => q) hi
    have hlt := cn_lt (f := fun i => tl (g v) i) (g := fun i => tl (g v ||| g w) i) (n := 64) (k := i) (tl_lt h1) h2 (by show tl (g v ||| g w) i = true; rw [tl_or, h1, Bool.or_true]) (fun j _ q => by show tl (g v ||| g w) j = true; rw [tl_or]; rw [show tl (g v) j = true from q, Bool.true_or])
    have hle := cn_le (fun i => tl (g v ||| g w) i) 64
    unfold reMu
    rw [updL_at]
    omega
  · intro u hu
    unfold reMu
    by_cases e : u = v
    · subst e
      rw [updL_at]
      have := cn_mono (f := fun i => tl (g u) i) (g := fun i => tl (g u ||| g w) i) (n := 64) (fun j _ q => by show tl (g u ||| g w) j = true; rw [tl_or]; rw [show tl (g u) j = true from q, Bool.true_or])
      omega
    · have : vp_updL g v (g v ||| g w) u = g u := by unfold vp_updL; rw [if_neg e]
      rw [this]
      exact Nat.le_refl _
theorem sp_findReach {n : Nat} (hn : n ≤ 60) {gic gnd : Nat → Int32} {gre : Nat → Int64} {nu : Nat → Nat} (hnu : ∀ v, v < n → gnd v = nI (nu v) ∧ nu v < 60) {I : Nat → Nat → Prop} (hI : ∀ v w, v < n → w < n → (I v w ↔ ¬ gic (60 * v + w) ≤ 0)) {post : (Nat → Int64) → Prop}
    (h : ∀ g, (∀ v, v < n → ∀ i, tl (g v) i = true ↔ ∃ u, rch (fun a b => a < n ∧ b < n ∧ (nu a = nu b ∨ I a b)) v u ∧ nu u = i) → post g) : S_X4_findReach (nI n) gic gnd gre post := by
  intro E0 K2 K32 K40 K50 h2 h32 h40 h50 hE0
  apply hE0
  generalize hE : (fun a b => a < n ∧ b < n ∧ (nu a = nu b ∨ I a b)) = E at h
  have hEi : ∀ a b, E a b ↔ (a < n ∧ b < n ∧ (nu a = nu b ∨ I a b)) := by intro a b; rw [← hE]
  have stop : ∀ g, reOK n E nu g → (∀ v w, E v w → ∀ i, tl (g w) i = true → tl (g v) i = true) → K32 0 g := by
    intro g hg hf
    apply h32
    refine ⟨fun _ => h g (fun v hv i => ⟨(hg v hv).1 i, ?_⟩), fun c => absurd rfl c⟩
    rintro ⟨u, hu, rfl⟩
    have hun : u < n := rch_fwd (P := fun x => x < n) hu hv (fun x y e _ => ((hEi x y).mp e).2.1)
    exact rch_ind (P := fun x => tl (g x) (nu u) = true) hu (hg u hun).2 (fun x y e _ q => hf x y e _ q)
  have run : ∀ S : Nat, ∀ g, reOK n E nu g → sm (reMu g) n ≤ S → K32 1 g := by
    intro S
    induction S using Nat.strongRecOn with
    | ind S ih =>
      intro g0 hg0 hS0
      apply h32
      refine ⟨fun c => absurd c (by decide), fun _ => ?_⟩
      have out := dn (P := fun v => ∀ (more : Int32) g, reOK n E nu g → ((more = 0 ∧ sm (reMu g) n ≤ S ∧ ∀ v', v' < v → ∀ w, E v' w → ∀ i, tl (g w) i = true → tl (g v') i = true) ∨ (more = 1 ∧ sm (reMu g) n < S)) → K40 more (nI v) g) n (by
        intro more g hg hc
        apply h40
        refine hd_eq ?_
        rcases hc with ⟨rfl, hS, hf⟩ | ⟨rfl, hS⟩
        · exact stop g hg (fun v w e => hf v ((hEi v w).mp e).1 w e)
        · exact ih _ hS g hg (Nat.le_refl _)) (by
        intro v hv ihv more g hg hc
        apply h40
        refine hd_lt hv (by omega) ?_
        have inn := dn (P := fun w => ∀ (more : Int32) g, reOK n E nu g → ((more = 0 ∧ sm (reMu g) n ≤ S ∧ (∀ v', v' < v → ∀ w, E v' w → ∀ i, tl (g w) i = true → tl (g v') i = true) ∧ ∀ w', w' < w → E v w' → ∀ i, tl (g w') i = true → tl (g v) i = true) ∨ (more = 1 ∧ sm (reMu g) n < S)) → K50 more (nI v) (nI w) g) n (by
          intro more g hg hc
          apply h50
          refine hd_eq (nx_i (ihv more g hg ?_))
          rcases hc with ⟨e, hS, hf, hw⟩ | hc
          · refine Or.inl ⟨e, hS, fun v' hv' w e => ?_⟩
            rcases Nat.lt_or_ge v' v with q | q
            · exact hf v' q w e
            · have : v' = v := by omega
              subst this
              exact hw w ((hEi _ _).mp e).2.1 e
          · exact Or.inr hc) (by
          intro w hw ihw more g hg hc
          apply h50
          refine hd_lt hw (by omega) ?_
          rw [ix60, cl31 (show 60 * v + w < 2 ^ 31 by omega), cl31 (show v < 2 ^ 31 by omega), cl31 (show w < 2 ^ 31 by omega)]
          refine ⟨in60 (by omega), in60 (by omega), ?_⟩
          have keep : (E v w → ∀ i, tl (g w) i = true → tl (g v) i = true) → K50 more (nI v) (nI (w + 1)) g := by
            intro hvw
            refine ihw more g hg ?_
            rcases hc with ⟨e, hS, hf, hw'⟩ | hc
            · refine Or.inl ⟨e, hS, hf, fun w' h1 h2 => ?_⟩
              rcases Nat.lt_or_ge w' w with q | q
              · exact hw' w' q h2
              · have : w' = w := by omega
                subst this
                exact hvw h2
            · exact Or.inr hc
          have grow : E v w → ¬ (∀ i, tl (g w) i = true → tl (g v) i = true) → K50 1 (nI v) (nI (w + 1)) (vp_updL g v (g v ||| g w)) := by
            intro hEvw hno
            have hS : sm (reMu g) n ≤ S := by
              rcases hc with ⟨_, hS, _⟩ | ⟨_, hS⟩
              · exact hS
              · omega
            refine ihw 1 _ ?_ (Or.inr ⟨rfl, Nat.lt_of_lt_of_le (reMu_lt hv hno) hS⟩)
            intro u hu
            by_cases e : u = v
            · subst e
              rw [updL_at]
              constructor
              · intro i hi
                rw [tl_or, Bool.or_eq_true] at hi
                rcases hi with hi | hi
                · exact (hg u hu).1 i hi
                · obtain ⟨x, r, hx⟩ := (hg w hw).1 i hi
                  exact ⟨x, rch_cons hEvw r, hx⟩
              · rw [tl_or, (hg u hu).2, Bool.true_or]
            · have : vp_updL g v (g v ||| g w) u = g u := by unfold vp_updL; rw [if_neg e]
              rw [this]
              exact hg u hu
          have two : E v w → ((lg_cmp (g w &&& (g v ^^^ (-1))) 0 = 0 → ∀ y : Int32, y = nI w + 1 → K50 more (nI v) y g) ∧ (¬ lg_cmp (g w &&& (g v ^^^ (-1))) 0 = 0 → ∀ y : Int32, y = nI w + 1 → K50 1 (nI v) y (vp_updL g v (g v ||| g w)))) := by
            intro hEvw
            exact ⟨fun c => nx_i (keep (fun _ => no_more.mp c)), fun c => nx_i (grow hEvw (fun q => c (no_more.mpr q)))⟩
          rw [(hnu v hv).1, (hnu w hw).1]
          have bv := (hnu v hv).2
          have bw := (hnu w hw).2
          refine ⟨fun c => two ((hEi v w).mpr ⟨hv, hw, Or.inl ((nI_eq (by omega) (by omega)).mp c)⟩), fun c => ?_⟩
          refine ⟨vp_in_nI (by omega) (by decide), fun c2 => nx_i (keep (fun e => ?_)), fun c2 => two ((hEi v w).mpr ⟨hv, hw, Or.inr ((hI v w hv hw).mpr c2)⟩)⟩
          rcases ((hEi v w).mp e).2.2 with q | q
          · exact absurd (by rw [q]) c
          · exact absurd c2 ((hI v w hv hw).mp q))
        refine inn 0 (by omega) more g hg ?_
        rcases hc with ⟨e, hS, hf⟩ | hc
        · exact Or.inl ⟨e, hS, hf, fun w' h => absurd h (by omega)⟩
        · exact Or.inr hc)
      exact out 0 (by omega) 0 g0 hg0 (Or.inl ⟨rfl, hS0, fun v' h => absurd h (by omega)⟩)
  have ini := dn (P := fun v => ∀ g, (∀ u, u < v → ∀ i, tl (g u) i = decide (i = nu u)) → K2 (nI v) g) n (by
    intro g hg
    apply h2
    refine hd_eq ?_
    refine run _ g (fun u hu => ⟨fun i hi => ?_, ?_⟩) (Nat.le_refl _)
    · rw [hg u hu, decide_eq_true_iff] at hi
      exact ⟨u, rch_refl u, hi.symm⟩
    · rw [hg u hu]; simp) (by
    intro v hv ih g hg
    apply h2
    refine hd_lt hv (by omega) ⟨in60 (by omega), nx_i (ih _ ?_)⟩
    rw [cl31 (show v < 2 ^ 31 by omega), (hnu v hv).1]
    intro u hu i
    rw [tl_upd]
    by_cases e : u = v
    · rw [if_pos e, tl_bit (by have := (hnu v hv).2; omega), e]
    · rw [if_neg e]; exact hg u (by omega) i)
  exact ini 0 (by omega) gre (fun u h => absurd h (by omega))

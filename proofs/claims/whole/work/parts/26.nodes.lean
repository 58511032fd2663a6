/-! the reference: nodes -/
def sm (f : Nat → Nat) : Nat → Nat
  | 0 => 0
  | n + 1 => sm f n + f n
theorem sm_le {f g : Nat → Nat} {n : Nat} (h : ∀ u, u < n → g u ≤ f u) : sm g n ≤ sm f n := by
  induction n with
  | zero => exact Nat.le_refl 0
  | succ n ih =>
    have := ih (fun u hu => h u (by omega))
    have := h n (by omega)
    show sm g n + g n ≤ sm f n + f n
    omega
theorem sm_lt {f g : Nat → Nat} {n v : Nat} (hv : v < n) (hlt : g v < f v) (h : ∀ u, u < n → g u ≤ f u) : sm g n < sm f n := by
  induction n with
  | zero => omega
  | succ n ih =>
    show sm g n + g n < sm f n + f n
    by_cases e : v = n
    · subst e
      have := sm_le (f := f) (g := g) (n := v) (fun u hu => h u (by omega))
      omega
    · have := ih (by omega) (fun u hu => h u (by omega))
      have := h n (by omega)
      omega
theorem sm_congr {f g : Nat → Nat} {n : Nat} (h : ∀ u, u < n → g u = f u) : sm g n = sm f n := Nat.le_antisymm (sm_le (fun u hu => Nat.le_of_eq (h u hu))) (sm_le (fun u hu => Nat.le_of_eq (h u hu).symm))
theorem ix60 (v w : Nat) : (60 * nI v) + nI w = nI (60 * v + w) := by rw [show (60 : Int32) = nI 60 from rfl, pk_mul, nI_add]
theorem ix32 (v a : Nat) : (32 * nI v) + nI a = nI (32 * v + a) := by rw [show (32 : Int32) = nI 32 from rfl, pk_mul, nI_add]
/-- numbers that hold: each is reached, and not above -/
def numsOK (n : Nat) (J : Nat → Nat → Prop) (g : Nat → Int32) (mm : Nat → Nat) : Prop := ∀ v, v < n → g v = nI (mm v) ∧ mm v ≤ v ∧ rch J v (mm v)
theorem isNum_of_fix {n : Nat} {J : Nat → Nat → Prop} {mm : Nat → Nat} (hl : ∀ v w, J v w → v < n ∧ w < n) (hs : ∀ x y, J x y → J y x) (h : ∀ v, v < n → mm v ≤ v ∧ rch J v (mm v)) (hf : ∀ v w, J v w → mm v ≤ mm w) {v : Nat} (hv : v < n) : isNum J v (mm v) := by
  refine ⟨(h v hv).2, fun u hu => ?_⟩
  have e : mm u = mm v := by
    refine rch_fwd (P := fun x => mm x = mm v) hu rfl ?_
    intro x y e q
    rw [← q]
    exact Nat.le_antisymm (hf y x (hs x y e)) (hf x y e)
  have hun : u < n := rch_fwd (P := fun x => x < n) hu hv (fun x y e _ => (hl x y e).2)
  rw [← e]
  exact (h u hun).1
theorem sp_findNodes {n : Nat} (hn : n ≤ 60) {gbe gnd : Nat → Int32} {J : Nat → Nat → Prop} (hJ : ∀ v w, v < n → w < n → (J v w ↔ ¬ gbe (60 * v + w) ≤ 0)) (hl : ∀ v w, J v w → v < n ∧ w < n) (hs : ∀ x y, J x y → J y x) {post : (Nat → Int32) → Prop}
    (h : ∀ g, (∀ v, v < n → ∃ m, g v = nI m ∧ isNum J v m) → post g) : S_X4_findNodes (nI n) gbe gnd post := by
  intro E K2 K25 K33 K43 h2 h25 h33 h43 hE
  apply hE
  -- the fixed point
  have stop : ∀ g mm, numsOK n J g mm → (∀ v w, J v w → mm v ≤ mm w) → K25 0 g := by
    intro g mm hg hf
    apply h25
    refine ⟨fun _ => h g (fun v hv => ⟨mm v, (hg v hv).1, isNum_of_fix hl hs (fun v hv => (hg v hv).2) hf hv⟩), fun c => absurd rfl c⟩
  have run : ∀ S : Nat, ∀ g mm, numsOK n J g mm → sm mm n ≤ S → K25 1 g := by
    intro S
    induction S using Nat.strongRecOn with
    | ind S ih =>
      intro g0 mm0 hg0 hS0
      apply h25
      refine ⟨fun c => absurd c (by decide), fun _ => ?_⟩
      have out := dn (P := fun v => ∀ (more : Int32) g mm, numsOK n J g mm → ((more = 0 ∧ sm mm n ≤ S ∧ ∀ v', v' < v → ∀ w, J v' w → mm v' ≤ mm w) ∨ (more = 1 ∧ sm mm n < S)) → K33 more (nI v) g) n (by
        intro more g mm hg hc
        apply h33
        refine hd_eq ?_
        rcases hc with ⟨rfl, hS, hf⟩ | ⟨rfl, hS⟩
        · exact stop g mm hg (fun v w e => hf v (hl v w e).1 w e)
        · exact ih (sm mm n) hS g mm hg (Nat.le_refl _)) (by
        intro v hv ihv more g mm hg hc
        apply h33
        refine hd_lt hv (by omega) ?_
        have inn := dn (P := fun w => ∀ (more : Int32) g mm, numsOK n J g mm → ((more = 0 ∧ sm mm n ≤ S ∧ (∀ v', v' < v → ∀ w, J v' w → mm v' ≤ mm w) ∧ ∀ w', w' < w → J v w' → mm v ≤ mm w') ∨ (more = 1 ∧ sm mm n < S)) → K43 more (nI v) (nI w) g) n (by
          intro more g mm hg hc
          apply h43
          refine hd_eq (nx_i (ihv more g mm hg ?_))
          rcases hc with ⟨e, hS, hf, hw⟩ | hc
          · refine Or.inl ⟨e, hS, fun v' hv' w e => ?_⟩
            rcases Nat.lt_or_ge v' v with q | q
            · exact hf v' q w e
            · have : v' = v := by omega
              subst this
              exact hw w (hl _ _ e).2 e
          · exact Or.inr hc) (by
          intro w hw ihw more g mm hg hc
          apply h43
          refine hd_lt hw (by omega) ?_
          rw [ix60, cl31 (show 60 * v + w < 2 ^ 31 by omega), cl31 (show v < 2 ^ 31 by omega), cl31 (show w < 2 ^ 31 by omega)]
          refine ⟨vp_in_nI (by omega) (by decide), ?_⟩
          have keep : (J v w → mm v ≤ mm w) → K43 more (nI v) (nI (w + 1)) g := by
            intro hvw
            refine ihw more g mm hg ?_
            rcases hc with ⟨e, hS, hf, hw'⟩ | hc
            · refine Or.inl ⟨e, hS, hf, fun w' h1 h2 => ?_⟩
              rcases Nat.lt_or_ge w' w with q | q
              · exact hw' w' q h2
              · have : w' = w := by omega
                subst this
                exact hvw h2
            · exact Or.inr hc
          refine ⟨fun c => nx_i (keep (fun e => absurd c ((hJ v w hv hw).mp e))), fun c => ?_⟩
          have hJvw := (hJ v w hv hw).mpr c
          refine ⟨in60 (by omega), in60 (by omega), ?_⟩
          have bv : mm v < 2 ^ 31 := by have := (hg v hv).2.1; omega
          have bw : mm w < 2 ^ 31 := by have := (hg w hw).2.1; omega
          rw [(hg v hv).1, (hg w hw).1]
          refine ⟨fun c2 => nx_i (keep (fun _ => (nI_leI bv bw).mp c2)), fun c2 => nx_i ?_⟩
          have hlt : mm w < mm v := by
            rcases Nat.lt_or_ge (mm w) (mm v) with q | q
            · exact q
            · exact absurd ((nI_leI bv bw).mpr q) c2
          have hS : sm mm n ≤ S := by
            rcases hc with ⟨_, hS, _⟩ | ⟨_, hS⟩
            · exact hS
            · omega
          refine ihw 1 _ (fun u => if u = v then mm w else mm u) ?_ (Or.inr ⟨rfl, Nat.lt_of_lt_of_le (sm_lt (v := v) hv (by simp [hlt]) (fun u hu => by
            show (if u = v then mm w else mm u) ≤ mm u
            split
            · next e => rw [e]; omega
            · exact Nat.le_refl _)) hS⟩)
          intro u hu
          show upd g v (nI (mm w)) u = nI (if u = v then mm w else mm u) ∧ (if u = v then mm w else mm u) ≤ u ∧ rch J u (if u = v then mm w else mm u)
          unfold upd
          by_cases e : u = v
          · subst e
            rw [if_pos rfl, if_pos rfl]
            refine ⟨rfl, ?_, ?_⟩
            · have := (hg u hu).2.1; omega
            · exact rch_cons hJvw (hg w hw).2.2
          · rw [if_neg e, if_neg e]
            exact hg u hu)
        refine inn 0 (by omega) more g mm hg ?_
        rcases hc with ⟨e, hS, hf⟩ | hc
        · exact Or.inl ⟨e, hS, hf, fun w' h => absurd h (by omega)⟩
        · exact Or.inr hc)
      exact out 0 (by omega) 0 g0 mm0 hg0 (Or.inl ⟨rfl, hS0, fun v' h => absurd h (by omega)⟩)
  have ini := dn (P := fun v => ∀ g, (∀ u, u < v → g u = nI u) → K2 (nI v) g) n (by
    intro g hg
    apply h2
    refine hd_eq ?_
    exact run _ g (fun u => u) (fun u hu => ⟨hg u hu, Nat.le_refl u, rch_refl u⟩) (Nat.le_refl _)) (by
    intro v hv ih g hg
    apply h2
    refine hd_lt hv (by omega) ⟨in60 (by omega), nx_i (ih _ ?_)⟩
    rw [cl31 (show v < 2 ^ 31 by omega)]
    intro u hu
    unfold upd
    by_cases e : u = v
    · rw [if_pos e, e]
    · rw [if_neg e]; exact hg u (by omega))
  exact ini 0 (by omega) gnd (fun u h => absurd h (by omega))

/-! the reference: sets -/
theorem sar1 (x : Int64) {k : Nat} (hk : k < 64) : lg_cmp ((x >>> ((nI k).toInt64 &&& 63)) &&& 1) 1 = 0 ↔ tl x k = true := by
  rw [lc_eq, tl_sar x hk]
  cases tl x k <;> simp
theorem sar0 (x : Int64) {k : Nat} (hk : k < 64) : lg_cmp ((x >>> ((nI k).toInt64 &&& 63)) &&& 1) 0 = 0 ↔ tl x k = false := by
  rw [lc_eq, tl_sar x hk]
  cases tl x k <;> simp
theorem or0 (x : Int32) : x ||| 0 = x := ti_ext (fun i _ => by rw [ti_or, ti_0, Bool.or_false])
theorem upd_same (f : Nat → Int32) (v : Nat) : upd f v (f v) = f := by
  funext j
  unfold upd
  split
  · next e => rw [e]
  · rfl
theorem sp_findSets {n k : Nat} (hn : n ≤ 60) (hk : k ≤ 32) {ghv gnd gse : Nat → Int32} {gre : Nat → Int64} {nu : Nat → Nat} (hnu : ∀ v, v < n → gnd v = nI (nu v) ∧ nu v < 60) {Hh : Nat → Nat → Prop} (hH : ∀ v a, v < n → a < k → (Hh v a ↔ ¬ ghv (32 * v + a) ≤ 0)) {post : (Nat → Int32) → Prop}
    (h : ∀ g, (∀ v, v < n → ∀ a, ti (g v) a = true ↔ a < k ∧ ∃ w, w < n ∧ tl (gre v) (nu w) = true ∧ Hh w a) → post g) : S_X4_findSets (nI n) (nI k) ghv gnd gre gse post := by
  intro E K2 K19 K29 h2 h19 h29 hE
  apply hE
  have top := dn (P := fun v => ∀ g, (∀ u, u < v → ∀ a, ti (g u) a = true ↔ a < k ∧ ∃ w, w < n ∧ tl (gre u) (nu w) = true ∧ Hh w a) → K2 (nI v) g) n (by
    intro g hg
    apply h2
    exact hd_eq (h g hg)) (by
    intro v hv ihv g hg
    apply h2
    refine hd_lt hv (by omega) ⟨in60 (by omega), ?_⟩
    rw [cl31 (show v < 2 ^ 31 by omega)]
    have mid := dn (P := fun w => ∀ g, (∀ u, u < v → ∀ a, ti (g u) a = true ↔ a < k ∧ ∃ w, w < n ∧ tl (gre u) (nu w) = true ∧ Hh w a) → (∀ a, ti (g v) a = true ↔ a < k ∧ ∃ w', w' < w ∧ tl (gre v) (nu w') = true ∧ Hh w' a) → K19 (nI v) (nI w) g) n (by
      intro g hg hv2
      apply h19
      refine hd_eq (nx_i (ihv g ?_))
      intro u hu a
      rcases Nat.lt_or_ge u v with q | q
      · exact hg u q a
      · have : u = v := by omega
        subst this
        exact hv2 a) (by
      intro w hw ihw g hg hv2
      apply h19
      refine hd_lt hw (by omega) ?_
      have inn := dn (P := fun a => ∀ g, (∀ u, u < v → ∀ a, ti (g u) a = true ↔ a < k ∧ ∃ w, w < n ∧ tl (gre u) (nu w) = true ∧ Hh w a) → (∀ b, ti (g v) b = true ↔ b < k ∧ ((∃ w', w' < w ∧ tl (gre v) (nu w') = true ∧ Hh w' b) ∨ (b < a ∧ tl (gre v) (nu w) = true ∧ Hh w b))) → K29 (nI v) (nI w) (nI a) g) k (by
        intro g hg hv3
        apply h29
        refine hd_eq (nx_i (ihw g hg ?_))
        intro b
        rw [hv3 b]
        constructor
        · rintro ⟨h1, ⟨w', h2, h3⟩ | ⟨_, h2⟩⟩
          · exact ⟨h1, w', by omega, h3⟩
          · exact ⟨h1, w, by omega, h2⟩
        · rintro ⟨h1, w', h2, h3⟩
          rcases Nat.lt_or_ge w' w with q | q
          · exact ⟨h1, Or.inl ⟨w', q, h3⟩⟩
          · have : w' = w := by omega
            subst this
            exact ⟨h1, Or.inr ⟨h1, h3⟩⟩) (by
        intro a ha iha g hg hv3
        apply h29
        refine hd_lt ha (by omega) ?_
        rw [ix32, cl31 (show 32 * w + a < 2 ^ 31 by omega), cl31 (show v < 2 ^ 31 by omega), cl31 (show w < 2 ^ 31 by omega), or0, upd_same, (hnu w hw).1]
        refine ⟨in60 (by omega), in60 (by omega), ?_⟩
        have bw := (hnu w hw).2
        have keep : ¬ (tl (gre v) (nu w) = true ∧ Hh w a) → K29 (nI v) (nI w) (nI (a + 1)) g := by
          intro hno
          refine iha g hg (fun b => ?_)
          rw [hv3 b]
          constructor
          · rintro ⟨h1, h2 | ⟨h2, h3⟩⟩
            · exact ⟨h1, Or.inl h2⟩
            · exact ⟨h1, Or.inr ⟨by omega, h3⟩⟩
          · rintro ⟨h1, h2 | ⟨h2, h3⟩⟩
            · exact ⟨h1, Or.inl h2⟩
            · have : b ≠ a := fun e => by rw [e] at h3; exact hno h3
              exact ⟨h1, Or.inr ⟨by omega, h3⟩⟩
        refine ⟨fun c => nx_i (keep (fun q => c ((sar1 _ (by omega)).mpr q.1))), fun c => ?_⟩
        have ht := (sar1 _ (by omega)).mp c
        refine ⟨vp_in_nI (by omega) (by decide), fun c2 => nx_i (keep (fun q => absurd c2 ((hH w a hw ha).mp q.2))), fun c2 => nx_i ?_⟩
        have hHw := (hH w a hw ha).mpr c2
        refine iha _ ?_ ?_
        · intro u hu b
          have : upd g v (g v ||| ((1 : Int32) <<< (nI a &&& 31))) u = g u := by unfold upd; rw [if_neg (by omega)]
          rw [this]
          exact hg u hu b
        · intro b
          rw [upd_at, ti_or, Bool.or_eq_true, ti_bit (by omega), decide_eq_true_iff, hv3 b]
          constructor
          · rintro (⟨h1, h2 | ⟨h2, h3⟩⟩ | e)
            · exact ⟨h1, Or.inl h2⟩
            · exact ⟨h1, Or.inr ⟨by omega, h3⟩⟩
            · rw [e]; exact ⟨ha, Or.inr ⟨by omega, ht, hHw⟩⟩
          · rintro ⟨h1, h2 | ⟨h2, h3⟩⟩
            · exact Or.inl ⟨h1, Or.inl h2⟩
            · rcases Nat.lt_or_ge b a with q | q
              · exact Or.inl ⟨h1, Or.inr ⟨q, h3⟩⟩
              · exact Or.inr (by omega))
      refine inn 0 (by omega) g hg (fun b => ?_)
      rw [hv2 b]
      constructor
      · rintro ⟨h1, h2⟩; exact ⟨h1, Or.inl h2⟩
      · rintro ⟨h1, h2 | ⟨h2, _⟩⟩
        · exact ⟨h1, h2⟩
        · exact absurd h2 (by omega))
    refine mid 0 (by omega) _ ?_ ?_
    · intro u hu a
      have : upd g v 0 u = g u := by unfold upd; rw [if_neg (by omega)]
      rw [this]
      exact hg u hu a
    · intro a
      rw [upd_at, ti_0]
      constructor
      · intro q; cases q
      · rintro ⟨_, w', h2, _⟩; exact absurd h2 (by omega))
  exact top 0 (by omega) gse (fun u hu => absurd hu (by omega))
/-- size: how many bits -/
theorem sp_size {x : Int32} {post : Int32 → Prop} (h : post (nI (pc x))) : S_X4_size x post := by
  intro E K hK hE
  apply hE
  have key := dn (P := fun u => K (nI (cn (fun i => ti x i) u)) (nI u)) 32 (by
    apply hK
    exact ⟨fun _ => h, fun c => absurd (by decide) c⟩) (by
    intro u hu ih
    apply hK
    refine hd_lt (n := 32) hu (by decide) ?_
    rw [ti_sar x hu]
    have e : (if ti x u then (1 : Int32) else 0) = nI (if ti x u then 1 else 0) := by cases ti x u <;> rfl
    rw [e]
    refine nm_r (nI_add _ _) (nx_i ih))
  exact key 0 (by decide)
theorem sp_inSets {n : Nat} (hn : n ≤ 60) {gse : Nat → Int32} {post : Int32 → Prop} (h : post (nI (sm (fun v => pc (gse v)) n))) : S_X4_inSets (nI n) gse post := by
  intro E K hK hE
  apply hE
  have key := dn (P := fun u => K (nI (sm (fun v => pc (gse v)) u)) (nI u)) n (by
    apply hK
    exact hd_eq h) (by
    intro u hu ih
    apply hK
    refine hd_lt hu (by omega) ⟨in60 (by omega), ?_⟩
    rw [cl31 (show u < 2 ^ 31 by omega)]
    refine sp_size (nm_r (nI_add _ _) (nx_i ih)))
  exact key 0 (by omega)

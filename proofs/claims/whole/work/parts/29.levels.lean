/-! least values; the reference's levels -/
def isMin (P : Nat → Prop) (f : Nat → Nat) (n c m : Nat) : Prop := (m = c ∨ ∃ w, w < n ∧ P w ∧ f w = m) ∧ m ≤ c ∧ ∀ w, w < n → P w → m ≤ f w
theorem isMin_0 (P : Nat → Prop) (f : Nat → Nat) (c : Nat) : isMin P f 0 c c := ⟨Or.inl rfl, Nat.le_refl c, fun w h => absurd h (by omega)⟩
theorem isMin_skip {P : Nat → Prop} {f : Nat → Nat} {u c m : Nat} (h : isMin P f u c m) (hn : ¬ P u) : isMin P f (u + 1) c m := by
  obtain ⟨h1, h2, h3⟩ := h
  refine ⟨?_, h2, fun w hw hp => ?_⟩
  · rcases h1 with e | ⟨w, hw, hp, e⟩
    · exact Or.inl e
    · exact Or.inr ⟨w, by omega, hp, e⟩
  · have : w ≠ u := fun e => hn (e ▸ hp)
    exact h3 w (by omega) hp
theorem isMin_low {P : Nat → Prop} {f : Nat → Nat} {u c m : Nat} (h : isMin P f u c m) (hp : P u) (hl : f u ≤ m) : isMin P f (u + 1) c (f u) := by
  obtain ⟨h1, h2, h3⟩ := h
  refine ⟨Or.inr ⟨u, by omega, hp, rfl⟩, by omega, fun w hw hq => ?_⟩
  rcases Nat.lt_or_ge w u with q | q
  · have := h3 w q hq; omega
  · have : w = u := by omega
    rw [this]; exact Nat.le_refl _
theorem isMin_high {P : Nat → Prop} {f : Nat → Nat} {u c m : Nat} (h : isMin P f u c m) (hl : m ≤ f u) : isMin P f (u + 1) c m := by
  obtain ⟨h1, h2, h3⟩ := h
  refine ⟨?_, h2, fun w hw hq => ?_⟩
  · rcases h1 with e | ⟨w, hw, hp, e⟩
    · exact Or.inl e
    · exact Or.inr ⟨w, by omega, hp, e⟩
  · rcases Nat.lt_or_ge w u with q | q
    · exact h3 w q hq
    · have : w = u := by omega
      rw [this]; exact hl
theorem isMin_uniq {P : Nat → Prop} {f : Nat → Nat} {n c m m' : Nat} (h : isMin P f n c m) (h' : isMin P f n c m') : m = m' := by
  obtain ⟨h1, h2, h3⟩ := h
  obtain ⟨k1, k2, k3⟩ := h'
  apply Nat.le_antisymm
  · rcases k1 with e | ⟨w, hw, hp, e⟩
    · rw [e]; exact h2
    · rw [← e]; exact h3 w hw hp
  · rcases h1 with e | ⟨w, hw, hp, e⟩
    · rw [e]; exact k2
    · rw [← e]; exact k3 w hw hp
theorem isMin_congr {P Q : Nat → Prop} {f g : Nat → Nat} {n c m : Nat} (hp : ∀ w, w < n → (P w ↔ Q w)) (hf : ∀ w, w < n → f w = g w) (h : isMin P f n c m) : isMin Q g n c m := by
  obtain ⟨h1, h2, h3⟩ := h
  refine ⟨?_, h2, fun w hw hq => ?_⟩
  · rcases h1 with e | ⟨w, hw, hpw, e⟩
    · exact Or.inl e
    · exact Or.inr ⟨w, hw, (hp w hw).mp hpw, by rw [← hf w hw]; exact e⟩
  · rw [← hf w hw]; exact h3 w hw ((hp w hw).mpr hq)
theorem pick {n : Nat} {P : Nat → Nat → Prop} (h : ∀ v, v < n → ∃ m, P v m) : ∃ f : Nat → Nat, ∀ v, v < n → P v (f v) := by
  refine ⟨fun v => if hv : v < n then Classical.choose (h v hv) else 0, fun v hv => ?_⟩
  show P v (if hv : v < n then Classical.choose (h v hv) else 0)
  rw [dif_pos hv]
  exact Classical.choose_spec (h v hv)
theorem upd_ne {f : Nat → Int32} {v u : Nat} {y : Int32} (h : u ≠ v) : upd f v y u = f u := by unfold upd; rw [if_neg h]
theorem updL_ne {f : Nat → Int64} {v u : Nat} {y : Int64} (h : u ≠ v) : vp_updL f v y u = f u := by unfold vp_updL; rw [if_neg h]
theorem sp_findLevels {n k : Nat} (hn : n ≤ 60) (hk : k ≤ 32) {gbi gab ghv gnd : Nat → Int32} {gre : Nat → Int64} {glv gal : Nat → Int32} {nu bi ab : Nat → Nat} (hnu : ∀ v, v < n → gnd v = nI (nu v) ∧ nu v < 60) (hbi : ∀ v, v < n → gbi v = nI (bi v) ∧ bi v < 10) (hab : ∀ a, a < k → gab a = nI (ab a) ∧ ab a < 10) {Hh : Nat → Nat → Prop} (hH : ∀ v a, v < n → a < k → (Hh v a ↔ ¬ ghv (32 * v + a) ≤ 0)) {post : (Nat → Int32) → (Nat → Int32) → Prop}
    (h : ∀ gl ga (lv : Nat → Nat), (∀ v, v < n → gl v = nI (lv v) ∧ isMin (fun w => tl (gre w) (nu v) = true) bi n 10 (lv v)) → (∀ a, a < k → ∃ m, ga a = nI m ∧ isMin (fun v => Hh v a) lv n (ab a) m) → post gl ga) : S_X4_findLevels (nI n) (nI k) gbi gab ghv gnd gre glv gal post := by
  intro E K2 K20 K108 K130 h2 h20 h108 h130 hE
  apply hE
  have second : ∀ gl (lv : Nat → Nat) ga0, (∀ v, v < n → gl v = nI (lv v) ∧ isMin (fun w => tl (gre w) (nu v) = true) bi n 10 (lv v)) → K108 0 gl ga0 := by
    intro gl lv ga0 hlv
    have top := dn (P := fun a => ∀ ga, (∀ b, b < a → ∃ m, ga b = nI m ∧ isMin (fun v => Hh v b) lv n (ab b) m) → K108 (nI a) gl ga) k (by
      intro ga hga
      apply h108
      exact hd_eq (h gl ga lv hlv hga)) (by
      intro a ha iha ga hga
      apply h108
      refine hd_lt ha (by omega) ⟨in32 (by omega), ?_⟩
      rw [cl31 (show a < 2 ^ 31 by omega)]
      have inn := dn (P := fun w => ∀ ga, (∀ b, b < a → ∃ m, ga b = nI m ∧ isMin (fun v => Hh v b) lv n (ab b) m) → (∃ m, ga a = nI m ∧ isMin (fun v => Hh v a) lv w (ab a) m) → K130 (nI a) (nI w) gl ga) n (by
        intro ga hga hm
        apply h130
        refine hd_eq (nx_i (iha ga ?_))
        intro b hb
        rcases Nat.lt_or_ge b a with q | q
        · exact hga b q
        · have : b = a := by omega
          subst this
          exact hm) (by
        intro w hw ihw ga hga hm
        apply h130
        refine hd_lt hw (by omega) ?_
        rw [ix32, cl31 (show 32 * w + a < 2 ^ 31 by omega), cl31 (show a < 2 ^ 31 by omega), cl31 (show w < 2 ^ 31 by omega), upd_same]
        refine ⟨vp_in_nI (by omega) (by decide), ?_, ?_⟩
        · intro c
          refine ⟨in32 (by omega), nx_i (ihw ga hga ?_)⟩
          obtain ⟨m, e, hm⟩ := hm
          exact ⟨m, e, isMin_skip hm (fun q => absurd c ((hH w a hw ha).mp q))⟩
        · intro c
          have hHw := (hH w a hw ha).mpr c
          obtain ⟨m, e, hm⟩ := hm
          have b1 : m < 2 ^ 31 := by have := hm.2.1; have := (hab a ha).2; omega
          have b2 : lv w < 2 ^ 31 := by have := (hlv w hw).2.2.1; omega
          refine ⟨in60 (by omega), in32 (by omega), ?_, ?_⟩
          · intro c2
            rw [e, (hlv w hw).1] at c2
            exact nx_i (ihw ga hga ⟨m, e, isMin_high hm ((nI_leI b1 b2).mp c2)⟩)
          · intro c2
            rw [e, (hlv w hw).1] at c2
            have hl : lv w ≤ m := by
              rcases Nat.lt_or_ge (lv w) m with q | q
              · omega
              · exact absurd ((nI_leI b1 b2).mpr q) c2
            refine nx_i (ihw _ ?_ ⟨lv w, ?_, isMin_low hm hHw hl⟩)
            · intro b hb
              rw [upd_ne (by omega)]; exact hga b hb
            · rw [upd_at]; exact (hlv w hw).1)
      refine inn 0 (by omega) _ ?_ ⟨ab a, ?_, isMin_0 _ _ _⟩
      · intro b hb
        rw [upd_ne (by omega)]; exact hga b hb
      · rw [upd_at]; exact (hab a ha).1)
    exact top 0 (by omega) ga0 (fun b hb => absurd hb (by omega))
  have top := dn (P := fun v => ∀ gl ga, (∀ u, u < v → ∃ m, gl u = nI m ∧ isMin (fun w => tl (gre w) (nu u) = true) bi n 10 m) → K2 (nI v) gl ga) n (by
    intro gl ga hgl
    apply h2
    refine hd_eq ?_
    obtain ⟨lv, hlv⟩ := pick hgl
    exact second gl lv ga hlv) (by
    intro v hv ihv gl ga hgl
    apply h2
    refine hd_lt hv (by omega) ⟨in60 (by omega), ?_⟩
    rw [cl31 (show v < 2 ^ 31 by omega)]
    have inn := dn (P := fun w => ∀ gl ga, (∀ u, u < v → ∃ m, gl u = nI m ∧ isMin (fun w => tl (gre w) (nu u) = true) bi n 10 m) → (∃ m, gl v = nI m ∧ isMin (fun w => tl (gre w) (nu v) = true) bi w 10 m) → K20 (nI v) (nI w) gl ga) n (by
      intro gl ga hgl hm
      apply h20
      refine hd_eq (nx_i (ihv gl ga ?_))
      intro b hb
      rcases Nat.lt_or_ge b v with q | q
      · exact hgl b q
      · have : b = v := by omega
        subst this
        exact hm) (by
      intro w hw ihw gl ga hgl hm
      apply h20
      refine hd_lt hw (by omega) ⟨in60 (by omega), in60 (by omega), ?_⟩
      have bv := (hnu v hv).2
      rw [cl31 (show v < 2 ^ 31 by omega), cl31 (show w < 2 ^ 31 by omega), upd_same, (hnu v hv).1]
      obtain ⟨m, e, hm⟩ := hm
      have b1 : m < 2 ^ 31 := by have := hm.2.1; omega
      have b2 : bi w < 2 ^ 31 := by have := (hbi w hw).2; omega
      refine ⟨?_, ?_⟩
      · intro c
        exact nx_i (ihw gl ga hgl ⟨m, e, isMin_skip hm (fun q => c ((sar1 _ (by omega)).mpr q))⟩)
      · intro c
        have hp := (sar1 _ (by omega)).mp c
        rw [e, (hbi w hw).1]
        refine ⟨?_, ?_⟩
        · intro c2
          exact nx_i (ihw gl ga hgl ⟨m, e, isMin_high hm ((nI_leI b1 b2).mp c2)⟩)
        · intro c2
          have hl : bi w ≤ m := by
            rcases Nat.lt_or_ge (bi w) m with q | q
            · omega
            · exact absurd ((nI_leI b1 b2).mpr q) c2
          refine nx_i (ihw _ ga ?_ ⟨bi w, upd_at, isMin_low hm hp hl⟩)
          intro b hb
          rw [upd_ne (by omega)]; exact hgl b hb)
    refine inn 0 (by omega) _ ga ?_ ⟨10, ?_, isMin_0 _ _ _⟩
    · intro b hb
      rw [upd_ne (by omega)]; exact hgl b hb
    · rw [upd_at]; rfl)
  exact top 0 (by omega) glv gal (fun b hb => absurd hb (by omega))

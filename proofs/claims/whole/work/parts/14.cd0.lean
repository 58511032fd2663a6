set_option maxHeartbeats 4000000 in
set_option maxRecDepth 100000 in
theorem c_X4_thrown (l : Launch) (dC : Nat → ClassId) (dI : Nat → Nat → Nat) (cI cJ : ClassId) (h0 : Nat) (agbi : Nat) (agab : Nat) (aghv : Nat) (agic : Nat) (agbe : Nat) (agmt : Nat) (agmv : Nat) (agma : Nat) (agnd : Nat) (agre : Nat) (agse : Nat) (aglv : Nat) (agal : Nat) (agds : Nat) (agno : Nat) (agna : Nat) (xth : Int32) (xnv : Int32) (xna : Int32) (xtl : Int32) (xmk : Int32) (sz : Nat) (post : Int32 → Prop) (hsp : S_X4_thrown xth post) : Met l yX4_thrown wsX4_thrown ({ frames := 0, cells := 0, slots := 0, locals := 0 }) (va_Pc [.ref h0] (fun U => U.heap.size = sz ∧ va_P (dC, dI) vwCl [(h0, .inr (4, [.int xth, .int xnv, .int xna, .ref agbi, .ref agab, .int xtl, .ref aghv, .ref agic, .ref agbe, .int xmk, .ref agmt, .ref agmv, .ref agma, .ref agnd, .ref agre, .ref agse, .ref aglv, .ref agal, .ref agds, .ref agno, .ref agna]))] U.heap ∧ va_K (dC, dI) vwCl [(cI, .int), (cJ, .long)] U ∧ va_D (fun _ => True) [(h0, .inr (4, [.int xth, .int xnv, .int xna, .ref agbi, .ref agab, .int xtl, .ref aghv, .ref agic, .ref agbe, .int xmk, .ref agmt, .ref agmv, .ref agma, .ref agnd, .ref agre, .ref agse, .ref aglv, .ref agal, .ref agds, .ref agno, .ref agna]))] ∧ nw U)) (va_Qi (fun (r : Int32) (u : Unit) => post r) (fun (u : Unit) (t : State) => va_P (dC, dI) vwCl [(h0, .inr (4, [.int xth, .int xnv, .int xna, .ref agbi, .ref agab, .int xtl, .ref aghv, .ref agic, .ref agbe, .int xmk, .ref agmt, .ref agmv, .ref agma, .ref agnd, .ref agre, .ref agse, .ref aglv, .ref agal, .ref agds, .ref agno, .ref agna]))] t.heap ∧ va_K (dC, dI) vwCl [(cI, .int), (cJ, .long)] t ∧ va_D (va_A [(h0, .inr (4, [.int xth, .int xnv, .int xna, .ref agbi, .ref agab, .int xtl, .ref aghv, .ref agic, .ref agbe, .int xmk, .ref agmt, .ref agmv, .ref agma, .ref agnd, .ref agre, .ref agse, .ref aglv, .ref agal, .ref agds, .ref agno, .ref agna]))] sz) [(h0, .inr (4, [.int xth, .int xnv, .int xna, .ref agbi, .ref agab, .int xtl, .ref aghv, .ref agic, .ref agbe, .int xmk, .ref agmt, .ref agmv, .ref agma, .ref agnd, .ref agre, .ref agse, .ref aglv, .ref agal, .ref agds, .ref agno, .ref agna]))]) (va_A [(h0, .inr (4, [.int xth, .int xnv, .int xna, .ref agbi, .ref agab, .int xtl, .ref aghv, .ref agic, .ref agbe, .int xmk, .ref agmt, .ref agmv, .ref agma, .ref agnd, .ref agre, .ref agse, .ref aglv, .ref agal, .ref agds, .ref agno, .ref agna]))] sz)) 0 0 (va_A [(h0, .inr (4, [.int xth, .int xnv, .int xna, .ref agbi, .ref agab, .int xtl, .ref aghv, .ref agic, .ref agbe, .int xmk, .ref agmt, .ref agmv, .ref agma, .ref agnd, .ref agre, .ref agse, .ref aglv, .ref agal, .ref agds, .ref agno, .ref agna]))] sz) := by
  refine Met.ofW (cc := cX4_thrown) (maxL := 1) (ret := (some .int)) (by decide) rfl ?_
  intro p e s m args below meth c s₁ B hml hv
  obtain ⟨rfl, hsz, hP, hK, hD0, hN⟩ := hv
  have hx := B.exec
  have hb := B.bytes
  have hr := B.returns
  have hts := atoms_spec (ws := wsX4_thrown) B.pre
  have hown : s.vm.findClass RX4 = some m.cls := findClass_of_methodNamed B.named
  have hlocks := B.notSynchronized
  subst hsz
  have hD := hD0.self (sz := s.heap.size)
  generalize hAe : va_A [(h0, .inr (4, [.int xth, .int xnv, .int xna, .ref agbi, .ref agab, .int xtl, .ref aghv, .ref agic, .ref agbe, .int xmk, .ref agmt, .ref agmv, .ref agma, .ref agnd, .ref agre, .ref agse, .ref aglv, .ref agal, .ref agds, .ref agno, .ref agna]))] s.heap.size = A at hD ⊢
  have hA : ∀ q : Nat, s.heap.size ≤ q → A q := fun q h => by rw [← hAe]; exact Or.inr h
  have hS : va_S A s.heap s.heap [] := va_S.rf
  have hl := lv_entry ([.ref h0]) (n := 1) (Nat.le_of_ble_eq_true rfl)
  rw [lg_entry_eq]
  generalize (lg_sl ([.ref h0]) ++ List.replicate (1 - (lg_sl ([.ref h0])).length) Slot.unset).toArray = ls at hl ⊢
  replace hl : lv_has ls 1 [(0, .ref h0)] := hl
  have hw0 := (show ∀ w ∈ wsX40, w ∈ wsX4_thrown from by decide +kernel)
  have hw1 := hts (.fieldLink RX4 59 "EffectNetsModel" "thrown" "I") (by decide +kernel)
  refine hsp _ ?_
  · intro ht
    refine lv_aload_n hx hb dX4_thrown_0 rfl (lv_at hl 0 rfl) ?_
    refine va_get (D := (dC, dI)) (ci := 4) (v := .int xth) (C := RX4) (T := TX4) (N := 21) hx hb hts hw0 hown hK hP 0 rfl rfl 0 (by decide) hw1 (fun _ h9 => h9) rfl dX4_thrown_1 ?_
    have hP9 : va_P (dC, dI) vwCl [(h0, .inr (4, [.int xth, .int xnv, .int xna, .ref agbi, .ref agab, .int xtl, .ref aghv, .ref agic, .ref agbe, .int xmk, .ref agmt, .ref agmv, .ref agma, .ref agnd, .ref agre, .ref agse, .ref aglv, .ref agal, .ref agds, .ref agno, .ref agna]))] _ := hP
    have hD9 : va_D A [(h0, .inr (4, [.int xth, .int xnv, .int xna, .ref agbi, .ref agab, .int xtl, .ref aghv, .ref agic, .ref agbe, .int xmk, .ref agmt, .ref agmv, .ref agma, .ref agnd, .ref agre, .ref agse, .ref aglv, .ref agal, .ref agds, .ref agno, .ref agna]))] := hD
    exact W.iret (v := xth) hx hb hr (fun t ht9 hW => ⟨⟨xth, (), rfl, ht, by rw [ht9]; exact hP9, va_K.moved hW.alike hK, hD9⟩, hS.F ht9⟩) hS.2.2 dX4_thrown_4
set_option maxHeartbeats 4000000 in
set_option maxRecDepth 100000 in
theorem c_X4_goes (l : Launch) (dC : Nat → ClassId) (dI : Nat → Nat → Nat) (cI cJ : ClassId) (h0 : Nat) (agbi : Nat) (agab : Nat) (aghv : Nat) (agic : Nat) (agbe : Nat) (agmt : Nat) (agmv : Nat) (agma : Nat) (agnd : Nat) (agre : Nat) (agse : Nat) (aglv : Nat) (agal : Nat) (agds : Nat) (agno : Nat) (agna : Nat) (xth : Int32) (xnv : Int32) (xna : Int32) (xtl : Int32) (xmk : Int32) (sz : Nat) (p1 : Int32) (p2 : Int32) (post : Int32 → Int32 → Prop) (hsp : S_X4_goes p1 p2 xth post) : Met l yX4_goes wsX4_goes ({ frames := 0, cells := 0, slots := 0, locals := 0 }) (va_Pc [.ref h0, .int p1, .int p2] (fun U => U.heap.size = sz ∧ va_P (dC, dI) vwCl [(h0, .inr (4, [.int xth, .int xnv, .int xna, .ref agbi, .ref agab, .int xtl, .ref aghv, .ref agic, .ref agbe, .int xmk, .ref agmt, .ref agmv, .ref agma, .ref agnd, .ref agre, .ref agse, .ref aglv, .ref agal, .ref agds, .ref agno, .ref agna]))] U.heap ∧ va_K (dC, dI) vwCl [(cI, .int), (cJ, .long)] U ∧ va_D (fun _ => True) [(h0, .inr (4, [.int xth, .int xnv, .int xna, .ref agbi, .ref agab, .int xtl, .ref aghv, .ref agic, .ref agbe, .int xmk, .ref agmt, .ref agmv, .ref agma, .ref agnd, .ref agre, .ref agse, .ref aglv, .ref agal, .ref agds, .ref agno, .ref agna]))] ∧ nw U)) (va_Qi (fun (r : Int32) (u : Int32) => post r u) (fun (u : Int32) (t : State) => va_P (dC, dI) vwCl [(h0, .inr (4, [.int u, .int xnv, .int xna, .ref agbi, .ref agab, .int xtl, .ref aghv, .ref agic, .ref agbe, .int xmk, .ref agmt, .ref agmv, .ref agma, .ref agnd, .ref agre, .ref agse, .ref aglv, .ref agal, .ref agds, .ref agno, .ref agna]))] t.heap ∧ va_K (dC, dI) vwCl [(cI, .int), (cJ, .long)] t ∧ va_D (va_A [(h0, .inr (4, [.int xth, .int xnv, .int xna, .ref agbi, .ref agab, .int xtl, .ref aghv, .ref agic, .ref agbe, .int xmk, .ref agmt, .ref agmv, .ref agma, .ref agnd, .ref agre, .ref agse, .ref aglv, .ref agal, .ref agds, .ref agno, .ref agna]))] sz) [(h0, .inr (4, [.int u, .int xnv, .int xna, .ref agbi, .ref agab, .int xtl, .ref aghv, .ref agic, .ref agbe, .int xmk, .ref agmt, .ref agmv, .ref agma, .ref agnd, .ref agre, .ref agse, .ref aglv, .ref agal, .ref agds, .ref agno, .ref agna]))]) (va_A [(h0, .inr (4, [.int xth, .int xnv, .int xna, .ref agbi, .ref agab, .int xtl, .ref aghv, .ref agic, .ref agbe, .int xmk, .ref agmt, .ref agmv, .ref agma, .ref agnd, .ref agre, .ref agse, .ref aglv, .ref agal, .ref agds, .ref agno, .ref agna]))] sz)) 0 0 (va_A [(h0, .inr (4, [.int xth, .int xnv, .int xna, .ref agbi, .ref agab, .int xtl, .ref aghv, .ref agic, .ref agbe, .int xmk, .ref agmt, .ref agmv, .ref agma, .ref agnd, .ref agre, .ref agse, .ref aglv, .ref agal, .ref agds, .ref agno, .ref agna]))] sz) := by
  refine Met.ofW (cc := cX4_goes) (maxL := 3) (ret := (some .boolean)) (by decide) rfl ?_
  intro p e s m args below meth c s₁ B hml hv
  obtain ⟨rfl, hsz, hP, hK, hD0, hN⟩ := hv
  have hx := B.exec
  have hb := B.bytes
  have hr := B.returns
  have hts := atoms_spec (ws := wsX4_goes) B.pre
  have hown : s.vm.findClass RX4 = some m.cls := findClass_of_methodNamed B.named
  have hlocks := B.notSynchronized
  subst hsz
  have hD := hD0.self (sz := s.heap.size)
  generalize hAe : va_A [(h0, .inr (4, [.int xth, .int xnv, .int xna, .ref agbi, .ref agab, .int xtl, .ref aghv, .ref agic, .ref agbe, .int xmk, .ref agmt, .ref agmv, .ref agma, .ref agnd, .ref agre, .ref agse, .ref aglv, .ref agal, .ref agds, .ref agno, .ref agna]))] s.heap.size = A at hD ⊢
  have hA : ∀ q : Nat, s.heap.size ≤ q → A q := fun q h => by rw [← hAe]; exact Or.inr h
  have hS : va_S A s.heap s.heap [] := va_S.rf
  have hl := lv_entry ([.ref h0, .int p1, .int p2]) (n := 3) (Nat.le_of_ble_eq_true rfl)
  rw [lg_entry_eq]
  generalize (lg_sl ([.ref h0, .int p1, .int p2]) ++ List.replicate (3 - (lg_sl ([.ref h0, .int p1, .int p2])).length) Slot.unset).toArray = ls at hl ⊢
  replace hl : lv_has ls 3 [(0, .ref h0), (1, .int p1), (2, .int p2)] := hl
  have hw0 := (show ∀ w ∈ wsX40, w ∈ wsX4_goes from by decide +kernel)
  have hw1 := hts (.fieldLink RX4 59 "EffectNetsModel" "thrown" "I") (by decide +kernel)
  refine hsp _ ?_
  · intro ht
    refine lv_aload_n hx hb dX4_goes_0 rfl (lv_at hl 0 rfl) ?_
    refine lv_iload_n hx hb dX4_goes_1 rfl (lv_at hl 1 rfl) ?_
    refine lv_if_ne (tgt := 9) hx hb dX4_goes_2 (by decide) (fun c1 => ?_) (fun c1 => ?_)
    · replace ht := ht.1 c1
      refine lv_iload_n hx hb dX4_goes_9 rfl (lv_at hl 2 rfl) ?_
      refine lv_if_ne (tgt := 17) hx hb dX4_goes_10 (by decide) (fun c2 => ?_) (fun c2 => ?_)
      · replace ht := ht.1 c2
        refine lv_iconst (v := 0) hx hb dX4_goes_17 (by decide) ?_
        refine va_put (D := (dC, dI)) (ci := 4) (v := .int 0) (ty := .int) (C := RX4) (T := TX4) (N := 21) hx hb hts hw0 tyX4 tyX4_ok nmX4 hown hK hP hD hS 0 rfl rfl 0 (by decide) hw1 (fun _ h9 => h9) rfl (by decide +kernel) rfl rfl (Nat.le_of_ble_eq_true rfl) dX4_goes_18 (fun H locs hP hD hS => ?_)
        replace hP : va_P (dC, dI) vwCl [(h0, .inr (4, [.int 0, .int xnv, .int xna, .ref agbi, .ref agab, .int xtl, .ref aghv, .ref agic, .ref agbe, .int xmk, .ref agmt, .ref agmv, .ref agma, .ref agnd, .ref agre, .ref agse, .ref aglv, .ref agal, .ref agds, .ref agno, .ref agna]))] H := hP
        replace hD : va_D A [(h0, .inr (4, [.int 0, .int xnv, .int xna, .ref agbi, .ref agab, .int xtl, .ref aghv, .ref agic, .ref agbe, .int xmk, .ref agmt, .ref agmv, .ref agma, .ref agnd, .ref agre, .ref agse, .ref aglv, .ref agal, .ref agds, .ref agno, .ref agna]))] := hD
        refine lv_aload_n hx hb dX4_goes_21 rfl (lv_at hl 0 rfl) ?_
        refine va_get (D := (dC, dI)) (ci := 4) (v := .int 0) (C := RX4) (T := TX4) (N := 21) hx hb hts hw0 hown hK hP 0 rfl rfl 0 (by decide) hw1 (fun _ h9 => h9) rfl dX4_goes_22 ?_
        refine lv_if_ne (tgt := 32) hx hb dX4_goes_25 (by decide) (fun c3 => ?_) (fun c3 => ?_)
        · exact absurd c3 (by decide)
        · refine lv_iconst (v := 1) hx hb dX4_goes_28 (by decide) ?_
          refine lv_goto (tgt := 33) hx hb dX4_goes_29 (by decide) ?_
          have hP9 : va_P (dC, dI) vwCl [(h0, .inr (4, [.int 0, .int xnv, .int xna, .ref agbi, .ref agab, .int xtl, .ref aghv, .ref agic, .ref agbe, .int xmk, .ref agmt, .ref agmv, .ref agma, .ref agnd, .ref agre, .ref agse, .ref aglv, .ref agal, .ref agds, .ref agno, .ref agna]))] _ := hP
          have hD9 : va_D A [(h0, .inr (4, [.int 0, .int xnv, .int xna, .ref agbi, .ref agab, .int xtl, .ref aghv, .ref agic, .ref agbe, .int xmk, .ref agmt, .ref agmv, .ref agma, .ref agnd, .ref agre, .ref agse, .ref aglv, .ref agal, .ref agds, .ref agno, .ref agna]))] := hD
          exact W.zret (v := 1) hx hb hr rfl (fun t ht9 hW => ⟨⟨1, 0, rfl, ht, by rw [ht9]; exact hP9, va_K.moved hW.alike hK, hD9⟩, hS.F ht9⟩) hS.2.2 dX4_goes_33
      · replace ht := ht.2 c2
        refine lv_iconst (v := 2) hx hb dX4_goes_13 (by decide) ?_
        refine lv_goto (tgt := 18) hx hb dX4_goes_14 (by decide) ?_
        refine va_put (D := (dC, dI)) (ci := 4) (v := .int 2) (ty := .int) (C := RX4) (T := TX4) (N := 21) hx hb hts hw0 tyX4 tyX4_ok nmX4 hown hK hP hD hS 0 rfl rfl 0 (by decide) hw1 (fun _ h9 => h9) rfl (by decide +kernel) rfl rfl (Nat.le_of_ble_eq_true rfl) dX4_goes_18 (fun H locs hP hD hS => ?_)
        replace hP : va_P (dC, dI) vwCl [(h0, .inr (4, [.int 2, .int xnv, .int xna, .ref agbi, .ref agab, .int xtl, .ref aghv, .ref agic, .ref agbe, .int xmk, .ref agmt, .ref agmv, .ref agma, .ref agnd, .ref agre, .ref agse, .ref aglv, .ref agal, .ref agds, .ref agno, .ref agna]))] H := hP
        replace hD : va_D A [(h0, .inr (4, [.int 2, .int xnv, .int xna, .ref agbi, .ref agab, .int xtl, .ref aghv, .ref agic, .ref agbe, .int xmk, .ref agmt, .ref agmv, .ref agma, .ref agnd, .ref agre, .ref agse, .ref aglv, .ref agal, .ref agds, .ref agno, .ref agna]))] := hD
        refine lv_aload_n hx hb dX4_goes_21 rfl (lv_at hl 0 rfl) ?_
        refine va_get (D := (dC, dI)) (ci := 4) (v := .int 2) (C := RX4) (T := TX4) (N := 21) hx hb hts hw0 hown hK hP 0 rfl rfl 0 (by decide) hw1 (fun _ h9 => h9) rfl dX4_goes_22 ?_
        refine lv_if_ne (tgt := 32) hx hb dX4_goes_25 (by decide) (fun c4 => ?_) (fun c4 => ?_)
        · refine lv_iconst (v := 0) hx hb dX4_goes_32 (by decide) ?_
          have hP9 : va_P (dC, dI) vwCl [(h0, .inr (4, [.int 2, .int xnv, .int xna, .ref agbi, .ref agab, .int xtl, .ref aghv, .ref agic, .ref agbe, .int xmk, .ref agmt, .ref agmv, .ref agma, .ref agnd, .ref agre, .ref agse, .ref aglv, .ref agal, .ref agds, .ref agno, .ref agna]))] _ := hP
          have hD9 : va_D A [(h0, .inr (4, [.int 2, .int xnv, .int xna, .ref agbi, .ref agab, .int xtl, .ref aghv, .ref agic, .ref agbe, .int xmk, .ref agmt, .ref agmv, .ref agma, .ref agnd, .ref agre, .ref agse, .ref aglv, .ref agal, .ref agds, .ref agno, .ref agna]))] := hD
          exact W.zret (v := 0) hx hb hr rfl (fun t ht9 hW => ⟨⟨0, 2, rfl, ht, by rw [ht9]; exact hP9, va_K.moved hW.alike hK, hD9⟩, hS.F ht9⟩) hS.2.2 dX4_goes_33
        · exact absurd c4 (by decide)
    · replace ht := ht.2 c1
      refine lv_iconst (v := 1) hx hb dX4_goes_5 (by decide) ?_
      refine lv_goto (tgt := 18) hx hb dX4_goes_6 (by decide) ?_
      refine va_put (D := (dC, dI)) (ci := 4) (v := .int 1) (ty := .int) (C := RX4) (T := TX4) (N := 21) hx hb hts hw0 tyX4 tyX4_ok nmX4 hown hK hP hD hS 0 rfl rfl 0 (by decide) hw1 (fun _ h9 => h9) rfl (by decide +kernel) rfl rfl (Nat.le_of_ble_eq_true rfl) dX4_goes_18 (fun H locs hP hD hS => ?_)
      replace hP : va_P (dC, dI) vwCl [(h0, .inr (4, [.int 1, .int xnv, .int xna, .ref agbi, .ref agab, .int xtl, .ref aghv, .ref agic, .ref agbe, .int xmk, .ref agmt, .ref agmv, .ref agma, .ref agnd, .ref agre, .ref agse, .ref aglv, .ref agal, .ref agds, .ref agno, .ref agna]))] H := hP
      replace hD : va_D A [(h0, .inr (4, [.int 1, .int xnv, .int xna, .ref agbi, .ref agab, .int xtl, .ref aghv, .ref agic, .ref agbe, .int xmk, .ref agmt, .ref agmv, .ref agma, .ref agnd, .ref agre, .ref agse, .ref aglv, .ref agal, .ref agds, .ref agno, .ref agna]))] := hD
      refine lv_aload_n hx hb dX4_goes_21 rfl (lv_at hl 0 rfl) ?_
      refine va_get (D := (dC, dI)) (ci := 4) (v := .int 1) (C := RX4) (T := TX4) (N := 21) hx hb hts hw0 hown hK hP 0 rfl rfl 0 (by decide) hw1 (fun _ h9 => h9) rfl dX4_goes_22 ?_
      refine lv_if_ne (tgt := 32) hx hb dX4_goes_25 (by decide) (fun c5 => ?_) (fun c5 => ?_)
      · refine lv_iconst (v := 0) hx hb dX4_goes_32 (by decide) ?_
        have hP9 : va_P (dC, dI) vwCl [(h0, .inr (4, [.int 1, .int xnv, .int xna, .ref agbi, .ref agab, .int xtl, .ref aghv, .ref agic, .ref agbe, .int xmk, .ref agmt, .ref agmv, .ref agma, .ref agnd, .ref agre, .ref agse, .ref aglv, .ref agal, .ref agds, .ref agno, .ref agna]))] _ := hP
        have hD9 : va_D A [(h0, .inr (4, [.int 1, .int xnv, .int xna, .ref agbi, .ref agab, .int xtl, .ref aghv, .ref agic, .ref agbe, .int xmk, .ref agmt, .ref agmv, .ref agma, .ref agnd, .ref agre, .ref agse, .ref aglv, .ref agal, .ref agds, .ref agno, .ref agna]))] := hD
        exact W.zret (v := 0) hx hb hr rfl (fun t ht9 hW => ⟨⟨0, 1, rfl, ht, by rw [ht9]; exact hP9, va_K.moved hW.alike hK, hD9⟩, hS.F ht9⟩) hS.2.2 dX4_goes_33
      · exact absurd c5 (by decide)
set_option maxHeartbeats 4000000 in
set_option maxRecDepth 100000 in
theorem c_X4_isVariable (l : Launch) (dC : Nat → ClassId) (dI : Nat → Nat → Nat) (cI cJ : ClassId) (h0 : Nat) (agbi : Nat) (agab : Nat) (aghv : Nat) (agic : Nat) (agbe : Nat) (agmt : Nat) (agmv : Nat) (agma : Nat) (agnd : Nat) (agre : Nat) (agse : Nat) (aglv : Nat) (agal : Nat) (agds : Nat) (agno : Nat) (agna : Nat) (xth : Int32) (xnv : Int32) (xna : Int32) (xtl : Int32) (xmk : Int32) (sz : Nat) (p1 : Int32) (post : Int32 → Prop) (hsp : S_X4_isVariable p1 xnv post) : Met l yX4_isVariable wsX4_isVariable ({ frames := 0, cells := 0, slots := 0, locals := 0 }) (va_Pc [.ref h0, .int p1] (fun U => U.heap.size = sz ∧ va_P (dC, dI) vwCl [(h0, .inr (4, [.int xth, .int xnv, .int xna, .ref agbi, .ref agab, .int xtl, .ref aghv, .ref agic, .ref agbe, .int xmk, .ref agmt, .ref agmv, .ref agma, .ref agnd, .ref agre, .ref agse, .ref aglv, .ref agal, .ref agds, .ref agno, .ref agna]))] U.heap ∧ va_K (dC, dI) vwCl [(cI, .int), (cJ, .long)] U ∧ va_D (fun _ => True) [(h0, .inr (4, [.int xth, .int xnv, .int xna, .ref agbi, .ref agab, .int xtl, .ref aghv, .ref agic, .ref agbe, .int xmk, .ref agmt, .ref agmv, .ref agma, .ref agnd, .ref agre, .ref agse, .ref aglv, .ref agal, .ref agds, .ref agno, .ref agna]))] ∧ nw U)) (va_Qi (fun (r : Int32) (u : Unit) => post r) (fun (u : Unit) (t : State) => va_P (dC, dI) vwCl [(h0, .inr (4, [.int xth, .int xnv, .int xna, .ref agbi, .ref agab, .int xtl, .ref aghv, .ref agic, .ref agbe, .int xmk, .ref agmt, .ref agmv, .ref agma, .ref agnd, .ref agre, .ref agse, .ref aglv, .ref agal, .ref agds, .ref agno, .ref agna]))] t.heap ∧ va_K (dC, dI) vwCl [(cI, .int), (cJ, .long)] t ∧ va_D (va_A [(h0, .inr (4, [.int xth, .int xnv, .int xna, .ref agbi, .ref agab, .int xtl, .ref aghv, .ref agic, .ref agbe, .int xmk, .ref agmt, .ref agmv, .ref agma, .ref agnd, .ref agre, .ref agse, .ref aglv, .ref agal, .ref agds, .ref agno, .ref agna]))] sz) [(h0, .inr (4, [.int xth, .int xnv, .int xna, .ref agbi, .ref agab, .int xtl, .ref aghv, .ref agic, .ref agbe, .int xmk, .ref agmt, .ref agmv, .ref agma, .ref agnd, .ref agre, .ref agse, .ref aglv, .ref agal, .ref agds, .ref agno, .ref agna]))]) (va_A [(h0, .inr (4, [.int xth, .int xnv, .int xna, .ref agbi, .ref agab, .int xtl, .ref aghv, .ref agic, .ref agbe, .int xmk, .ref agmt, .ref agmv, .ref agma, .ref agnd, .ref agre, .ref agse, .ref aglv, .ref agal, .ref agds, .ref agno, .ref agna]))] sz)) 0 0 (va_A [(h0, .inr (4, [.int xth, .int xnv, .int xna, .ref agbi, .ref agab, .int xtl, .ref aghv, .ref agic, .ref agbe, .int xmk, .ref agmt, .ref agmv, .ref agma, .ref agnd, .ref agre, .ref agse, .ref aglv, .ref agal, .ref agds, .ref agno, .ref agna]))] sz) := by
  refine Met.ofW (cc := cX4_isVariable) (maxL := 2) (ret := (some .boolean)) (by decide) rfl ?_
  intro p e s m args below meth c s₁ B hml hv
  obtain ⟨rfl, hsz, hP, hK, hD0, hN⟩ := hv
  have hx := B.exec
  have hb := B.bytes
  have hr := B.returns
  have hts := atoms_spec (ws := wsX4_isVariable) B.pre
  have hown : s.vm.findClass RX4 = some m.cls := findClass_of_methodNamed B.named
  have hlocks := B.notSynchronized
  subst hsz
  have hD := hD0.self (sz := s.heap.size)
  generalize hAe : va_A [(h0, .inr (4, [.int xth, .int xnv, .int xna, .ref agbi, .ref agab, .int xtl, .ref aghv, .ref agic, .ref agbe, .int xmk, .ref agmt, .ref agmv, .ref agma, .ref agnd, .ref agre, .ref agse, .ref aglv, .ref agal, .ref agds, .ref agno, .ref agna]))] s.heap.size = A at hD ⊢
  have hA : ∀ q : Nat, s.heap.size ≤ q → A q := fun q h => by rw [← hAe]; exact Or.inr h
  have hS : va_S A s.heap s.heap [] := va_S.rf
  have hl := lv_entry ([.ref h0, .int p1]) (n := 2) (Nat.le_of_ble_eq_true rfl)
  rw [lg_entry_eq]
  generalize (lg_sl ([.ref h0, .int p1]) ++ List.replicate (2 - (lg_sl ([.ref h0, .int p1])).length) Slot.unset).toArray = ls at hl ⊢
  replace hl : lv_has ls 2 [(0, .ref h0), (1, .int p1)] := hl
  have hw0 := (show ∀ w ∈ wsX40, w ∈ wsX4_isVariable from by decide +kernel)
  have hw1 := hts (.fieldLink RX4 63 "EffectNetsModel" "variables" "I") (by decide +kernel)
  refine hsp _ ?_
  · intro ht
    refine lv_iload_n hx hb dX4_isVariable_0 rfl (lv_at hl 1 rfl) ?_
    refine lv_if_lt (tgt := 16) hx hb dX4_isVariable_1 (by decide) (fun c1 => ?_) (fun c1 => ?_)
    · replace ht := ht.1 c1
      refine lv_iconst (v := 0) hx hb dX4_isVariable_16 (by decide) ?_
      have hP9 : va_P (dC, dI) vwCl [(h0, .inr (4, [.int xth, .int xnv, .int xna, .ref agbi, .ref agab, .int xtl, .ref aghv, .ref agic, .ref agbe, .int xmk, .ref agmt, .ref agmv, .ref agma, .ref agnd, .ref agre, .ref agse, .ref aglv, .ref agal, .ref agds, .ref agno, .ref agna]))] _ := hP
      have hD9 : va_D A [(h0, .inr (4, [.int xth, .int xnv, .int xna, .ref agbi, .ref agab, .int xtl, .ref aghv, .ref agic, .ref agbe, .int xmk, .ref agmt, .ref agmv, .ref agma, .ref agnd, .ref agre, .ref agse, .ref aglv, .ref agal, .ref agds, .ref agno, .ref agna]))] := hD
      exact W.zret (v := 0) hx hb hr rfl (fun t ht9 hW => ⟨⟨0, (), rfl, ht, by rw [ht9]; exact hP9, va_K.moved hW.alike hK, hD9⟩, hS.F ht9⟩) hS.2.2 dX4_isVariable_17
    · replace ht := ht.2 c1
      refine lv_iload_n hx hb dX4_isVariable_4 rfl (lv_at hl 1 rfl) ?_
      refine lv_aload_n hx hb dX4_isVariable_5 rfl (lv_at hl 0 rfl) ?_
      refine va_get (D := (dC, dI)) (ci := 4) (v := .int xnv) (C := RX4) (T := TX4) (N := 21) hx hb hts hw0 hown hK hP 0 rfl rfl 1 (by decide) hw1 (fun _ h9 => h9) rfl dX4_isVariable_6 ?_
      refine lv_icmp_ge (tgt := 16) hx hb dX4_isVariable_9 (by decide) (fun c2 => ?_) (fun c2 => ?_)
      · replace ht := ht.1 c2
        refine lv_iconst (v := 0) hx hb dX4_isVariable_16 (by decide) ?_
        have hP9 : va_P (dC, dI) vwCl [(h0, .inr (4, [.int xth, .int xnv, .int xna, .ref agbi, .ref agab, .int xtl, .ref aghv, .ref agic, .ref agbe, .int xmk, .ref agmt, .ref agmv, .ref agma, .ref agnd, .ref agre, .ref agse, .ref aglv, .ref agal, .ref agds, .ref agno, .ref agna]))] _ := hP
        have hD9 : va_D A [(h0, .inr (4, [.int xth, .int xnv, .int xna, .ref agbi, .ref agab, .int xtl, .ref aghv, .ref agic, .ref agbe, .int xmk, .ref agmt, .ref agmv, .ref agma, .ref agnd, .ref agre, .ref agse, .ref aglv, .ref agal, .ref agds, .ref agno, .ref agna]))] := hD
        exact W.zret (v := 0) hx hb hr rfl (fun t ht9 hW => ⟨⟨0, (), rfl, ht, by rw [ht9]; exact hP9, va_K.moved hW.alike hK, hD9⟩, hS.F ht9⟩) hS.2.2 dX4_isVariable_17
      · replace ht := ht.2 c2
        refine lv_iconst (v := 1) hx hb dX4_isVariable_12 (by decide) ?_
        refine lv_goto (tgt := 17) hx hb dX4_isVariable_13 (by decide) ?_
        have hP9 : va_P (dC, dI) vwCl [(h0, .inr (4, [.int xth, .int xnv, .int xna, .ref agbi, .ref agab, .int xtl, .ref aghv, .ref agic, .ref agbe, .int xmk, .ref agmt, .ref agmv, .ref agma, .ref agnd, .ref agre, .ref agse, .ref aglv, .ref agal, .ref agds, .ref agno, .ref agna]))] _ := hP
        have hD9 : va_D A [(h0, .inr (4, [.int xth, .int xnv, .int xna, .ref agbi, .ref agab, .int xtl, .ref aghv, .ref agic, .ref agbe, .int xmk, .ref agmt, .ref agmv, .ref agma, .ref agnd, .ref agre, .ref agse, .ref aglv, .ref agal, .ref agds, .ref agno, .ref agna]))] := hD
        exact W.zret (v := 1) hx hb hr rfl (fun t ht9 hW => ⟨⟨1, (), rfl, ht, by rw [ht9]; exact hP9, va_K.moved hW.alike hK, hD9⟩, hS.F ht9⟩) hS.2.2 dX4_isVariable_17
set_option maxHeartbeats 4000000 in
set_option maxRecDepth 100000 in
theorem c_X4_isAtom (l : Launch) (dC : Nat → ClassId) (dI : Nat → Nat → Nat) (cI cJ : ClassId) (h0 : Nat) (agbi : Nat) (agab : Nat) (aghv : Nat) (agic : Nat) (agbe : Nat) (agmt : Nat) (agmv : Nat) (agma : Nat) (agnd : Nat) (agre : Nat) (agse : Nat) (aglv : Nat) (agal : Nat) (agds : Nat) (agno : Nat) (agna : Nat) (xth : Int32) (xnv : Int32) (xna : Int32) (xtl : Int32) (xmk : Int32) (sz : Nat) (p1 : Int32) (post : Int32 → Prop) (hsp : S_X4_isAtom p1 xna post) : Met l yX4_isAtom wsX4_isAtom ({ frames := 0, cells := 0, slots := 0, locals := 0 }) (va_Pc [.ref h0, .int p1] (fun U => U.heap.size = sz ∧ va_P (dC, dI) vwCl [(h0, .inr (4, [.int xth, .int xnv, .int xna, .ref agbi, .ref agab, .int xtl, .ref aghv, .ref agic, .ref agbe, .int xmk, .ref agmt, .ref agmv, .ref agma, .ref agnd, .ref agre, .ref agse, .ref aglv, .ref agal, .ref agds, .ref agno, .ref agna]))] U.heap ∧ va_K (dC, dI) vwCl [(cI, .int), (cJ, .long)] U ∧ va_D (fun _ => True) [(h0, .inr (4, [.int xth, .int xnv, .int xna, .ref agbi, .ref agab, .int xtl, .ref aghv, .ref agic, .ref agbe, .int xmk, .ref agmt, .ref agmv, .ref agma, .ref agnd, .ref agre, .ref agse, .ref aglv, .ref agal, .ref agds, .ref agno, .ref agna]))] ∧ nw U)) (va_Qi (fun (r : Int32) (u : Unit) => post r) (fun (u : Unit) (t : State) => va_P (dC, dI) vwCl [(h0, .inr (4, [.int xth, .int xnv, .int xna, .ref agbi, .ref agab, .int xtl, .ref aghv, .ref agic, .ref agbe, .int xmk, .ref agmt, .ref agmv, .ref agma, .ref agnd, .ref agre, .ref agse, .ref aglv, .ref agal, .ref agds, .ref agno, .ref agna]))] t.heap ∧ va_K (dC, dI) vwCl [(cI, .int), (cJ, .long)] t ∧ va_D (va_A [(h0, .inr (4, [.int xth, .int xnv, .int xna, .ref agbi, .ref agab, .int xtl, .ref aghv, .ref agic, .ref agbe, .int xmk, .ref agmt, .ref agmv, .ref agma, .ref agnd, .ref agre, .ref agse, .ref aglv, .ref agal, .ref agds, .ref agno, .ref agna]))] sz) [(h0, .inr (4, [.int xth, .int xnv, .int xna, .ref agbi, .ref agab, .int xtl, .ref aghv, .ref agic, .ref agbe, .int xmk, .ref agmt, .ref agmv, .ref agma, .ref agnd, .ref agre, .ref agse, .ref aglv, .ref agal, .ref agds, .ref agno, .ref agna]))]) (va_A [(h0, .inr (4, [.int xth, .int xnv, .int xna, .ref agbi, .ref agab, .int xtl, .ref aghv, .ref agic, .ref agbe, .int xmk, .ref agmt, .ref agmv, .ref agma, .ref agnd, .ref agre, .ref agse, .ref aglv, .ref agal, .ref agds, .ref agno, .ref agna]))] sz)) 0 0 (va_A [(h0, .inr (4, [.int xth, .int xnv, .int xna, .ref agbi, .ref agab, .int xtl, .ref aghv, .ref agic, .ref agbe, .int xmk, .ref agmt, .ref agmv, .ref agma, .ref agnd, .ref agre, .ref agse, .ref aglv, .ref agal, .ref agds, .ref agno, .ref agna]))] sz) := by
  refine Met.ofW (cc := cX4_isAtom) (maxL := 2) (ret := (some .boolean)) (by decide) rfl ?_
  intro p e s m args below meth c s₁ B hml hv
  obtain ⟨rfl, hsz, hP, hK, hD0, hN⟩ := hv
  have hx := B.exec
  have hb := B.bytes
  have hr := B.returns
  have hts := atoms_spec (ws := wsX4_isAtom) B.pre
  have hown : s.vm.findClass RX4 = some m.cls := findClass_of_methodNamed B.named
  have hlocks := B.notSynchronized
  subst hsz
  have hD := hD0.self (sz := s.heap.size)
  generalize hAe : va_A [(h0, .inr (4, [.int xth, .int xnv, .int xna, .ref agbi, .ref agab, .int xtl, .ref aghv, .ref agic, .ref agbe, .int xmk, .ref agmt, .ref agmv, .ref agma, .ref agnd, .ref agre, .ref agse, .ref aglv, .ref agal, .ref agds, .ref agno, .ref agna]))] s.heap.size = A at hD ⊢
  have hA : ∀ q : Nat, s.heap.size ≤ q → A q := fun q h => by rw [← hAe]; exact Or.inr h
  have hS : va_S A s.heap s.heap [] := va_S.rf
  have hl := lv_entry ([.ref h0, .int p1]) (n := 2) (Nat.le_of_ble_eq_true rfl)
  rw [lg_entry_eq]
  generalize (lg_sl ([.ref h0, .int p1]) ++ List.replicate (2 - (lg_sl ([.ref h0, .int p1])).length) Slot.unset).toArray = ls at hl ⊢
  replace hl : lv_has ls 2 [(0, .ref h0), (1, .int p1)] := hl
  have hw0 := (show ∀ w ∈ wsX40, w ∈ wsX4_isAtom from by decide +kernel)
  have hw1 := hts (.fieldLink RX4 66 "EffectNetsModel" "atoms" "I") (by decide +kernel)
  refine hsp _ ?_
  · intro ht
    refine lv_iload_n hx hb dX4_isAtom_0 rfl (lv_at hl 1 rfl) ?_
    refine lv_if_lt (tgt := 16) hx hb dX4_isAtom_1 (by decide) (fun c1 => ?_) (fun c1 => ?_)
    · replace ht := ht.1 c1
      refine lv_iconst (v := 0) hx hb dX4_isAtom_16 (by decide) ?_
      have hP9 : va_P (dC, dI) vwCl [(h0, .inr (4, [.int xth, .int xnv, .int xna, .ref agbi, .ref agab, .int xtl, .ref aghv, .ref agic, .ref agbe, .int xmk, .ref agmt, .ref agmv, .ref agma, .ref agnd, .ref agre, .ref agse, .ref aglv, .ref agal, .ref agds, .ref agno, .ref agna]))] _ := hP
      have hD9 : va_D A [(h0, .inr (4, [.int xth, .int xnv, .int xna, .ref agbi, .ref agab, .int xtl, .ref aghv, .ref agic, .ref agbe, .int xmk, .ref agmt, .ref agmv, .ref agma, .ref agnd, .ref agre, .ref agse, .ref aglv, .ref agal, .ref agds, .ref agno, .ref agna]))] := hD
      exact W.zret (v := 0) hx hb hr rfl (fun t ht9 hW => ⟨⟨0, (), rfl, ht, by rw [ht9]; exact hP9, va_K.moved hW.alike hK, hD9⟩, hS.F ht9⟩) hS.2.2 dX4_isAtom_17
    · replace ht := ht.2 c1
      refine lv_iload_n hx hb dX4_isAtom_4 rfl (lv_at hl 1 rfl) ?_
      refine lv_aload_n hx hb dX4_isAtom_5 rfl (lv_at hl 0 rfl) ?_
      refine va_get (D := (dC, dI)) (ci := 4) (v := .int xna) (C := RX4) (T := TX4) (N := 21) hx hb hts hw0 hown hK hP 0 rfl rfl 2 (by decide) hw1 (fun _ h9 => h9) rfl dX4_isAtom_6 ?_
      refine lv_icmp_ge (tgt := 16) hx hb dX4_isAtom_9 (by decide) (fun c2 => ?_) (fun c2 => ?_)
      · replace ht := ht.1 c2
        refine lv_iconst (v := 0) hx hb dX4_isAtom_16 (by decide) ?_
        have hP9 : va_P (dC, dI) vwCl [(h0, .inr (4, [.int xth, .int xnv, .int xna, .ref agbi, .ref agab, .int xtl, .ref aghv, .ref agic, .ref agbe, .int xmk, .ref agmt, .ref agmv, .ref agma, .ref agnd, .ref agre, .ref agse, .ref aglv, .ref agal, .ref agds, .ref agno, .ref agna]))] _ := hP
        have hD9 : va_D A [(h0, .inr (4, [.int xth, .int xnv, .int xna, .ref agbi, .ref agab, .int xtl, .ref aghv, .ref agic, .ref agbe, .int xmk, .ref agmt, .ref agmv, .ref agma, .ref agnd, .ref agre, .ref agse, .ref aglv, .ref agal, .ref agds, .ref agno, .ref agna]))] := hD
        exact W.zret (v := 0) hx hb hr rfl (fun t ht9 hW => ⟨⟨0, (), rfl, ht, by rw [ht9]; exact hP9, va_K.moved hW.alike hK, hD9⟩, hS.F ht9⟩) hS.2.2 dX4_isAtom_17
      · replace ht := ht.2 c2
        refine lv_iconst (v := 1) hx hb dX4_isAtom_12 (by decide) ?_
        refine lv_goto (tgt := 17) hx hb dX4_isAtom_13 (by decide) ?_
        have hP9 : va_P (dC, dI) vwCl [(h0, .inr (4, [.int xth, .int xnv, .int xna, .ref agbi, .ref agab, .int xtl, .ref aghv, .ref agic, .ref agbe, .int xmk, .ref agmt, .ref agmv, .ref agma, .ref agnd, .ref agre, .ref agse, .ref aglv, .ref agal, .ref agds, .ref agno, .ref agna]))] _ := hP
        have hD9 : va_D A [(h0, .inr (4, [.int xth, .int xnv, .int xna, .ref agbi, .ref agab, .int xtl, .ref aghv, .ref agic, .ref agbe, .int xmk, .ref agmt, .ref agmv, .ref agma, .ref agnd, .ref agre, .ref agse, .ref aglv, .ref agal, .ref agds, .ref agno, .ref agna]))] := hD
        exact W.zret (v := 1) hx hb hr rfl (fun t ht9 hW => ⟨⟨1, (), rfl, ht, by rw [ht9]; exact hP9, va_K.moved hW.alike hK, hD9⟩, hS.F ht9⟩) hS.2.2 dX4_isAtom_17
set_option maxHeartbeats 4000000 in
set_option maxRecDepth 100000 in
theorem c_X4_findNodes (l : Launch) (dC : Nat → ClassId) (dI : Nat → Nat → Nat) (cI cJ : ClassId) (h0 : Nat) (agbi : Nat) (agab : Nat) (aghv : Nat) (agic : Nat) (agbe : Nat) (agmt : Nat) (agmv : Nat) (agma : Nat) (agnd : Nat) (agre : Nat) (agse : Nat) (aglv : Nat) (agal : Nat) (agds : Nat) (agno : Nat) (agna : Nat) (xth : Int32) (xnv : Int32) (xna : Int32) (xtl : Int32) (xmk : Int32) (gbe : Nat → Int32) (gnd : Nat → Int32) (sz : Nat) (post : (Nat → Int32) → Prop) (hsp : S_X4_findNodes xnv gbe gnd post) : Met l yX4_findNodes wsX4_findNodes ({ frames := 0, cells := 0, slots := 0, locals := 0 }) (va_Pc [.ref h0] (fun U => U.heap.size = sz ∧ va_P (dC, dI) vwCl [(h0, .inr (4, [.int xth, .int xnv, .int xna, .ref agbi, .ref agab, .int xtl, .ref aghv, .ref agic, .ref agbe, .int xmk, .ref agmt, .ref agmv, .ref agma, .ref agnd, .ref agre, .ref agse, .ref aglv, .ref agal, .ref agds, .ref agno, .ref agna])), (agbe, .inl (cI, 3600, .inl gbe)), (agnd, .inl (cI, 60, .inl gnd))] U.heap ∧ va_K (dC, dI) vwCl [(cI, .int), (cJ, .long)] U ∧ va_D (fun _ => True) [(h0, .inr (4, [.int xth, .int xnv, .int xna, .ref agbi, .ref agab, .int xtl, .ref aghv, .ref agic, .ref agbe, .int xmk, .ref agmt, .ref agmv, .ref agma, .ref agnd, .ref agre, .ref agse, .ref aglv, .ref agal, .ref agds, .ref agno, .ref agna])), (agbe, .inl (cI, 3600, .inl gbe)), (agnd, .inl (cI, 60, .inl gnd))] ∧ nw U)) (va_Qv (fun (u : (Nat → Int32)) => post u) (fun (u : (Nat → Int32)) (t : State) => va_P (dC, dI) vwCl [(h0, .inr (4, [.int xth, .int xnv, .int xna, .ref agbi, .ref agab, .int xtl, .ref aghv, .ref agic, .ref agbe, .int xmk, .ref agmt, .ref agmv, .ref agma, .ref agnd, .ref agre, .ref agse, .ref aglv, .ref agal, .ref agds, .ref agno, .ref agna])), (agbe, .inl (cI, 3600, .inl gbe)), (agnd, .inl (cI, 60, .inl u))] t.heap ∧ va_K (dC, dI) vwCl [(cI, .int), (cJ, .long)] t ∧ va_D (va_A [(h0, .inr (4, [.int xth, .int xnv, .int xna, .ref agbi, .ref agab, .int xtl, .ref aghv, .ref agic, .ref agbe, .int xmk, .ref agmt, .ref agmv, .ref agma, .ref agnd, .ref agre, .ref agse, .ref aglv, .ref agal, .ref agds, .ref agno, .ref agna])), (agbe, .inl (cI, 3600, .inl gbe)), (agnd, .inl (cI, 60, .inl gnd))] sz) [(h0, .inr (4, [.int xth, .int xnv, .int xna, .ref agbi, .ref agab, .int xtl, .ref aghv, .ref agic, .ref agbe, .int xmk, .ref agmt, .ref agmv, .ref agma, .ref agnd, .ref agre, .ref agse, .ref aglv, .ref agal, .ref agds, .ref agno, .ref agna])), (agbe, .inl (cI, 3600, .inl gbe)), (agnd, .inl (cI, 60, .inl u))]) (va_A [(h0, .inr (4, [.int xth, .int xnv, .int xna, .ref agbi, .ref agab, .int xtl, .ref aghv, .ref agic, .ref agbe, .int xmk, .ref agmt, .ref agmv, .ref agma, .ref agnd, .ref agre, .ref agse, .ref aglv, .ref agal, .ref agds, .ref agno, .ref agna])), (agbe, .inl (cI, 3600, .inl gbe)), (agnd, .inl (cI, 60, .inl gnd))] sz)) 0 0 (va_A [(h0, .inr (4, [.int xth, .int xnv, .int xna, .ref agbi, .ref agab, .int xtl, .ref aghv, .ref agic, .ref agbe, .int xmk, .ref agmt, .ref agmv, .ref agma, .ref agnd, .ref agre, .ref agse, .ref aglv, .ref agal, .ref agds, .ref agno, .ref agna])), (agbe, .inl (cI, 3600, .inl gbe)), (agnd, .inl (cI, 60, .inl gnd))] sz) := by
  refine Met.ofW (cc := cX4_findNodes) (maxL := 4) (ret := none) (by decide) rfl ?_
  intro p e s m args below meth c s₁ B hml hv
  obtain ⟨rfl, hsz, hP, hK, hD0, hN⟩ := hv
  have hx := B.exec
  have hb := B.bytes
  have hr := B.returns
  have hts := atoms_spec (ws := wsX4_findNodes) B.pre
  have hown : s.vm.findClass RX4 = some m.cls := findClass_of_methodNamed B.named
  have hlocks := B.notSynchronized
  subst hsz
  have hD := hD0.self (sz := s.heap.size)
  generalize hAe : va_A [(h0, .inr (4, [.int xth, .int xnv, .int xna, .ref agbi, .ref agab, .int xtl, .ref aghv, .ref agic, .ref agbe, .int xmk, .ref agmt, .ref agmv, .ref agma, .ref agnd, .ref agre, .ref agse, .ref aglv, .ref agal, .ref agds, .ref agno, .ref agna])), (agbe, .inl (cI, 3600, .inl gbe)), (agnd, .inl (cI, 60, .inl gnd))] s.heap.size = A at hD ⊢
  have hA : ∀ q : Nat, s.heap.size ≤ q → A q := fun q h => by rw [← hAe]; exact Or.inr h
  have hS : va_S A s.heap s.heap [] := va_S.rf
  have hl := lv_entry ([.ref h0]) (n := 4) (Nat.le_of_ble_eq_true rfl)
  rw [lg_entry_eq]
  generalize (lg_sl ([.ref h0]) ++ List.replicate (4 - (lg_sl ([.ref h0])).length) Slot.unset).toArray = ls at hl ⊢
  replace hl : lv_has ls 4 [(0, .ref h0)] := hl
  have hw0 := (show ∀ w ∈ wsX40, w ∈ wsX4_findNodes from by decide +kernel)
  have hw1 := hts (.fieldLink RX4 63 "EffectNetsModel" "variables" "I") (by decide +kernel)
  have hw2 := hts (.fieldLink RX4 34 "EffectNetsModel" "node" "[I") (by decide +kernel)
  have hw3 := hts (.fieldLink RX4 22 "EffectNetsModel" "being" "[I") (by decide +kernel)
  refine hsp _ (fun (x1 : Int32) (gnd : Nat → Int32) => ∀ (H : Heap) (locs : List Loc) (ls : Array Slot), va_P (dC, dI) vwCl [(h0, .inr (4, [.int xth, .int xnv, .int xna, .ref agbi, .ref agab, .int xtl, .ref aghv, .ref agic, .ref agbe, .int xmk, .ref agmt, .ref agmv, .ref agma, .ref agnd, .ref agre, .ref agse, .ref aglv, .ref agal, .ref agds, .ref agno, .ref agna])), (agbe, .inl (cI, 3600, .inl gbe)), (agnd, .inl (cI, 60, .inl gnd))] H → va_D A [(h0, .inr (4, [.int xth, .int xnv, .int xna, .ref agbi, .ref agab, .int xtl, .ref aghv, .ref agic, .ref agbe, .int xmk, .ref agmt, .ref agmv, .ref agma, .ref agnd, .ref agre, .ref agse, .ref aglv, .ref agal, .ref agds, .ref agno, .ref agna])), (agbe, .inl (cI, 3600, .inl gbe)), (agnd, .inl (cI, 60, .inl gnd))] → va_S A s.heap H locs → lv_has ls 4 [(0, .ref h0), (1, .int x1)] → W p l e (headSpec wsX4_findNodes ({ frames := 0, cells := 0, slots := 0, locals := 0 })).room s m (List.toArray [.ref h0]) below meth c H locs 0 0 (MQ below (va_Qv (fun (u : (Nat → Int32)) => post u) (fun (u : (Nat → Int32)) (t : State) => va_P (dC, dI) vwCl [(h0, .inr (4, [.int xth, .int xnv, .int xna, .ref agbi, .ref agab, .int xtl, .ref aghv, .ref agic, .ref agbe, .int xmk, .ref agmt, .ref agmv, .ref agma, .ref agnd, .ref agre, .ref agse, .ref aglv, .ref agal, .ref agds, .ref agno, .ref agna])), (agbe, .inl (cI, 3600, .inl gbe)), (agnd, .inl (cI, 60, .inl u))] t.heap ∧ va_K (dC, dI) vwCl [(cI, .int), (cJ, .long)] t ∧ va_D A [(h0, .inr (4, [.int xth, .int xnv, .int xna, .ref agbi, .ref agab, .int xtl, .ref aghv, .ref agic, .ref agbe, .int xmk, .ref agmt, .ref agmv, .ref agma, .ref agnd, .ref agre, .ref agse, .ref aglv, .ref agal, .ref agds, .ref agno, .ref agna])), (agbe, .inl (cI, 3600, .inl gbe)), (agnd, .inl (cI, 60, .inl u))]) A) (List.toArray [.ref h0]) s 0 0 A) (F0 m 2 ls [])) (fun (x1 : Int32) (gnd : Nat → Int32) => ∀ (H : Heap) (locs : List Loc) (ls : Array Slot), va_P (dC, dI) vwCl [(h0, .inr (4, [.int xth, .int xnv, .int xna, .ref agbi, .ref agab, .int xtl, .ref aghv, .ref agic, .ref agbe, .int xmk, .ref agmt, .ref agmv, .ref agma, .ref agnd, .ref agre, .ref agse, .ref aglv, .ref agal, .ref agds, .ref agno, .ref agna])), (agbe, .inl (cI, 3600, .inl gbe)), (agnd, .inl (cI, 60, .inl gnd))] H → va_D A [(h0, .inr (4, [.int xth, .int xnv, .int xna, .ref agbi, .ref agab, .int xtl, .ref aghv, .ref agic, .ref agbe, .int xmk, .ref agmt, .ref agmv, .ref agma, .ref agnd, .ref agre, .ref agse, .ref aglv, .ref agal, .ref agds, .ref agno, .ref agna])), (agbe, .inl (cI, 3600, .inl gbe)), (agnd, .inl (cI, 60, .inl gnd))] → va_S A s.heap H locs → lv_has ls 4 [(0, .ref h0), (1, .int x1)] → W p l e (headSpec wsX4_findNodes ({ frames := 0, cells := 0, slots := 0, locals := 0 })).room s m (List.toArray [.ref h0]) below meth c H locs 0 0 (MQ below (va_Qv (fun (u : (Nat → Int32)) => post u) (fun (u : (Nat → Int32)) (t : State) => va_P (dC, dI) vwCl [(h0, .inr (4, [.int xth, .int xnv, .int xna, .ref agbi, .ref agab, .int xtl, .ref aghv, .ref agic, .ref agbe, .int xmk, .ref agmt, .ref agmv, .ref agma, .ref agnd, .ref agre, .ref agse, .ref aglv, .ref agal, .ref agds, .ref agno, .ref agna])), (agbe, .inl (cI, 3600, .inl gbe)), (agnd, .inl (cI, 60, .inl u))] t.heap ∧ va_K (dC, dI) vwCl [(cI, .int), (cJ, .long)] t ∧ va_D A [(h0, .inr (4, [.int xth, .int xnv, .int xna, .ref agbi, .ref agab, .int xtl, .ref aghv, .ref agic, .ref agbe, .int xmk, .ref agmt, .ref agmv, .ref agma, .ref agnd, .ref agre, .ref agse, .ref aglv, .ref agal, .ref agds, .ref agno, .ref agna])), (agbe, .inl (cI, 3600, .inl gbe)), (agnd, .inl (cI, 60, .inl u))]) A) (List.toArray [.ref h0]) s 0 0 A) (F0 m 25 ls [])) (fun (x1 : Int32) (x2 : Int32) (gnd : Nat → Int32) => ∀ (H : Heap) (locs : List Loc) (ls : Array Slot), va_P (dC, dI) vwCl [(h0, .inr (4, [.int xth, .int xnv, .int xna, .ref agbi, .ref agab, .int xtl, .ref aghv, .ref agic, .ref agbe, .int xmk, .ref agmt, .ref agmv, .ref agma, .ref agnd, .ref agre, .ref agse, .ref aglv, .ref agal, .ref agds, .ref agno, .ref agna])), (agbe, .inl (cI, 3600, .inl gbe)), (agnd, .inl (cI, 60, .inl gnd))] H → va_D A [(h0, .inr (4, [.int xth, .int xnv, .int xna, .ref agbi, .ref agab, .int xtl, .ref aghv, .ref agic, .ref agbe, .int xmk, .ref agmt, .ref agmv, .ref agma, .ref agnd, .ref agre, .ref agse, .ref aglv, .ref agal, .ref agds, .ref agno, .ref agna])), (agbe, .inl (cI, 3600, .inl gbe)), (agnd, .inl (cI, 60, .inl gnd))] → va_S A s.heap H locs → lv_has ls 4 [(0, .ref h0), (1, .int x1), (2, .int x2)] → W p l e (headSpec wsX4_findNodes ({ frames := 0, cells := 0, slots := 0, locals := 0 })).room s m (List.toArray [.ref h0]) below meth c H locs 0 0 (MQ below (va_Qv (fun (u : (Nat → Int32)) => post u) (fun (u : (Nat → Int32)) (t : State) => va_P (dC, dI) vwCl [(h0, .inr (4, [.int xth, .int xnv, .int xna, .ref agbi, .ref agab, .int xtl, .ref aghv, .ref agic, .ref agbe, .int xmk, .ref agmt, .ref agmv, .ref agma, .ref agnd, .ref agre, .ref agse, .ref aglv, .ref agal, .ref agds, .ref agno, .ref agna])), (agbe, .inl (cI, 3600, .inl gbe)), (agnd, .inl (cI, 60, .inl u))] t.heap ∧ va_K (dC, dI) vwCl [(cI, .int), (cJ, .long)] t ∧ va_D A [(h0, .inr (4, [.int xth, .int xnv, .int xna, .ref agbi, .ref agab, .int xtl, .ref aghv, .ref agic, .ref agbe, .int xmk, .ref agmt, .ref agmv, .ref agma, .ref agnd, .ref agre, .ref agse, .ref aglv, .ref agal, .ref agds, .ref agno, .ref agna])), (agbe, .inl (cI, 3600, .inl gbe)), (agnd, .inl (cI, 60, .inl u))]) A) (List.toArray [.ref h0]) s 0 0 A) (F0 m 33 ls [])) (fun (x1 : Int32) (x2 : Int32) (x3 : Int32) (gnd : Nat → Int32) => ∀ (H : Heap) (locs : List Loc) (ls : Array Slot), va_P (dC, dI) vwCl [(h0, .inr (4, [.int xth, .int xnv, .int xna, .ref agbi, .ref agab, .int xtl, .ref aghv, .ref agic, .ref agbe, .int xmk, .ref agmt, .ref agmv, .ref agma, .ref agnd, .ref agre, .ref agse, .ref aglv, .ref agal, .ref agds, .ref agno, .ref agna])), (agbe, .inl (cI, 3600, .inl gbe)), (agnd, .inl (cI, 60, .inl gnd))] H → va_D A [(h0, .inr (4, [.int xth, .int xnv, .int xna, .ref agbi, .ref agab, .int xtl, .ref aghv, .ref agic, .ref agbe, .int xmk, .ref agmt, .ref agmv, .ref agma, .ref agnd, .ref agre, .ref agse, .ref aglv, .ref agal, .ref agds, .ref agno, .ref agna])), (agbe, .inl (cI, 3600, .inl gbe)), (agnd, .inl (cI, 60, .inl gnd))] → va_S A s.heap H locs → lv_has ls 4 [(0, .ref h0), (1, .int x1), (2, .int x2), (3, .int x3)] → W p l e (headSpec wsX4_findNodes ({ frames := 0, cells := 0, slots := 0, locals := 0 })).room s m (List.toArray [.ref h0]) below meth c H locs 0 0 (MQ below (va_Qv (fun (u : (Nat → Int32)) => post u) (fun (u : (Nat → Int32)) (t : State) => va_P (dC, dI) vwCl [(h0, .inr (4, [.int xth, .int xnv, .int xna, .ref agbi, .ref agab, .int xtl, .ref aghv, .ref agic, .ref agbe, .int xmk, .ref agmt, .ref agmv, .ref agma, .ref agnd, .ref agre, .ref agse, .ref aglv, .ref agal, .ref agds, .ref agno, .ref agna])), (agbe, .inl (cI, 3600, .inl gbe)), (agnd, .inl (cI, 60, .inl u))] t.heap ∧ va_K (dC, dI) vwCl [(cI, .int), (cJ, .long)] t ∧ va_D A [(h0, .inr (4, [.int xth, .int xnv, .int xna, .ref agbi, .ref agab, .int xtl, .ref aghv, .ref agic, .ref agbe, .int xmk, .ref agmt, .ref agmv, .ref agma, .ref agnd, .ref agre, .ref agse, .ref aglv, .ref agal, .ref agds, .ref agno, .ref agna])), (agbe, .inl (cI, 3600, .inl gbe)), (agnd, .inl (cI, 60, .inl u))]) A) (List.toArray [.ref h0]) s 0 0 A) (F0 m 43 ls [])) ?_ ?_ ?_ ?_ ?_
  · intro x1 gnd ht H locs ls hP hD hS hl
    refine lv_iload_n hx hb dX4_findNodes_2 rfl (lv_at hl 1 rfl) ?_
    refine lv_aload_n hx hb dX4_findNodes_3 rfl (lv_at hl 0 rfl) ?_
    refine va_get (D := (dC, dI)) (ci := 4) (v := .int xnv) (C := RX4) (T := TX4) (N := 21) hx hb hts hw0 hown hK hP 0 rfl rfl 1 (by decide) hw1 (fun _ h9 => h9) rfl dX4_findNodes_4 ?_
    refine lv_icmp_ge (tgt := 23) hx hb dX4_findNodes_7 (by decide) (fun c1 => ?_) (fun c1 => ?_)
    · replace ht := ht.1 c1
      refine lv_iconst (v := 1) hx hb dX4_findNodes_23 (by decide) ?_
      refine lv_istore_n (lv' := [(1, .int 1), (0, .ref h0)]) hx hb dX4_findNodes_24 rfl hl (by decide) rfl (fun ls hl => ?_)
      exact ht _ _ _ hP hD hS (lv_sub hl [1, 0] rfl)
    · replace ht := ht.2 c1
      refine lv_aload_n hx hb dX4_findNodes_10 rfl (lv_at hl 0 rfl) ?_
      refine va_get (D := (dC, dI)) (ci := 4) (v := .ref agnd) (C := RX4) (T := TX4) (N := 21) hx hb hts hw0 hown hK hP 0 rfl rfl 13 (by decide) hw2 (fun _ h9 => h9) rfl dX4_findNodes_11 ?_
      refine lv_iload_n hx hb dX4_findNodes_14 rfl (lv_at hl 1 rfl) ?_
      refine lv_iload_n hx hb dX4_findNodes_15 rfl (lv_at hl 1 rfl) ?_
      obtain ⟨i2, ht⟩ := ht
      refine va_iast hx hb hK hP hD hS 2 0 rfl rfl i2 dX4_findNodes_16 (fun H locs hP hD hS => ?_)
      replace hP : va_P (dC, dI) vwCl [(h0, .inr (4, [.int xth, .int xnv, .int xna, .ref agbi, .ref agab, .int xtl, .ref aghv, .ref agic, .ref agbe, .int xmk, .ref agmt, .ref agmv, .ref agma, .ref agnd, .ref agre, .ref agse, .ref aglv, .ref agal, .ref agds, .ref agno, .ref agna])), (agbe, .inl (cI, 3600, .inl gbe)), (agnd, .inl (cI, 60, .inl (upd gnd x1.toNatClampNeg x1)))] H := hP
      replace hD : va_D A [(h0, .inr (4, [.int xth, .int xnv, .int xna, .ref agbi, .ref agab, .int xtl, .ref aghv, .ref agic, .ref agbe, .int xmk, .ref agmt, .ref agmv, .ref agma, .ref agnd, .ref agre, .ref agse, .ref aglv, .ref agal, .ref agds, .ref agno, .ref agna])), (agbe, .inl (cI, 3600, .inl gbe)), (agnd, .inl (cI, 60, .inl (upd gnd x1.toNatClampNeg x1)))] := hD
      obtain ⟨y3, ey3⟩ : ∃ y : Int32, y = x1 + 1 := ⟨_, rfl⟩
      replace ht := ht y3 ey3
      refine lv_iinc (v := y3) (lv' := [(1, .int y3), (0, .ref h0)]) hx hb dX4_findNodes_17 hl (k := 1) rfl (by rw [ey3]; rfl) (by decide) rfl (fun ls hl => ?_)
      refine lv_goto (tgt := 2) hx hb dX4_findNodes_20 (by decide) ?_
      exact ht _ _ _ hP hD hS (lv_sub hl [1, 0] rfl)
  · intro x1 gnd ht H locs ls hP hD hS hl
    refine lv_iload_n hx hb dX4_findNodes_25 rfl (lv_at hl 1 rfl) ?_
    refine lv_if_eq (tgt := 109) hx hb dX4_findNodes_26 (by decide) (fun c4 => ?_) (fun c4 => ?_)
    · replace ht := ht.1 c4
      have hP9 : va_P (dC, dI) vwCl [(h0, .inr (4, [.int xth, .int xnv, .int xna, .ref agbi, .ref agab, .int xtl, .ref aghv, .ref agic, .ref agbe, .int xmk, .ref agmt, .ref agmv, .ref agma, .ref agnd, .ref agre, .ref agse, .ref aglv, .ref agal, .ref agds, .ref agno, .ref agna])), (agbe, .inl (cI, 3600, .inl gbe)), (agnd, .inl (cI, 60, .inl gnd))] _ := hP
      have hD9 : va_D A [(h0, .inr (4, [.int xth, .int xnv, .int xna, .ref agbi, .ref agab, .int xtl, .ref aghv, .ref agic, .ref agbe, .int xmk, .ref agmt, .ref agmv, .ref agma, .ref agnd, .ref agre, .ref agse, .ref aglv, .ref agal, .ref agds, .ref agno, .ref agna])), (agbe, .inl (cI, 3600, .inl gbe)), (agnd, .inl (cI, 60, .inl gnd))] := hD
      exact W.vret hx hb hr (fun t ht9 hW => ⟨⟨gnd, rfl, ht, by rw [ht9]; exact hP9, va_K.moved hW.alike hK, hD9⟩, hS.F ht9⟩) hS.2.2 dX4_findNodes_109
    · replace ht := ht.2 c4
      refine lv_iconst (v := 0) hx hb dX4_findNodes_29 (by decide) ?_
      refine lv_istore_n (lv' := [(1, .int 0), (0, .ref h0)]) hx hb dX4_findNodes_30 rfl hl (by decide) rfl (fun ls hl => ?_)
      refine lv_iconst (v := 0) hx hb dX4_findNodes_31 (by decide) ?_
      refine lv_istore_n (lv' := [(2, .int 0), (1, .int 0), (0, .ref h0)]) hx hb dX4_findNodes_32 rfl hl (by decide) rfl (fun ls hl => ?_)
      exact ht _ _ _ hP hD hS (lv_sub hl [2, 1, 0] rfl)
  · intro x1 x2 gnd ht H locs ls hP hD hS hl
    refine lv_iload_n hx hb dX4_findNodes_33 rfl (lv_at hl 2 rfl) ?_
    refine lv_aload_n hx hb dX4_findNodes_34 rfl (lv_at hl 0 rfl) ?_
    refine va_get (D := (dC, dI)) (ci := 4) (v := .int xnv) (C := RX4) (T := TX4) (N := 21) hx hb hts hw0 hown hK hP 0 rfl rfl 1 (by decide) hw1 (fun _ h9 => h9) rfl dX4_findNodes_35 ?_
    refine lv_icmp_ge (tgt := 106) hx hb dX4_findNodes_38 (by decide) (fun c5 => ?_) (fun c5 => ?_)
    · replace ht := ht.1 c5
      refine lv_goto (tgt := 25) hx hb dX4_findNodes_106 (by decide) ?_
      exact ht _ _ _ hP hD hS (lv_sub hl [0, 1] rfl)
    · replace ht := ht.2 c5
      refine lv_iconst (v := 0) hx hb dX4_findNodes_41 (by decide) ?_
      refine lv_istore_n (lv' := [(3, .int 0), (0, .ref h0), (1, .int x1), (2, .int x2)]) hx hb dX4_findNodes_42 rfl hl (by decide) rfl (fun ls hl => ?_)
      exact ht _ _ _ hP hD hS (lv_sub hl [1, 2, 3, 0] rfl)
  · intro x1 x2 x3 gnd ht H locs ls hP hD hS hl
    refine lv_iload_n hx hb dX4_findNodes_43 rfl (lv_at hl 3 rfl) ?_
    refine lv_aload_n hx hb dX4_findNodes_44 rfl (lv_at hl 0 rfl) ?_
    refine va_get (D := (dC, dI)) (ci := 4) (v := .int xnv) (C := RX4) (T := TX4) (N := 21) hx hb hts hw0 hown hK hP 0 rfl rfl 1 (by decide) hw1 (fun _ h9 => h9) rfl dX4_findNodes_45 ?_
    refine lv_icmp_ge (tgt := 100) hx hb dX4_findNodes_48 (by decide) (fun c6 => ?_) (fun c6 => ?_)
    · replace ht := ht.1 c6
      obtain ⟨y7, ey7⟩ : ∃ y : Int32, y = x2 + 1 := ⟨_, rfl⟩
      replace ht := ht y7 ey7
      refine lv_iinc (v := y7) (lv' := [(2, .int y7), (0, .ref h0), (1, .int x1), (3, .int x3)]) hx hb dX4_findNodes_100 hl (k := 2) rfl (by rw [ey7]; rfl) (by decide) rfl (fun ls hl => ?_)
      refine lv_goto (tgt := 33) hx hb dX4_findNodes_103 (by decide) ?_
      exact ht _ _ _ hP hD hS (lv_sub hl [1, 2, 0] rfl)
    · replace ht := ht.2 c6
      refine lv_aload_n hx hb dX4_findNodes_51 rfl (lv_at hl 0 rfl) ?_
      refine va_get (D := (dC, dI)) (ci := 4) (v := .ref agbe) (C := RX4) (T := TX4) (N := 21) hx hb hts hw0 hown hK hP 0 rfl rfl 8 (by decide) hw3 (fun _ h9 => h9) rfl dX4_findNodes_52 ?_
      refine lv_bipush (v := 60) hx hb dX4_findNodes_55 (by decide) ?_
      refine lv_iload_n hx hb dX4_findNodes_57 rfl (lv_at hl 2 rfl) ?_
      refine lv_imul hx hb dX4_findNodes_58 ?_
      refine lv_iload_n hx hb dX4_findNodes_59 rfl (lv_at hl 3 rfl) ?_
      refine lv_iadd hx hb dX4_findNodes_60 ?_
      obtain ⟨i8, ht⟩ := ht
      refine va_iald hx hb hK hP 1 0 rfl rfl i8 dX4_findNodes_61 ?_
      refine lv_if_le (tgt := 94) hx hb dX4_findNodes_62 (by decide) (fun c9 => ?_) (fun c9 => ?_)
      · replace ht := ht.1 c9
        obtain ⟨y10, ey10⟩ : ∃ y : Int32, y = x3 + 1 := ⟨_, rfl⟩
        replace ht := ht y10 ey10
        refine lv_iinc (v := y10) (lv' := [(3, .int y10), (0, .ref h0), (1, .int x1), (2, .int x2)]) hx hb dX4_findNodes_94 hl (k := 3) rfl (by rw [ey10]; rfl) (by decide) rfl (fun ls hl => ?_)
        refine lv_goto (tgt := 43) hx hb dX4_findNodes_97 (by decide) ?_
        exact ht _ _ _ hP hD hS (lv_sub hl [1, 2, 3, 0] rfl)
      · replace ht := ht.2 c9
        refine lv_aload_n hx hb dX4_findNodes_65 rfl (lv_at hl 0 rfl) ?_
        refine va_get (D := (dC, dI)) (ci := 4) (v := .ref agnd) (C := RX4) (T := TX4) (N := 21) hx hb hts hw0 hown hK hP 0 rfl rfl 13 (by decide) hw2 (fun _ h9 => h9) rfl dX4_findNodes_66 ?_
        refine lv_iload_n hx hb dX4_findNodes_69 rfl (lv_at hl 3 rfl) ?_
        obtain ⟨i11, ht⟩ := ht
        refine va_iald hx hb hK hP 2 0 rfl rfl i11 dX4_findNodes_70 ?_
        refine lv_aload_n hx hb dX4_findNodes_71 rfl (lv_at hl 0 rfl) ?_
        refine va_get (D := (dC, dI)) (ci := 4) (v := .ref agnd) (C := RX4) (T := TX4) (N := 21) hx hb hts hw0 hown hK hP 0 rfl rfl 13 (by decide) hw2 (fun _ h9 => h9) rfl dX4_findNodes_72 ?_
        refine lv_iload_n hx hb dX4_findNodes_75 rfl (lv_at hl 2 rfl) ?_
        obtain ⟨i12, ht⟩ := ht
        refine va_iald hx hb hK hP 2 0 rfl rfl i12 dX4_findNodes_76 ?_
        refine lv_icmp_ge (tgt := 94) hx hb dX4_findNodes_77 (by decide) (fun c13 => ?_) (fun c13 => ?_)
        · replace ht := ht.1 c13
          obtain ⟨y14, ey14⟩ : ∃ y : Int32, y = x3 + 1 := ⟨_, rfl⟩
          replace ht := ht y14 ey14
          refine lv_iinc (v := y14) (lv' := [(3, .int y14), (0, .ref h0), (1, .int x1), (2, .int x2)]) hx hb dX4_findNodes_94 hl (k := 3) rfl (by rw [ey14]; rfl) (by decide) rfl (fun ls hl => ?_)
          refine lv_goto (tgt := 43) hx hb dX4_findNodes_97 (by decide) ?_
          exact ht _ _ _ hP hD hS (lv_sub hl [1, 2, 3, 0] rfl)
        · replace ht := ht.2 c13
          refine lv_aload_n hx hb dX4_findNodes_80 rfl (lv_at hl 0 rfl) ?_
          refine va_get (D := (dC, dI)) (ci := 4) (v := .ref agnd) (C := RX4) (T := TX4) (N := 21) hx hb hts hw0 hown hK hP 0 rfl rfl 13 (by decide) hw2 (fun _ h9 => h9) rfl dX4_findNodes_81 ?_
          refine lv_iload_n hx hb dX4_findNodes_84 rfl (lv_at hl 2 rfl) ?_
          refine lv_aload_n hx hb dX4_findNodes_85 rfl (lv_at hl 0 rfl) ?_
          refine va_get (D := (dC, dI)) (ci := 4) (v := .ref agnd) (C := RX4) (T := TX4) (N := 21) hx hb hts hw0 hown hK hP 0 rfl rfl 13 (by decide) hw2 (fun _ h9 => h9) rfl dX4_findNodes_86 ?_
          refine lv_iload_n hx hb dX4_findNodes_89 rfl (lv_at hl 3 rfl) ?_
          refine va_iald hx hb hK hP 2 0 rfl rfl i11 dX4_findNodes_90 ?_
          refine va_iast hx hb hK hP hD hS 2 0 rfl rfl i12 dX4_findNodes_91 (fun H locs hP hD hS => ?_)
          replace hP : va_P (dC, dI) vwCl [(h0, .inr (4, [.int xth, .int xnv, .int xna, .ref agbi, .ref agab, .int xtl, .ref aghv, .ref agic, .ref agbe, .int xmk, .ref agmt, .ref agmv, .ref agma, .ref agnd, .ref agre, .ref agse, .ref aglv, .ref agal, .ref agds, .ref agno, .ref agna])), (agbe, .inl (cI, 3600, .inl gbe)), (agnd, .inl (cI, 60, .inl (upd gnd x2.toNatClampNeg (gnd x3.toNatClampNeg))))] H := hP
          replace hD : va_D A [(h0, .inr (4, [.int xth, .int xnv, .int xna, .ref agbi, .ref agab, .int xtl, .ref aghv, .ref agic, .ref agbe, .int xmk, .ref agmt, .ref agmv, .ref agma, .ref agnd, .ref agre, .ref agse, .ref aglv, .ref agal, .ref agds, .ref agno, .ref agna])), (agbe, .inl (cI, 3600, .inl gbe)), (agnd, .inl (cI, 60, .inl (upd gnd x2.toNatClampNeg (gnd x3.toNatClampNeg))))] := hD
          refine lv_iconst (v := 1) hx hb dX4_findNodes_92 (by decide) ?_
          refine lv_istore_n (lv' := [(1, .int 1), (0, .ref h0), (2, .int x2), (3, .int x3)]) hx hb dX4_findNodes_93 rfl hl (by decide) rfl (fun ls hl => ?_)
          obtain ⟨y15, ey15⟩ : ∃ y : Int32, y = x3 + 1 := ⟨_, rfl⟩
          replace ht := ht y15 ey15
          refine lv_iinc (v := y15) (lv' := [(3, .int y15), (1, .int 1), (0, .ref h0), (2, .int x2)]) hx hb dX4_findNodes_94 hl (k := 3) rfl (by rw [ey15]; rfl) (by decide) rfl (fun ls hl => ?_)
          refine lv_goto (tgt := 43) hx hb dX4_findNodes_97 (by decide) ?_
          exact ht _ _ _ hP hD hS (lv_sub hl [2, 1, 3, 0] rfl)
  · intro ht
    refine lv_iconst (v := 0) hx hb dX4_findNodes_0 (by decide) ?_
    refine lv_istore_n (lv' := [(1, .int 0), (0, .ref h0)]) hx hb dX4_findNodes_1 rfl hl (by decide) rfl (fun ls hl => ?_)
    exact ht _ _ _ hP hD hS (lv_sub hl [1, 0] rfl)
set_option maxHeartbeats 4000000 in
set_option maxRecDepth 100000 in
theorem c_X4_findReach (l : Launch) (dC : Nat → ClassId) (dI : Nat → Nat → Nat) (cI cJ : ClassId) (h0 : Nat) (agbi : Nat) (agab : Nat) (aghv : Nat) (agic : Nat) (agbe : Nat) (agmt : Nat) (agmv : Nat) (agma : Nat) (agnd : Nat) (agre : Nat) (agse : Nat) (aglv : Nat) (agal : Nat) (agds : Nat) (agno : Nat) (agna : Nat) (xth : Int32) (xnv : Int32) (xna : Int32) (xtl : Int32) (xmk : Int32) (gic : Nat → Int32) (gnd : Nat → Int32) (gre : Nat → Int64) (sz : Nat) (post : (Nat → Int64) → Prop) (hsp : S_X4_findReach xnv gic gnd gre post) : Met l yX4_findReach wsX4_findReach ({ frames := 0, cells := 0, slots := 0, locals := 0 }) (va_Pc [.ref h0] (fun U => U.heap.size = sz ∧ va_P (dC, dI) vwCl [(h0, .inr (4, [.int xth, .int xnv, .int xna, .ref agbi, .ref agab, .int xtl, .ref aghv, .ref agic, .ref agbe, .int xmk, .ref agmt, .ref agmv, .ref agma, .ref agnd, .ref agre, .ref agse, .ref aglv, .ref agal, .ref agds, .ref agno, .ref agna])), (agic, .inl (cI, 3600, .inl gic)), (agnd, .inl (cI, 60, .inl gnd)), (agre, .inl (cJ, 60, .inr (.inl gre)))] U.heap ∧ va_K (dC, dI) vwCl [(cI, .int), (cJ, .long)] U ∧ va_D (fun _ => True) [(h0, .inr (4, [.int xth, .int xnv, .int xna, .ref agbi, .ref agab, .int xtl, .ref aghv, .ref agic, .ref agbe, .int xmk, .ref agmt, .ref agmv, .ref agma, .ref agnd, .ref agre, .ref agse, .ref aglv, .ref agal, .ref agds, .ref agno, .ref agna])), (agic, .inl (cI, 3600, .inl gic)), (agnd, .inl (cI, 60, .inl gnd)), (agre, .inl (cJ, 60, .inr (.inl gre)))] ∧ nw U)) (va_Qv (fun (u : (Nat → Int64)) => post u) (fun (u : (Nat → Int64)) (t : State) => va_P (dC, dI) vwCl [(h0, .inr (4, [.int xth, .int xnv, .int xna, .ref agbi, .ref agab, .int xtl, .ref aghv, .ref agic, .ref agbe, .int xmk, .ref agmt, .ref agmv, .ref agma, .ref agnd, .ref agre, .ref agse, .ref aglv, .ref agal, .ref agds, .ref agno, .ref agna])), (agic, .inl (cI, 3600, .inl gic)), (agnd, .inl (cI, 60, .inl gnd)), (agre, .inl (cJ, 60, .inr (.inl u)))] t.heap ∧ va_K (dC, dI) vwCl [(cI, .int), (cJ, .long)] t ∧ va_D (va_A [(h0, .inr (4, [.int xth, .int xnv, .int xna, .ref agbi, .ref agab, .int xtl, .ref aghv, .ref agic, .ref agbe, .int xmk, .ref agmt, .ref agmv, .ref agma, .ref agnd, .ref agre, .ref agse, .ref aglv, .ref agal, .ref agds, .ref agno, .ref agna])), (agic, .inl (cI, 3600, .inl gic)), (agnd, .inl (cI, 60, .inl gnd)), (agre, .inl (cJ, 60, .inr (.inl gre)))] sz) [(h0, .inr (4, [.int xth, .int xnv, .int xna, .ref agbi, .ref agab, .int xtl, .ref aghv, .ref agic, .ref agbe, .int xmk, .ref agmt, .ref agmv, .ref agma, .ref agnd, .ref agre, .ref agse, .ref aglv, .ref agal, .ref agds, .ref agno, .ref agna])), (agic, .inl (cI, 3600, .inl gic)), (agnd, .inl (cI, 60, .inl gnd)), (agre, .inl (cJ, 60, .inr (.inl u)))]) (va_A [(h0, .inr (4, [.int xth, .int xnv, .int xna, .ref agbi, .ref agab, .int xtl, .ref aghv, .ref agic, .ref agbe, .int xmk, .ref agmt, .ref agmv, .ref agma, .ref agnd, .ref agre, .ref agse, .ref aglv, .ref agal, .ref agds, .ref agno, .ref agna])), (agic, .inl (cI, 3600, .inl gic)), (agnd, .inl (cI, 60, .inl gnd)), (agre, .inl (cJ, 60, .inr (.inl gre)))] sz)) 0 0 (va_A [(h0, .inr (4, [.int xth, .int xnv, .int xna, .ref agbi, .ref agab, .int xtl, .ref aghv, .ref agic, .ref agbe, .int xmk, .ref agmt, .ref agmv, .ref agma, .ref agnd, .ref agre, .ref agse, .ref aglv, .ref agal, .ref agds, .ref agno, .ref agna])), (agic, .inl (cI, 3600, .inl gic)), (agnd, .inl (cI, 60, .inl gnd)), (agre, .inl (cJ, 60, .inr (.inl gre)))] sz) := by
  refine Met.ofW (cc := cX4_findReach) (maxL := 5) (ret := none) (by decide) rfl ?_
  intro p e s m args below meth c s₁ B hml hv
  obtain ⟨rfl, hsz, hP, hK, hD0, hN⟩ := hv
  have hx := B.exec
  have hb := B.bytes
  have hr := B.returns
  have hts := atoms_spec (ws := wsX4_findReach) B.pre
  have hown : s.vm.findClass RX4 = some m.cls := findClass_of_methodNamed B.named
  have hlocks := B.notSynchronized
  subst hsz
  have hD := hD0.self (sz := s.heap.size)
  generalize hAe : va_A [(h0, .inr (4, [.int xth, .int xnv, .int xna, .ref agbi, .ref agab, .int xtl, .ref aghv, .ref agic, .ref agbe, .int xmk, .ref agmt, .ref agmv, .ref agma, .ref agnd, .ref agre, .ref agse, .ref aglv, .ref agal, .ref agds, .ref agno, .ref agna])), (agic, .inl (cI, 3600, .inl gic)), (agnd, .inl (cI, 60, .inl gnd)), (agre, .inl (cJ, 60, .inr (.inl gre)))] s.heap.size = A at hD ⊢
  have hA : ∀ q : Nat, s.heap.size ≤ q → A q := fun q h => by rw [← hAe]; exact Or.inr h
  have hS : va_S A s.heap s.heap [] := va_S.rf
  have hl := lv_entry ([.ref h0]) (n := 5) (Nat.le_of_ble_eq_true rfl)
  rw [lg_entry_eq]
  generalize (lg_sl ([.ref h0]) ++ List.replicate (5 - (lg_sl ([.ref h0])).length) Slot.unset).toArray = ls at hl ⊢
  replace hl : lv_has ls 5 [(0, .ref h0)] := hl
  have hw0 := (show ∀ w ∈ wsX40, w ∈ wsX4_findReach from by decide +kernel)
  have hw1 := hts (.fieldLink RX4 63 "EffectNetsModel" "variables" "I") (by decide +kernel)
  have hw2 := hts (.fieldLink RX4 37 "EffectNetsModel" "reached" "[J") (by decide +kernel)
  have hw3 := hts (.fieldLink RX4 34 "EffectNetsModel" "node" "[I") (by decide +kernel)
  have hw4 := hts (.constantLong RX4 69 (-1)) (by decide +kernel)
  have hw5 := hts (.fieldLink RX4 19 "EffectNetsModel" "including" "[I") (by decide +kernel)
  refine hsp _ (fun (x1 : Int32) (gre : Nat → Int64) => ∀ (H : Heap) (locs : List Loc) (ls : Array Slot), va_P (dC, dI) vwCl [(h0, .inr (4, [.int xth, .int xnv, .int xna, .ref agbi, .ref agab, .int xtl, .ref aghv, .ref agic, .ref agbe, .int xmk, .ref agmt, .ref agmv, .ref agma, .ref agnd, .ref agre, .ref agse, .ref aglv, .ref agal, .ref agds, .ref agno, .ref agna])), (agic, .inl (cI, 3600, .inl gic)), (agnd, .inl (cI, 60, .inl gnd)), (agre, .inl (cJ, 60, .inr (.inl gre)))] H → va_D A [(h0, .inr (4, [.int xth, .int xnv, .int xna, .ref agbi, .ref agab, .int xtl, .ref aghv, .ref agic, .ref agbe, .int xmk, .ref agmt, .ref agmv, .ref agma, .ref agnd, .ref agre, .ref agse, .ref aglv, .ref agal, .ref agds, .ref agno, .ref agna])), (agic, .inl (cI, 3600, .inl gic)), (agnd, .inl (cI, 60, .inl gnd)), (agre, .inl (cJ, 60, .inr (.inl gre)))] → va_S A s.heap H locs → lv_has ls 5 [(0, .ref h0), (1, .int x1)] → W p l e (headSpec wsX4_findReach ({ frames := 0, cells := 0, slots := 0, locals := 0 })).room s m (List.toArray [.ref h0]) below meth c H locs 0 0 (MQ below (va_Qv (fun (u : (Nat → Int64)) => post u) (fun (u : (Nat → Int64)) (t : State) => va_P (dC, dI) vwCl [(h0, .inr (4, [.int xth, .int xnv, .int xna, .ref agbi, .ref agab, .int xtl, .ref aghv, .ref agic, .ref agbe, .int xmk, .ref agmt, .ref agmv, .ref agma, .ref agnd, .ref agre, .ref agse, .ref aglv, .ref agal, .ref agds, .ref agno, .ref agna])), (agic, .inl (cI, 3600, .inl gic)), (agnd, .inl (cI, 60, .inl gnd)), (agre, .inl (cJ, 60, .inr (.inl u)))] t.heap ∧ va_K (dC, dI) vwCl [(cI, .int), (cJ, .long)] t ∧ va_D A [(h0, .inr (4, [.int xth, .int xnv, .int xna, .ref agbi, .ref agab, .int xtl, .ref aghv, .ref agic, .ref agbe, .int xmk, .ref agmt, .ref agmv, .ref agma, .ref agnd, .ref agre, .ref agse, .ref aglv, .ref agal, .ref agds, .ref agno, .ref agna])), (agic, .inl (cI, 3600, .inl gic)), (agnd, .inl (cI, 60, .inl gnd)), (agre, .inl (cJ, 60, .inr (.inl u)))]) A) (List.toArray [.ref h0]) s 0 0 A) (F0 m 2 ls [])) (fun (x1 : Int32) (gre : Nat → Int64) => ∀ (H : Heap) (locs : List Loc) (ls : Array Slot), va_P (dC, dI) vwCl [(h0, .inr (4, [.int xth, .int xnv, .int xna, .ref agbi, .ref agab, .int xtl, .ref aghv, .ref agic, .ref agbe, .int xmk, .ref agmt, .ref agmv, .ref agma, .ref agnd, .ref agre, .ref agse, .ref aglv, .ref agal, .ref agds, .ref agno, .ref agna])), (agic, .inl (cI, 3600, .inl gic)), (agnd, .inl (cI, 60, .inl gnd)), (agre, .inl (cJ, 60, .inr (.inl gre)))] H → va_D A [(h0, .inr (4, [.int xth, .int xnv, .int xna, .ref agbi, .ref agab, .int xtl, .ref aghv, .ref agic, .ref agbe, .int xmk, .ref agmt, .ref agmv, .ref agma, .ref agnd, .ref agre, .ref agse, .ref aglv, .ref agal, .ref agds, .ref agno, .ref agna])), (agic, .inl (cI, 3600, .inl gic)), (agnd, .inl (cI, 60, .inl gnd)), (agre, .inl (cJ, 60, .inr (.inl gre)))] → va_S A s.heap H locs → lv_has ls 5 [(0, .ref h0), (1, .int x1)] → W p l e (headSpec wsX4_findReach ({ frames := 0, cells := 0, slots := 0, locals := 0 })).room s m (List.toArray [.ref h0]) below meth c H locs 0 0 (MQ below (va_Qv (fun (u : (Nat → Int64)) => post u) (fun (u : (Nat → Int64)) (t : State) => va_P (dC, dI) vwCl [(h0, .inr (4, [.int xth, .int xnv, .int xna, .ref agbi, .ref agab, .int xtl, .ref aghv, .ref agic, .ref agbe, .int xmk, .ref agmt, .ref agmv, .ref agma, .ref agnd, .ref agre, .ref agse, .ref aglv, .ref agal, .ref agds, .ref agno, .ref agna])), (agic, .inl (cI, 3600, .inl gic)), (agnd, .inl (cI, 60, .inl gnd)), (agre, .inl (cJ, 60, .inr (.inl u)))] t.heap ∧ va_K (dC, dI) vwCl [(cI, .int), (cJ, .long)] t ∧ va_D A [(h0, .inr (4, [.int xth, .int xnv, .int xna, .ref agbi, .ref agab, .int xtl, .ref aghv, .ref agic, .ref agbe, .int xmk, .ref agmt, .ref agmv, .ref agma, .ref agnd, .ref agre, .ref agse, .ref aglv, .ref agal, .ref agds, .ref agno, .ref agna])), (agic, .inl (cI, 3600, .inl gic)), (agnd, .inl (cI, 60, .inl gnd)), (agre, .inl (cJ, 60, .inr (.inl u)))]) A) (List.toArray [.ref h0]) s 0 0 A) (F0 m 32 ls [])) (fun (x1 : Int32) (x2 : Int32) (gre : Nat → Int64) => ∀ (H : Heap) (locs : List Loc) (ls : Array Slot), va_P (dC, dI) vwCl [(h0, .inr (4, [.int xth, .int xnv, .int xna, .ref agbi, .ref agab, .int xtl, .ref aghv, .ref agic, .ref agbe, .int xmk, .ref agmt, .ref agmv, .ref agma, .ref agnd, .ref agre, .ref agse, .ref aglv, .ref agal, .ref agds, .ref agno, .ref agna])), (agic, .inl (cI, 3600, .inl gic)), (agnd, .inl (cI, 60, .inl gnd)), (agre, .inl (cJ, 60, .inr (.inl gre)))] H → va_D A [(h0, .inr (4, [.int xth, .int xnv, .int xna, .ref agbi, .ref agab, .int xtl, .ref aghv, .ref agic, .ref agbe, .int xmk, .ref agmt, .ref agmv, .ref agma, .ref agnd, .ref agre, .ref agse, .ref aglv, .ref agal, .ref agds, .ref agno, .ref agna])), (agic, .inl (cI, 3600, .inl gic)), (agnd, .inl (cI, 60, .inl gnd)), (agre, .inl (cJ, 60, .inr (.inl gre)))] → va_S A s.heap H locs → lv_has ls 5 [(0, .ref h0), (1, .int x1), (2, .int x2)] → W p l e (headSpec wsX4_findReach ({ frames := 0, cells := 0, slots := 0, locals := 0 })).room s m (List.toArray [.ref h0]) below meth c H locs 0 0 (MQ below (va_Qv (fun (u : (Nat → Int64)) => post u) (fun (u : (Nat → Int64)) (t : State) => va_P (dC, dI) vwCl [(h0, .inr (4, [.int xth, .int xnv, .int xna, .ref agbi, .ref agab, .int xtl, .ref aghv, .ref agic, .ref agbe, .int xmk, .ref agmt, .ref agmv, .ref agma, .ref agnd, .ref agre, .ref agse, .ref aglv, .ref agal, .ref agds, .ref agno, .ref agna])), (agic, .inl (cI, 3600, .inl gic)), (agnd, .inl (cI, 60, .inl gnd)), (agre, .inl (cJ, 60, .inr (.inl u)))] t.heap ∧ va_K (dC, dI) vwCl [(cI, .int), (cJ, .long)] t ∧ va_D A [(h0, .inr (4, [.int xth, .int xnv, .int xna, .ref agbi, .ref agab, .int xtl, .ref aghv, .ref agic, .ref agbe, .int xmk, .ref agmt, .ref agmv, .ref agma, .ref agnd, .ref agre, .ref agse, .ref aglv, .ref agal, .ref agds, .ref agno, .ref agna])), (agic, .inl (cI, 3600, .inl gic)), (agnd, .inl (cI, 60, .inl gnd)), (agre, .inl (cJ, 60, .inr (.inl u)))]) A) (List.toArray [.ref h0]) s 0 0 A) (F0 m 40 ls [])) (fun (x1 : Int32) (x2 : Int32) (x3 : Int32) (gre : Nat → Int64) => ∀ (H : Heap) (locs : List Loc) (ls : Array Slot), va_P (dC, dI) vwCl [(h0, .inr (4, [.int xth, .int xnv, .int xna, .ref agbi, .ref agab, .int xtl, .ref aghv, .ref agic, .ref agbe, .int xmk, .ref agmt, .ref agmv, .ref agma, .ref agnd, .ref agre, .ref agse, .ref aglv, .ref agal, .ref agds, .ref agno, .ref agna])), (agic, .inl (cI, 3600, .inl gic)), (agnd, .inl (cI, 60, .inl gnd)), (agre, .inl (cJ, 60, .inr (.inl gre)))] H → va_D A [(h0, .inr (4, [.int xth, .int xnv, .int xna, .ref agbi, .ref agab, .int xtl, .ref aghv, .ref agic, .ref agbe, .int xmk, .ref agmt, .ref agmv, .ref agma, .ref agnd, .ref agre, .ref agse, .ref aglv, .ref agal, .ref agds, .ref agno, .ref agna])), (agic, .inl (cI, 3600, .inl gic)), (agnd, .inl (cI, 60, .inl gnd)), (agre, .inl (cJ, 60, .inr (.inl gre)))] → va_S A s.heap H locs → lv_has ls 5 [(0, .ref h0), (1, .int x1), (2, .int x2), (3, .int x3)] → W p l e (headSpec wsX4_findReach ({ frames := 0, cells := 0, slots := 0, locals := 0 })).room s m (List.toArray [.ref h0]) below meth c H locs 0 0 (MQ below (va_Qv (fun (u : (Nat → Int64)) => post u) (fun (u : (Nat → Int64)) (t : State) => va_P (dC, dI) vwCl [(h0, .inr (4, [.int xth, .int xnv, .int xna, .ref agbi, .ref agab, .int xtl, .ref aghv, .ref agic, .ref agbe, .int xmk, .ref agmt, .ref agmv, .ref agma, .ref agnd, .ref agre, .ref agse, .ref aglv, .ref agal, .ref agds, .ref agno, .ref agna])), (agic, .inl (cI, 3600, .inl gic)), (agnd, .inl (cI, 60, .inl gnd)), (agre, .inl (cJ, 60, .inr (.inl u)))] t.heap ∧ va_K (dC, dI) vwCl [(cI, .int), (cJ, .long)] t ∧ va_D A [(h0, .inr (4, [.int xth, .int xnv, .int xna, .ref agbi, .ref agab, .int xtl, .ref aghv, .ref agic, .ref agbe, .int xmk, .ref agmt, .ref agmv, .ref agma, .ref agnd, .ref agre, .ref agse, .ref aglv, .ref agal, .ref agds, .ref agno, .ref agna])), (agic, .inl (cI, 3600, .inl gic)), (agnd, .inl (cI, 60, .inl gnd)), (agre, .inl (cJ, 60, .inr (.inl u)))]) A) (List.toArray [.ref h0]) s 0 0 A) (F0 m 50 ls [])) ?_ ?_ ?_ ?_ ?_
  · intro x1 gre ht H locs ls hP hD hS hl
    refine lv_iload_n hx hb dX4_findReach_2 rfl (lv_at hl 1 rfl) ?_
    refine lv_aload_n hx hb dX4_findReach_3 rfl (lv_at hl 0 rfl) ?_
    refine va_get (D := (dC, dI)) (ci := 4) (v := .int xnv) (C := RX4) (T := TX4) (N := 21) hx hb hts hw0 hown hK hP 0 rfl rfl 1 (by decide) hw1 (fun _ h9 => h9) rfl dX4_findReach_4 ?_
    refine lv_icmp_ge (tgt := 30) hx hb dX4_findReach_7 (by decide) (fun c1 => ?_) (fun c1 => ?_)
    · replace ht := ht.1 c1
      refine lv_iconst (v := 1) hx hb dX4_findReach_30 (by decide) ?_
      refine lv_istore_n (lv' := [(1, .int 1), (0, .ref h0)]) hx hb dX4_findReach_31 rfl hl (by decide) rfl (fun ls hl => ?_)
      exact ht _ _ _ hP hD hS (lv_sub hl [1, 0] rfl)
    · replace ht := ht.2 c1
      refine lv_aload_n hx hb dX4_findReach_10 rfl (lv_at hl 0 rfl) ?_
      refine va_get (D := (dC, dI)) (ci := 4) (v := .ref agre) (C := RX4) (T := TX4) (N := 21) hx hb hts hw0 hown hK hP 0 rfl rfl 14 (by decide) hw2 (fun _ h9 => h9) rfl dX4_findReach_11 ?_
      refine lv_iload_n hx hb dX4_findReach_14 rfl (lv_at hl 1 rfl) ?_
      refine lv_lconst (v := 1) hx hb dX4_findReach_15 rfl ?_
      refine lv_aload_n hx hb dX4_findReach_16 rfl (lv_at hl 0 rfl) ?_
      refine va_get (D := (dC, dI)) (ci := 4) (v := .ref agnd) (C := RX4) (T := TX4) (N := 21) hx hb hts hw0 hown hK hP 0 rfl rfl 13 (by decide) hw3 (fun _ h9 => h9) rfl dX4_findReach_17 ?_
      refine lv_iload_n hx hb dX4_findReach_20 rfl (lv_at hl 1 rfl) ?_
      obtain ⟨i2, ht⟩ := ht
      refine va_iald hx hb hK hP 2 0 rfl rfl i2 dX4_findReach_21 ?_
      refine lv_lshl (v := ((1 : Int64) <<< ((gnd x1.toNatClampNeg).toInt64 &&& 63))) hx hb dX4_findReach_22 rfl ?_
      refine va_last hx hb hK hP hD hS 3 1 rfl rfl i2 dX4_findReach_23 (fun H locs hP hD hS => ?_)
      replace hP : va_P (dC, dI) vwCl [(h0, .inr (4, [.int xth, .int xnv, .int xna, .ref agbi, .ref agab, .int xtl, .ref aghv, .ref agic, .ref agbe, .int xmk, .ref agmt, .ref agmv, .ref agma, .ref agnd, .ref agre, .ref agse, .ref aglv, .ref agal, .ref agds, .ref agno, .ref agna])), (agic, .inl (cI, 3600, .inl gic)), (agnd, .inl (cI, 60, .inl gnd)), (agre, .inl (cJ, 60, .inr (.inl (vp_updL gre x1.toNatClampNeg ((1 : Int64) <<< ((gnd x1.toNatClampNeg).toInt64 &&& 63))))))] H := hP
      replace hD : va_D A [(h0, .inr (4, [.int xth, .int xnv, .int xna, .ref agbi, .ref agab, .int xtl, .ref aghv, .ref agic, .ref agbe, .int xmk, .ref agmt, .ref agmv, .ref agma, .ref agnd, .ref agre, .ref agse, .ref aglv, .ref agal, .ref agds, .ref agno, .ref agna])), (agic, .inl (cI, 3600, .inl gic)), (agnd, .inl (cI, 60, .inl gnd)), (agre, .inl (cJ, 60, .inr (.inl (vp_updL gre x1.toNatClampNeg ((1 : Int64) <<< ((gnd x1.toNatClampNeg).toInt64 &&& 63))))))] := hD
      obtain ⟨y3, ey3⟩ : ∃ y : Int32, y = x1 + 1 := ⟨_, rfl⟩
      replace ht := ht y3 ey3
      refine lv_iinc (v := y3) (lv' := [(1, .int y3), (0, .ref h0)]) hx hb dX4_findReach_24 hl (k := 1) rfl (by rw [ey3]; rfl) (by decide) rfl (fun ls hl => ?_)
      refine lv_goto (tgt := 2) hx hb dX4_findReach_27 (by decide) ?_
      exact ht _ _ _ hP hD hS (lv_sub hl [1, 0] rfl)
  · intro x1 gre ht H locs ls hP hD hS hl
    refine lv_iload_n hx hb dX4_findReach_32 rfl (lv_at hl 1 rfl) ?_
    refine lv_if_eq (tgt := 153) hx hb dX4_findReach_33 (by decide) (fun c4 => ?_) (fun c4 => ?_)
    · replace ht := ht.1 c4
      have hP9 : va_P (dC, dI) vwCl [(h0, .inr (4, [.int xth, .int xnv, .int xna, .ref agbi, .ref agab, .int xtl, .ref aghv, .ref agic, .ref agbe, .int xmk, .ref agmt, .ref agmv, .ref agma, .ref agnd, .ref agre, .ref agse, .ref aglv, .ref agal, .ref agds, .ref agno, .ref agna])), (agic, .inl (cI, 3600, .inl gic)), (agnd, .inl (cI, 60, .inl gnd)), (agre, .inl (cJ, 60, .inr (.inl gre)))] _ := hP
      have hD9 : va_D A [(h0, .inr (4, [.int xth, .int xnv, .int xna, .ref agbi, .ref agab, .int xtl, .ref aghv, .ref agic, .ref agbe, .int xmk, .ref agmt, .ref agmv, .ref agma, .ref agnd, .ref agre, .ref agse, .ref aglv, .ref agal, .ref agds, .ref agno, .ref agna])), (agic, .inl (cI, 3600, .inl gic)), (agnd, .inl (cI, 60, .inl gnd)), (agre, .inl (cJ, 60, .inr (.inl gre)))] := hD
      exact W.vret hx hb hr (fun t ht9 hW => ⟨⟨gre, rfl, ht, by rw [ht9]; exact hP9, va_K.moved hW.alike hK, hD9⟩, hS.F ht9⟩) hS.2.2 dX4_findReach_153
    · replace ht := ht.2 c4
      refine lv_iconst (v := 0) hx hb dX4_findReach_36 (by decide) ?_
      refine lv_istore_n (lv' := [(1, .int 0), (0, .ref h0)]) hx hb dX4_findReach_37 rfl hl (by decide) rfl (fun ls hl => ?_)
      refine lv_iconst (v := 0) hx hb dX4_findReach_38 (by decide) ?_
      refine lv_istore_n (lv' := [(2, .int 0), (1, .int 0), (0, .ref h0)]) hx hb dX4_findReach_39 rfl hl (by decide) rfl (fun ls hl => ?_)
      exact ht _ _ _ hP hD hS (lv_sub hl [2, 1, 0] rfl)
  · intro x1 x2 gre ht H locs ls hP hD hS hl
    refine lv_iload_n hx hb dX4_findReach_40 rfl (lv_at hl 2 rfl) ?_
    refine lv_aload_n hx hb dX4_findReach_41 rfl (lv_at hl 0 rfl) ?_
    refine va_get (D := (dC, dI)) (ci := 4) (v := .int xnv) (C := RX4) (T := TX4) (N := 21) hx hb hts hw0 hown hK hP 0 rfl rfl 1 (by decide) hw1 (fun _ h9 => h9) rfl dX4_findReach_42 ?_
    refine lv_icmp_ge (tgt := 150) hx hb dX4_findReach_45 (by decide) (fun c5 => ?_) (fun c5 => ?_)
    · replace ht := ht.1 c5
      refine lv_goto (tgt := 32) hx hb dX4_findReach_150 (by decide) ?_
      exact ht _ _ _ hP hD hS (lv_sub hl [0, 1] rfl)
    · replace ht := ht.2 c5
      refine lv_iconst (v := 0) hx hb dX4_findReach_48 (by decide) ?_
      refine lv_istore_n (lv' := [(3, .int 0), (0, .ref h0), (1, .int x1), (2, .int x2)]) hx hb dX4_findReach_49 rfl hl (by decide) rfl (fun ls hl => ?_)
      exact ht _ _ _ hP hD hS (lv_sub hl [1, 2, 3, 0] rfl)
  · intro x1 x2 x3 gre ht H locs ls hP hD hS hl
    refine lv_iload_n hx hb dX4_findReach_50 rfl (lv_at hl 3 rfl) ?_
    refine lv_aload_n hx hb dX4_findReach_51 rfl (lv_at hl 0 rfl) ?_
    refine va_get (D := (dC, dI)) (ci := 4) (v := .int xnv) (C := RX4) (T := TX4) (N := 21) hx hb hts hw0 hown hK hP 0 rfl rfl 1 (by decide) hw1 (fun _ h9 => h9) rfl dX4_findReach_52 ?_
    refine lv_icmp_ge (tgt := 144) hx hb dX4_findReach_55 (by decide) (fun c6 => ?_) (fun c6 => ?_)
    · replace ht := ht.1 c6
      obtain ⟨y7, ey7⟩ : ∃ y : Int32, y = x2 + 1 := ⟨_, rfl⟩
      replace ht := ht y7 ey7
      refine lv_iinc (v := y7) (lv' := [(2, .int y7), (0, .ref h0), (1, .int x1), (3, .int x3)]) hx hb dX4_findReach_144 hl (k := 2) rfl (by rw [ey7]; rfl) (by decide) rfl (fun ls hl => ?_)
      refine lv_goto (tgt := 40) hx hb dX4_findReach_147 (by decide) ?_
      exact ht _ _ _ hP hD hS (lv_sub hl [1, 2, 0] rfl)
    · replace ht := ht.2 c6
      refine lv_aload_n hx hb dX4_findReach_58 rfl (lv_at hl 0 rfl) ?_
      refine va_get (D := (dC, dI)) (ci := 4) (v := .ref agnd) (C := RX4) (T := TX4) (N := 21) hx hb hts hw0 hown hK hP 0 rfl rfl 13 (by decide) hw3 (fun _ h9 => h9) rfl dX4_findReach_59 ?_
      refine lv_iload_n hx hb dX4_findReach_62 rfl (lv_at hl 2 rfl) ?_
      obtain ⟨i8, ht⟩ := ht
      refine va_iald hx hb hK hP 2 0 rfl rfl i8 dX4_findReach_63 ?_
      refine lv_aload_n hx hb dX4_findReach_64 rfl (lv_at hl 0 rfl) ?_
      refine va_get (D := (dC, dI)) (ci := 4) (v := .ref agnd) (C := RX4) (T := TX4) (N := 21) hx hb hts hw0 hown hK hP 0 rfl rfl 13 (by decide) hw3 (fun _ h9 => h9) rfl dX4_findReach_65 ?_
      refine lv_iload_n hx hb dX4_findReach_68 rfl (lv_at hl 3 rfl) ?_
      obtain ⟨i9, ht⟩ := ht
      refine va_iald hx hb hK hP 2 0 rfl rfl i9 dX4_findReach_69 ?_
      refine lv_icmp_eq (tgt := 87) hx hb dX4_findReach_70 (by decide) (fun c10 => ?_) (fun c10 => ?_)
      · replace ht := ht.1 c10
        refine lv_iconst (v := 1) hx hb dX4_findReach_87 (by decide) ?_
        refine lv_goto (tgt := 92) hx hb dX4_findReach_88 (by decide) ?_
        refine lv_istore (lv' := [(4, .int 1), (0, .ref h0), (1, .int x1), (2, .int x2), (3, .int x3)]) hx hb dX4_findReach_92 hl (by decide) rfl (fun ls hl => ?_)
        refine lv_iload hx hb dX4_findReach_94 (lv_at hl 0 rfl) ?_
        refine lv_if_eq (tgt := 138) hx hb dX4_findReach_96 (by decide) (fun c11 => ?_) (fun c11 => ?_)
        · exact absurd c11 (by decide)
        · refine lv_aload_n hx hb dX4_findReach_99 rfl (lv_at hl 1 rfl) ?_
          refine va_get (D := (dC, dI)) (ci := 4) (v := .ref agre) (C := RX4) (T := TX4) (N := 21) hx hb hts hw0 hown hK hP 0 rfl rfl 14 (by decide) hw2 (fun _ h9 => h9) rfl dX4_findReach_100 ?_
          refine lv_iload_n hx hb dX4_findReach_103 rfl (lv_at hl 4 rfl) ?_
          refine va_lald hx hb hK hP 3 1 rfl rfl i9 dX4_findReach_104 ?_
          refine lv_aload_n hx hb dX4_findReach_105 rfl (lv_at hl 1 rfl) ?_
          refine va_get (D := (dC, dI)) (ci := 4) (v := .ref agre) (C := RX4) (T := TX4) (N := 21) hx hb hts hw0 hown hK hP 0 rfl rfl 14 (by decide) hw2 (fun _ h9 => h9) rfl dX4_findReach_106 ?_
          refine lv_iload_n hx hb dX4_findReach_109 rfl (lv_at hl 3 rfl) ?_
          refine va_lald hx hb hK hP 3 1 rfl rfl i8 dX4_findReach_110 ?_
          refine lv_ldc2 (v := (-1)) hx hb hown hw4 dX4_findReach_111 ?_
          refine lv_lxor hx hb dX4_findReach_114 ?_
          refine lv_land hx hb dX4_findReach_115 ?_
          refine lv_lconst (v := 0) hx hb dX4_findReach_116 rfl ?_
          refine W.lcmp hx hb dX4_findReach_117 ?_
          refine lv_if_eq (tgt := 138) hx hb dX4_findReach_118 (by decide) (fun c12 => ?_) (fun c12 => ?_)
          · replace ht := ht.1 c12
            obtain ⟨y13, ey13⟩ : ∃ y : Int32, y = x3 + 1 := ⟨_, rfl⟩
            replace ht := ht y13 ey13
            refine lv_iinc (v := y13) (lv' := [(3, .int y13), (4, .int 1), (0, .ref h0), (1, .int x1), (2, .int x2)]) hx hb dX4_findReach_138 hl (k := 4) rfl (by rw [ey13]; rfl) (by decide) rfl (fun ls hl => ?_)
            refine lv_goto (tgt := 50) hx hb dX4_findReach_141 (by decide) ?_
            exact ht _ _ _ hP hD hS (lv_sub hl [2, 3, 4, 0] rfl)
          · replace ht := ht.2 c12
            refine lv_aload_n hx hb dX4_findReach_121 rfl (lv_at hl 1 rfl) ?_
            refine va_get (D := (dC, dI)) (ci := 4) (v := .ref agre) (C := RX4) (T := TX4) (N := 21) hx hb hts hw0 hown hK hP 0 rfl rfl 14 (by decide) hw2 (fun _ h9 => h9) rfl dX4_findReach_122 ?_
            refine lv_iload_n hx hb dX4_findReach_125 rfl (lv_at hl 3 rfl) ?_
            refine lv_dup2_11 hx hb dX4_findReach_126 rfl rfl ?_
            refine va_lald hx hb hK hP 3 1 rfl rfl i8 dX4_findReach_127 ?_
            refine lv_aload_n hx hb dX4_findReach_128 rfl (lv_at hl 1 rfl) ?_
            refine va_get (D := (dC, dI)) (ci := 4) (v := .ref agre) (C := RX4) (T := TX4) (N := 21) hx hb hts hw0 hown hK hP 0 rfl rfl 14 (by decide) hw2 (fun _ h9 => h9) rfl dX4_findReach_129 ?_
            refine lv_iload_n hx hb dX4_findReach_132 rfl (lv_at hl 4 rfl) ?_
            refine va_lald hx hb hK hP 3 1 rfl rfl i9 dX4_findReach_133 ?_
            refine lv_lor hx hb dX4_findReach_134 ?_
            refine va_last hx hb hK hP hD hS 3 1 rfl rfl i8 dX4_findReach_135 (fun H locs hP hD hS => ?_)
            replace hP : va_P (dC, dI) vwCl [(h0, .inr (4, [.int xth, .int xnv, .int xna, .ref agbi, .ref agab, .int xtl, .ref aghv, .ref agic, .ref agbe, .int xmk, .ref agmt, .ref agmv, .ref agma, .ref agnd, .ref agre, .ref agse, .ref aglv, .ref agal, .ref agds, .ref agno, .ref agna])), (agic, .inl (cI, 3600, .inl gic)), (agnd, .inl (cI, 60, .inl gnd)), (agre, .inl (cJ, 60, .inr (.inl (vp_updL gre x2.toNatClampNeg ((gre x2.toNatClampNeg) ||| (gre x3.toNatClampNeg))))))] H := hP
            replace hD : va_D A [(h0, .inr (4, [.int xth, .int xnv, .int xna, .ref agbi, .ref agab, .int xtl, .ref aghv, .ref agic, .ref agbe, .int xmk, .ref agmt, .ref agmv, .ref agma, .ref agnd, .ref agre, .ref agse, .ref aglv, .ref agal, .ref agds, .ref agno, .ref agna])), (agic, .inl (cI, 3600, .inl gic)), (agnd, .inl (cI, 60, .inl gnd)), (agre, .inl (cJ, 60, .inr (.inl (vp_updL gre x2.toNatClampNeg ((gre x2.toNatClampNeg) ||| (gre x3.toNatClampNeg))))))] := hD
            refine lv_iconst (v := 1) hx hb dX4_findReach_136 (by decide) ?_
            refine lv_istore_n (lv' := [(1, .int 1), (4, .int 1), (0, .ref h0), (2, .int x2), (3, .int x3)]) hx hb dX4_findReach_137 rfl hl (by decide) rfl (fun ls hl => ?_)
            obtain ⟨y14, ey14⟩ : ∃ y : Int32, y = x3 + 1 := ⟨_, rfl⟩
            replace ht := ht y14 ey14
            refine lv_iinc (v := y14) (lv' := [(3, .int y14), (1, .int 1), (4, .int 1), (0, .ref h0), (2, .int x2)]) hx hb dX4_findReach_138 hl (k := 4) rfl (by rw [ey14]; rfl) (by decide) rfl (fun ls hl => ?_)
            refine lv_goto (tgt := 50) hx hb dX4_findReach_141 (by decide) ?_
            exact ht _ _ _ hP hD hS (lv_sub hl [3, 1, 4, 0] rfl)
      · replace ht := ht.2 c10
        refine lv_aload_n hx hb dX4_findReach_73 rfl (lv_at hl 0 rfl) ?_
        refine va_get (D := (dC, dI)) (ci := 4) (v := .ref agic) (C := RX4) (T := TX4) (N := 21) hx hb hts hw0 hown hK hP 0 rfl rfl 7 (by decide) hw5 (fun _ h9 => h9) rfl dX4_findReach_74 ?_
        refine lv_bipush (v := 60) hx hb dX4_findReach_77 (by decide) ?_
        refine lv_iload_n hx hb dX4_findReach_79 rfl (lv_at hl 2 rfl) ?_
        refine lv_imul hx hb dX4_findReach_80 ?_
        refine lv_iload_n hx hb dX4_findReach_81 rfl (lv_at hl 3 rfl) ?_
        refine lv_iadd hx hb dX4_findReach_82 ?_
        obtain ⟨i15, ht⟩ := ht
        refine va_iald hx hb hK hP 1 0 rfl rfl i15 dX4_findReach_83 ?_
        refine lv_if_le (tgt := 91) hx hb dX4_findReach_84 (by decide) (fun c16 => ?_) (fun c16 => ?_)
        · replace ht := ht.1 c16
          refine lv_iconst (v := 0) hx hb dX4_findReach_91 (by decide) ?_
          refine lv_istore (lv' := [(4, .int 0), (0, .ref h0), (1, .int x1), (2, .int x2), (3, .int x3)]) hx hb dX4_findReach_92 hl (by decide) rfl (fun ls hl => ?_)
          refine lv_iload hx hb dX4_findReach_94 (lv_at hl 0 rfl) ?_
          refine lv_if_eq (tgt := 138) hx hb dX4_findReach_96 (by decide) (fun c17 => ?_) (fun c17 => ?_)
          · obtain ⟨y18, ey18⟩ : ∃ y : Int32, y = x3 + 1 := ⟨_, rfl⟩
            replace ht := ht y18 ey18
            refine lv_iinc (v := y18) (lv' := [(3, .int y18), (4, .int 0), (0, .ref h0), (1, .int x1), (2, .int x2)]) hx hb dX4_findReach_138 hl (k := 4) rfl (by rw [ey18]; rfl) (by decide) rfl (fun ls hl => ?_)
            refine lv_goto (tgt := 50) hx hb dX4_findReach_141 (by decide) ?_
            exact ht _ _ _ hP hD hS (lv_sub hl [2, 3, 4, 0] rfl)
          · exact absurd c17 (by decide)
        · replace ht := ht.2 c16
          refine lv_iconst (v := 1) hx hb dX4_findReach_87 (by decide) ?_
          refine lv_goto (tgt := 92) hx hb dX4_findReach_88 (by decide) ?_
          refine lv_istore (lv' := [(4, .int 1), (0, .ref h0), (1, .int x1), (2, .int x2), (3, .int x3)]) hx hb dX4_findReach_92 hl (by decide) rfl (fun ls hl => ?_)
          refine lv_iload hx hb dX4_findReach_94 (lv_at hl 0 rfl) ?_
          refine lv_if_eq (tgt := 138) hx hb dX4_findReach_96 (by decide) (fun c19 => ?_) (fun c19 => ?_)
          · exact absurd c19 (by decide)
          · refine lv_aload_n hx hb dX4_findReach_99 rfl (lv_at hl 1 rfl) ?_
            refine va_get (D := (dC, dI)) (ci := 4) (v := .ref agre) (C := RX4) (T := TX4) (N := 21) hx hb hts hw0 hown hK hP 0 rfl rfl 14 (by decide) hw2 (fun _ h9 => h9) rfl dX4_findReach_100 ?_
            refine lv_iload_n hx hb dX4_findReach_103 rfl (lv_at hl 4 rfl) ?_
            refine va_lald hx hb hK hP 3 1 rfl rfl i9 dX4_findReach_104 ?_
            refine lv_aload_n hx hb dX4_findReach_105 rfl (lv_at hl 1 rfl) ?_
            refine va_get (D := (dC, dI)) (ci := 4) (v := .ref agre) (C := RX4) (T := TX4) (N := 21) hx hb hts hw0 hown hK hP 0 rfl rfl 14 (by decide) hw2 (fun _ h9 => h9) rfl dX4_findReach_106 ?_
            refine lv_iload_n hx hb dX4_findReach_109 rfl (lv_at hl 3 rfl) ?_
            refine va_lald hx hb hK hP 3 1 rfl rfl i8 dX4_findReach_110 ?_
            refine lv_ldc2 (v := (-1)) hx hb hown hw4 dX4_findReach_111 ?_
            refine lv_lxor hx hb dX4_findReach_114 ?_
            refine lv_land hx hb dX4_findReach_115 ?_
            refine lv_lconst (v := 0) hx hb dX4_findReach_116 rfl ?_
            refine W.lcmp hx hb dX4_findReach_117 ?_
            refine lv_if_eq (tgt := 138) hx hb dX4_findReach_118 (by decide) (fun c20 => ?_) (fun c20 => ?_)
            · replace ht := ht.1 c20
              obtain ⟨y21, ey21⟩ : ∃ y : Int32, y = x3 + 1 := ⟨_, rfl⟩
              replace ht := ht y21 ey21
              refine lv_iinc (v := y21) (lv' := [(3, .int y21), (4, .int 1), (0, .ref h0), (1, .int x1), (2, .int x2)]) hx hb dX4_findReach_138 hl (k := 4) rfl (by rw [ey21]; rfl) (by decide) rfl (fun ls hl => ?_)
              refine lv_goto (tgt := 50) hx hb dX4_findReach_141 (by decide) ?_
              exact ht _ _ _ hP hD hS (lv_sub hl [2, 3, 4, 0] rfl)
            · replace ht := ht.2 c20
              refine lv_aload_n hx hb dX4_findReach_121 rfl (lv_at hl 1 rfl) ?_
              refine va_get (D := (dC, dI)) (ci := 4) (v := .ref agre) (C := RX4) (T := TX4) (N := 21) hx hb hts hw0 hown hK hP 0 rfl rfl 14 (by decide) hw2 (fun _ h9 => h9) rfl dX4_findReach_122 ?_
              refine lv_iload_n hx hb dX4_findReach_125 rfl (lv_at hl 3 rfl) ?_
              refine lv_dup2_11 hx hb dX4_findReach_126 rfl rfl ?_
              refine va_lald hx hb hK hP 3 1 rfl rfl i8 dX4_findReach_127 ?_
              refine lv_aload_n hx hb dX4_findReach_128 rfl (lv_at hl 1 rfl) ?_
              refine va_get (D := (dC, dI)) (ci := 4) (v := .ref agre) (C := RX4) (T := TX4) (N := 21) hx hb hts hw0 hown hK hP 0 rfl rfl 14 (by decide) hw2 (fun _ h9 => h9) rfl dX4_findReach_129 ?_
              refine lv_iload_n hx hb dX4_findReach_132 rfl (lv_at hl 4 rfl) ?_
              refine va_lald hx hb hK hP 3 1 rfl rfl i9 dX4_findReach_133 ?_
              refine lv_lor hx hb dX4_findReach_134 ?_
              refine va_last hx hb hK hP hD hS 3 1 rfl rfl i8 dX4_findReach_135 (fun H locs hP hD hS => ?_)
              replace hP : va_P (dC, dI) vwCl [(h0, .inr (4, [.int xth, .int xnv, .int xna, .ref agbi, .ref agab, .int xtl, .ref aghv, .ref agic, .ref agbe, .int xmk, .ref agmt, .ref agmv, .ref agma, .ref agnd, .ref agre, .ref agse, .ref aglv, .ref agal, .ref agds, .ref agno, .ref agna])), (agic, .inl (cI, 3600, .inl gic)), (agnd, .inl (cI, 60, .inl gnd)), (agre, .inl (cJ, 60, .inr (.inl (vp_updL gre x2.toNatClampNeg ((gre x2.toNatClampNeg) ||| (gre x3.toNatClampNeg))))))] H := hP
              replace hD : va_D A [(h0, .inr (4, [.int xth, .int xnv, .int xna, .ref agbi, .ref agab, .int xtl, .ref aghv, .ref agic, .ref agbe, .int xmk, .ref agmt, .ref agmv, .ref agma, .ref agnd, .ref agre, .ref agse, .ref aglv, .ref agal, .ref agds, .ref agno, .ref agna])), (agic, .inl (cI, 3600, .inl gic)), (agnd, .inl (cI, 60, .inl gnd)), (agre, .inl (cJ, 60, .inr (.inl (vp_updL gre x2.toNatClampNeg ((gre x2.toNatClampNeg) ||| (gre x3.toNatClampNeg))))))] := hD
              refine lv_iconst (v := 1) hx hb dX4_findReach_136 (by decide) ?_
              refine lv_istore_n (lv' := [(1, .int 1), (4, .int 1), (0, .ref h0), (2, .int x2), (3, .int x3)]) hx hb dX4_findReach_137 rfl hl (by decide) rfl (fun ls hl => ?_)
              obtain ⟨y22, ey22⟩ : ∃ y : Int32, y = x3 + 1 := ⟨_, rfl⟩
              replace ht := ht y22 ey22
              refine lv_iinc (v := y22) (lv' := [(3, .int y22), (1, .int 1), (4, .int 1), (0, .ref h0), (2, .int x2)]) hx hb dX4_findReach_138 hl (k := 4) rfl (by rw [ey22]; rfl) (by decide) rfl (fun ls hl => ?_)
              refine lv_goto (tgt := 50) hx hb dX4_findReach_141 (by decide) ?_
              exact ht _ _ _ hP hD hS (lv_sub hl [3, 1, 4, 0] rfl)
  · intro ht
    refine lv_iconst (v := 0) hx hb dX4_findReach_0 (by decide) ?_
    refine lv_istore_n (lv' := [(1, .int 0), (0, .ref h0)]) hx hb dX4_findReach_1 rfl hl (by decide) rfl (fun ls hl => ?_)
    exact ht _ _ _ hP hD hS (lv_sub hl [1, 0] rfl)
set_option maxHeartbeats 4000000 in
set_option maxRecDepth 100000 in
theorem c_X4_findSets (l : Launch) (dC : Nat → ClassId) (dI : Nat → Nat → Nat) (cI cJ : ClassId) (h0 : Nat) (agbi : Nat) (agab : Nat) (aghv : Nat) (agic : Nat) (agbe : Nat) (agmt : Nat) (agmv : Nat) (agma : Nat) (agnd : Nat) (agre : Nat) (agse : Nat) (aglv : Nat) (agal : Nat) (agds : Nat) (agno : Nat) (agna : Nat) (xth : Int32) (xnv : Int32) (xna : Int32) (xtl : Int32) (xmk : Int32) (ghv : Nat → Int32) (gnd : Nat → Int32) (gre : Nat → Int64) (gse : Nat → Int32) (sz : Nat) (post : (Nat → Int32) → Prop) (hsp : S_X4_findSets xnv xna ghv gnd gre gse post) : Met l yX4_findSets wsX4_findSets ({ frames := 0, cells := 0, slots := 0, locals := 0 }) (va_Pc [.ref h0] (fun U => U.heap.size = sz ∧ va_P (dC, dI) vwCl [(h0, .inr (4, [.int xth, .int xnv, .int xna, .ref agbi, .ref agab, .int xtl, .ref aghv, .ref agic, .ref agbe, .int xmk, .ref agmt, .ref agmv, .ref agma, .ref agnd, .ref agre, .ref agse, .ref aglv, .ref agal, .ref agds, .ref agno, .ref agna])), (aghv, .inl (cI, 1920, .inl ghv)), (agnd, .inl (cI, 60, .inl gnd)), (agre, .inl (cJ, 60, .inr (.inl gre))), (agse, .inl (cI, 60, .inl gse))] U.heap ∧ va_K (dC, dI) vwCl [(cI, .int), (cJ, .long)] U ∧ va_D (fun _ => True) [(h0, .inr (4, [.int xth, .int xnv, .int xna, .ref agbi, .ref agab, .int xtl, .ref aghv, .ref agic, .ref agbe, .int xmk, .ref agmt, .ref agmv, .ref agma, .ref agnd, .ref agre, .ref agse, .ref aglv, .ref agal, .ref agds, .ref agno, .ref agna])), (aghv, .inl (cI, 1920, .inl ghv)), (agnd, .inl (cI, 60, .inl gnd)), (agre, .inl (cJ, 60, .inr (.inl gre))), (agse, .inl (cI, 60, .inl gse))] ∧ nw U)) (va_Qv (fun (u : (Nat → Int32)) => post u) (fun (u : (Nat → Int32)) (t : State) => va_P (dC, dI) vwCl [(h0, .inr (4, [.int xth, .int xnv, .int xna, .ref agbi, .ref agab, .int xtl, .ref aghv, .ref agic, .ref agbe, .int xmk, .ref agmt, .ref agmv, .ref agma, .ref agnd, .ref agre, .ref agse, .ref aglv, .ref agal, .ref agds, .ref agno, .ref agna])), (aghv, .inl (cI, 1920, .inl ghv)), (agnd, .inl (cI, 60, .inl gnd)), (agre, .inl (cJ, 60, .inr (.inl gre))), (agse, .inl (cI, 60, .inl u))] t.heap ∧ va_K (dC, dI) vwCl [(cI, .int), (cJ, .long)] t ∧ va_D (va_A [(h0, .inr (4, [.int xth, .int xnv, .int xna, .ref agbi, .ref agab, .int xtl, .ref aghv, .ref agic, .ref agbe, .int xmk, .ref agmt, .ref agmv, .ref agma, .ref agnd, .ref agre, .ref agse, .ref aglv, .ref agal, .ref agds, .ref agno, .ref agna])), (aghv, .inl (cI, 1920, .inl ghv)), (agnd, .inl (cI, 60, .inl gnd)), (agre, .inl (cJ, 60, .inr (.inl gre))), (agse, .inl (cI, 60, .inl gse))] sz) [(h0, .inr (4, [.int xth, .int xnv, .int xna, .ref agbi, .ref agab, .int xtl, .ref aghv, .ref agic, .ref agbe, .int xmk, .ref agmt, .ref agmv, .ref agma, .ref agnd, .ref agre, .ref agse, .ref aglv, .ref agal, .ref agds, .ref agno, .ref agna])), (aghv, .inl (cI, 1920, .inl ghv)), (agnd, .inl (cI, 60, .inl gnd)), (agre, .inl (cJ, 60, .inr (.inl gre))), (agse, .inl (cI, 60, .inl u))]) (va_A [(h0, .inr (4, [.int xth, .int xnv, .int xna, .ref agbi, .ref agab, .int xtl, .ref aghv, .ref agic, .ref agbe, .int xmk, .ref agmt, .ref agmv, .ref agma, .ref agnd, .ref agre, .ref agse, .ref aglv, .ref agal, .ref agds, .ref agno, .ref agna])), (aghv, .inl (cI, 1920, .inl ghv)), (agnd, .inl (cI, 60, .inl gnd)), (agre, .inl (cJ, 60, .inr (.inl gre))), (agse, .inl (cI, 60, .inl gse))] sz)) 0 0 (va_A [(h0, .inr (4, [.int xth, .int xnv, .int xna, .ref agbi, .ref agab, .int xtl, .ref aghv, .ref agic, .ref agbe, .int xmk, .ref agmt, .ref agmv, .ref agma, .ref agnd, .ref agre, .ref agse, .ref aglv, .ref agal, .ref agds, .ref agno, .ref agna])), (aghv, .inl (cI, 1920, .inl ghv)), (agnd, .inl (cI, 60, .inl gnd)), (agre, .inl (cJ, 60, .inr (.inl gre))), (agse, .inl (cI, 60, .inl gse))] sz) := by
  refine Met.ofW (cc := cX4_findSets) (maxL := 5) (ret := none) (by decide) rfl ?_
  intro p e s m args below meth c s₁ B hml hv
  obtain ⟨rfl, hsz, hP, hK, hD0, hN⟩ := hv
  have hx := B.exec
  have hb := B.bytes
  have hr := B.returns
  have hts := atoms_spec (ws := wsX4_findSets) B.pre
  have hown : s.vm.findClass RX4 = some m.cls := findClass_of_methodNamed B.named
  have hlocks := B.notSynchronized
  subst hsz
  have hD := hD0.self (sz := s.heap.size)
  generalize hAe : va_A [(h0, .inr (4, [.int xth, .int xnv, .int xna, .ref agbi, .ref agab, .int xtl, .ref aghv, .ref agic, .ref agbe, .int xmk, .ref agmt, .ref agmv, .ref agma, .ref agnd, .ref agre, .ref agse, .ref aglv, .ref agal, .ref agds, .ref agno, .ref agna])), (aghv, .inl (cI, 1920, .inl ghv)), (agnd, .inl (cI, 60, .inl gnd)), (agre, .inl (cJ, 60, .inr (.inl gre))), (agse, .inl (cI, 60, .inl gse))] s.heap.size = A at hD ⊢
  have hA : ∀ q : Nat, s.heap.size ≤ q → A q := fun q h => by rw [← hAe]; exact Or.inr h
  have hS : va_S A s.heap s.heap [] := va_S.rf
  have hl := lv_entry ([.ref h0]) (n := 5) (Nat.le_of_ble_eq_true rfl)
  rw [lg_entry_eq]
  generalize (lg_sl ([.ref h0]) ++ List.replicate (5 - (lg_sl ([.ref h0])).length) Slot.unset).toArray = ls at hl ⊢
  replace hl : lv_has ls 5 [(0, .ref h0)] := hl
  have hw0 := (show ∀ w ∈ wsX40, w ∈ wsX4_findSets from by decide +kernel)
  have hw1 := hts (.fieldLink RX4 63 "EffectNetsModel" "variables" "I") (by decide +kernel)
  have hw2 := hts (.fieldLink RX4 41 "EffectNetsModel" "sets" "[I") (by decide +kernel)
  have hw3 := hts (.fieldLink RX4 66 "EffectNetsModel" "atoms" "I") (by decide +kernel)
  have hw4 := hts (.fieldLink RX4 37 "EffectNetsModel" "reached" "[J") (by decide +kernel)
  have hw5 := hts (.fieldLink RX4 34 "EffectNetsModel" "node" "[I") (by decide +kernel)
  have hw6 := hts (.fieldLink RX4 16 "EffectNetsModel" "having" "[I") (by decide +kernel)
  refine hsp _ (fun (x1 : Int32) (gse : Nat → Int32) => ∀ (H : Heap) (locs : List Loc) (ls : Array Slot), va_P (dC, dI) vwCl [(h0, .inr (4, [.int xth, .int xnv, .int xna, .ref agbi, .ref agab, .int xtl, .ref aghv, .ref agic, .ref agbe, .int xmk, .ref agmt, .ref agmv, .ref agma, .ref agnd, .ref agre, .ref agse, .ref aglv, .ref agal, .ref agds, .ref agno, .ref agna])), (aghv, .inl (cI, 1920, .inl ghv)), (agnd, .inl (cI, 60, .inl gnd)), (agre, .inl (cJ, 60, .inr (.inl gre))), (agse, .inl (cI, 60, .inl gse))] H → va_D A [(h0, .inr (4, [.int xth, .int xnv, .int xna, .ref agbi, .ref agab, .int xtl, .ref aghv, .ref agic, .ref agbe, .int xmk, .ref agmt, .ref agmv, .ref agma, .ref agnd, .ref agre, .ref agse, .ref aglv, .ref agal, .ref agds, .ref agno, .ref agna])), (aghv, .inl (cI, 1920, .inl ghv)), (agnd, .inl (cI, 60, .inl gnd)), (agre, .inl (cJ, 60, .inr (.inl gre))), (agse, .inl (cI, 60, .inl gse))] → va_S A s.heap H locs → lv_has ls 5 [(0, .ref h0), (1, .int x1)] → W p l e (headSpec wsX4_findSets ({ frames := 0, cells := 0, slots := 0, locals := 0 })).room s m (List.toArray [.ref h0]) below meth c H locs 0 0 (MQ below (va_Qv (fun (u : (Nat → Int32)) => post u) (fun (u : (Nat → Int32)) (t : State) => va_P (dC, dI) vwCl [(h0, .inr (4, [.int xth, .int xnv, .int xna, .ref agbi, .ref agab, .int xtl, .ref aghv, .ref agic, .ref agbe, .int xmk, .ref agmt, .ref agmv, .ref agma, .ref agnd, .ref agre, .ref agse, .ref aglv, .ref agal, .ref agds, .ref agno, .ref agna])), (aghv, .inl (cI, 1920, .inl ghv)), (agnd, .inl (cI, 60, .inl gnd)), (agre, .inl (cJ, 60, .inr (.inl gre))), (agse, .inl (cI, 60, .inl u))] t.heap ∧ va_K (dC, dI) vwCl [(cI, .int), (cJ, .long)] t ∧ va_D A [(h0, .inr (4, [.int xth, .int xnv, .int xna, .ref agbi, .ref agab, .int xtl, .ref aghv, .ref agic, .ref agbe, .int xmk, .ref agmt, .ref agmv, .ref agma, .ref agnd, .ref agre, .ref agse, .ref aglv, .ref agal, .ref agds, .ref agno, .ref agna])), (aghv, .inl (cI, 1920, .inl ghv)), (agnd, .inl (cI, 60, .inl gnd)), (agre, .inl (cJ, 60, .inr (.inl gre))), (agse, .inl (cI, 60, .inl u))]) A) (List.toArray [.ref h0]) s 0 0 A) (F0 m 2 ls [])) (fun (x1 : Int32) (x2 : Int32) (gse : Nat → Int32) => ∀ (H : Heap) (locs : List Loc) (ls : Array Slot), va_P (dC, dI) vwCl [(h0, .inr (4, [.int xth, .int xnv, .int xna, .ref agbi, .ref agab, .int xtl, .ref aghv, .ref agic, .ref agbe, .int xmk, .ref agmt, .ref agmv, .ref agma, .ref agnd, .ref agre, .ref agse, .ref aglv, .ref agal, .ref agds, .ref agno, .ref agna])), (aghv, .inl (cI, 1920, .inl ghv)), (agnd, .inl (cI, 60, .inl gnd)), (agre, .inl (cJ, 60, .inr (.inl gre))), (agse, .inl (cI, 60, .inl gse))] H → va_D A [(h0, .inr (4, [.int xth, .int xnv, .int xna, .ref agbi, .ref agab, .int xtl, .ref aghv, .ref agic, .ref agbe, .int xmk, .ref agmt, .ref agmv, .ref agma, .ref agnd, .ref agre, .ref agse, .ref aglv, .ref agal, .ref agds, .ref agno, .ref agna])), (aghv, .inl (cI, 1920, .inl ghv)), (agnd, .inl (cI, 60, .inl gnd)), (agre, .inl (cJ, 60, .inr (.inl gre))), (agse, .inl (cI, 60, .inl gse))] → va_S A s.heap H locs → lv_has ls 5 [(0, .ref h0), (1, .int x1), (2, .int x2)] → W p l e (headSpec wsX4_findSets ({ frames := 0, cells := 0, slots := 0, locals := 0 })).room s m (List.toArray [.ref h0]) below meth c H locs 0 0 (MQ below (va_Qv (fun (u : (Nat → Int32)) => post u) (fun (u : (Nat → Int32)) (t : State) => va_P (dC, dI) vwCl [(h0, .inr (4, [.int xth, .int xnv, .int xna, .ref agbi, .ref agab, .int xtl, .ref aghv, .ref agic, .ref agbe, .int xmk, .ref agmt, .ref agmv, .ref agma, .ref agnd, .ref agre, .ref agse, .ref aglv, .ref agal, .ref agds, .ref agno, .ref agna])), (aghv, .inl (cI, 1920, .inl ghv)), (agnd, .inl (cI, 60, .inl gnd)), (agre, .inl (cJ, 60, .inr (.inl gre))), (agse, .inl (cI, 60, .inl u))] t.heap ∧ va_K (dC, dI) vwCl [(cI, .int), (cJ, .long)] t ∧ va_D A [(h0, .inr (4, [.int xth, .int xnv, .int xna, .ref agbi, .ref agab, .int xtl, .ref aghv, .ref agic, .ref agbe, .int xmk, .ref agmt, .ref agmv, .ref agma, .ref agnd, .ref agre, .ref agse, .ref aglv, .ref agal, .ref agds, .ref agno, .ref agna])), (aghv, .inl (cI, 1920, .inl ghv)), (agnd, .inl (cI, 60, .inl gnd)), (agre, .inl (cJ, 60, .inr (.inl gre))), (agse, .inl (cI, 60, .inl u))]) A) (List.toArray [.ref h0]) s 0 0 A) (F0 m 19 ls [])) (fun (x1 : Int32) (x2 : Int32) (x3 : Int32) (gse : Nat → Int32) => ∀ (H : Heap) (locs : List Loc) (ls : Array Slot), va_P (dC, dI) vwCl [(h0, .inr (4, [.int xth, .int xnv, .int xna, .ref agbi, .ref agab, .int xtl, .ref aghv, .ref agic, .ref agbe, .int xmk, .ref agmt, .ref agmv, .ref agma, .ref agnd, .ref agre, .ref agse, .ref aglv, .ref agal, .ref agds, .ref agno, .ref agna])), (aghv, .inl (cI, 1920, .inl ghv)), (agnd, .inl (cI, 60, .inl gnd)), (agre, .inl (cJ, 60, .inr (.inl gre))), (agse, .inl (cI, 60, .inl gse))] H → va_D A [(h0, .inr (4, [.int xth, .int xnv, .int xna, .ref agbi, .ref agab, .int xtl, .ref aghv, .ref agic, .ref agbe, .int xmk, .ref agmt, .ref agmv, .ref agma, .ref agnd, .ref agre, .ref agse, .ref aglv, .ref agal, .ref agds, .ref agno, .ref agna])), (aghv, .inl (cI, 1920, .inl ghv)), (agnd, .inl (cI, 60, .inl gnd)), (agre, .inl (cJ, 60, .inr (.inl gre))), (agse, .inl (cI, 60, .inl gse))] → va_S A s.heap H locs → lv_has ls 5 [(0, .ref h0), (1, .int x1), (2, .int x2), (3, .int x3)] → W p l e (headSpec wsX4_findSets ({ frames := 0, cells := 0, slots := 0, locals := 0 })).room s m (List.toArray [.ref h0]) below meth c H locs 0 0 (MQ below (va_Qv (fun (u : (Nat → Int32)) => post u) (fun (u : (Nat → Int32)) (t : State) => va_P (dC, dI) vwCl [(h0, .inr (4, [.int xth, .int xnv, .int xna, .ref agbi, .ref agab, .int xtl, .ref aghv, .ref agic, .ref agbe, .int xmk, .ref agmt, .ref agmv, .ref agma, .ref agnd, .ref agre, .ref agse, .ref aglv, .ref agal, .ref agds, .ref agno, .ref agna])), (aghv, .inl (cI, 1920, .inl ghv)), (agnd, .inl (cI, 60, .inl gnd)), (agre, .inl (cJ, 60, .inr (.inl gre))), (agse, .inl (cI, 60, .inl u))] t.heap ∧ va_K (dC, dI) vwCl [(cI, .int), (cJ, .long)] t ∧ va_D A [(h0, .inr (4, [.int xth, .int xnv, .int xna, .ref agbi, .ref agab, .int xtl, .ref aghv, .ref agic, .ref agbe, .int xmk, .ref agmt, .ref agmv, .ref agma, .ref agnd, .ref agre, .ref agse, .ref aglv, .ref agal, .ref agds, .ref agno, .ref agna])), (aghv, .inl (cI, 1920, .inl ghv)), (agnd, .inl (cI, 60, .inl gnd)), (agre, .inl (cJ, 60, .inr (.inl gre))), (agse, .inl (cI, 60, .inl u))]) A) (List.toArray [.ref h0]) s 0 0 A) (F0 m 29 ls [])) ?_ ?_ ?_ ?_
  · intro x1 gse ht H locs ls hP hD hS hl
    refine lv_iload_n hx hb dX4_findSets_2 rfl (lv_at hl 1 rfl) ?_
    refine lv_aload_n hx hb dX4_findSets_3 rfl (lv_at hl 0 rfl) ?_
    refine va_get (D := (dC, dI)) (ci := 4) (v := .int xnv) (C := RX4) (T := TX4) (N := 21) hx hb hts hw0 hown hK hP 0 rfl rfl 1 (by decide) hw1 (fun _ h9 => h9) rfl dX4_findSets_4 ?_
    refine lv_icmp_ge (tgt := 117) hx hb dX4_findSets_7 (by decide) (fun c1 => ?_) (fun c1 => ?_)
    · replace ht := ht.1 c1
      have hP9 : va_P (dC, dI) vwCl [(h0, .inr (4, [.int xth, .int xnv, .int xna, .ref agbi, .ref agab, .int xtl, .ref aghv, .ref agic, .ref agbe, .int xmk, .ref agmt, .ref agmv, .ref agma, .ref agnd, .ref agre, .ref agse, .ref aglv, .ref agal, .ref agds, .ref agno, .ref agna])), (aghv, .inl (cI, 1920, .inl ghv)), (agnd, .inl (cI, 60, .inl gnd)), (agre, .inl (cJ, 60, .inr (.inl gre))), (agse, .inl (cI, 60, .inl gse))] _ := hP
      have hD9 : va_D A [(h0, .inr (4, [.int xth, .int xnv, .int xna, .ref agbi, .ref agab, .int xtl, .ref aghv, .ref agic, .ref agbe, .int xmk, .ref agmt, .ref agmv, .ref agma, .ref agnd, .ref agre, .ref agse, .ref aglv, .ref agal, .ref agds, .ref agno, .ref agna])), (aghv, .inl (cI, 1920, .inl ghv)), (agnd, .inl (cI, 60, .inl gnd)), (agre, .inl (cJ, 60, .inr (.inl gre))), (agse, .inl (cI, 60, .inl gse))] := hD
      exact W.vret hx hb hr (fun t ht9 hW => ⟨⟨gse, rfl, ht, by rw [ht9]; exact hP9, va_K.moved hW.alike hK, hD9⟩, hS.F ht9⟩) hS.2.2 dX4_findSets_117
    · replace ht := ht.2 c1
      refine lv_aload_n hx hb dX4_findSets_10 rfl (lv_at hl 0 rfl) ?_
      refine va_get (D := (dC, dI)) (ci := 4) (v := .ref agse) (C := RX4) (T := TX4) (N := 21) hx hb hts hw0 hown hK hP 0 rfl rfl 15 (by decide) hw2 (fun _ h9 => h9) rfl dX4_findSets_11 ?_
      refine lv_iload_n hx hb dX4_findSets_14 rfl (lv_at hl 1 rfl) ?_
      refine lv_iconst (v := 0) hx hb dX4_findSets_15 (by decide) ?_
      obtain ⟨i2, ht⟩ := ht
      refine va_iast hx hb hK hP hD hS 4 0 rfl rfl i2 dX4_findSets_16 (fun H locs hP hD hS => ?_)
      replace hP : va_P (dC, dI) vwCl [(h0, .inr (4, [.int xth, .int xnv, .int xna, .ref agbi, .ref agab, .int xtl, .ref aghv, .ref agic, .ref agbe, .int xmk, .ref agmt, .ref agmv, .ref agma, .ref agnd, .ref agre, .ref agse, .ref aglv, .ref agal, .ref agds, .ref agno, .ref agna])), (aghv, .inl (cI, 1920, .inl ghv)), (agnd, .inl (cI, 60, .inl gnd)), (agre, .inl (cJ, 60, .inr (.inl gre))), (agse, .inl (cI, 60, .inl (upd gse x1.toNatClampNeg 0)))] H := hP
      replace hD : va_D A [(h0, .inr (4, [.int xth, .int xnv, .int xna, .ref agbi, .ref agab, .int xtl, .ref aghv, .ref agic, .ref agbe, .int xmk, .ref agmt, .ref agmv, .ref agma, .ref agnd, .ref agre, .ref agse, .ref aglv, .ref agal, .ref agds, .ref agno, .ref agna])), (aghv, .inl (cI, 1920, .inl ghv)), (agnd, .inl (cI, 60, .inl gnd)), (agre, .inl (cJ, 60, .inr (.inl gre))), (agse, .inl (cI, 60, .inl (upd gse x1.toNatClampNeg 0)))] := hD
      refine lv_iconst (v := 0) hx hb dX4_findSets_17 (by decide) ?_
      refine lv_istore_n (lv' := [(2, .int 0), (0, .ref h0), (1, .int x1)]) hx hb dX4_findSets_18 rfl hl (by decide) rfl (fun ls hl => ?_)
      exact ht _ _ _ hP hD hS (lv_sub hl [1, 2, 0] rfl)
  · intro x1 x2 gse ht H locs ls hP hD hS hl
    refine lv_iload_n hx hb dX4_findSets_19 rfl (lv_at hl 2 rfl) ?_
    refine lv_aload_n hx hb dX4_findSets_20 rfl (lv_at hl 0 rfl) ?_
    refine va_get (D := (dC, dI)) (ci := 4) (v := .int xnv) (C := RX4) (T := TX4) (N := 21) hx hb hts hw0 hown hK hP 0 rfl rfl 1 (by decide) hw1 (fun _ h9 => h9) rfl dX4_findSets_21 ?_
    refine lv_icmp_ge (tgt := 111) hx hb dX4_findSets_24 (by decide) (fun c3 => ?_) (fun c3 => ?_)
    · replace ht := ht.1 c3
      obtain ⟨y4, ey4⟩ : ∃ y : Int32, y = x1 + 1 := ⟨_, rfl⟩
      replace ht := ht y4 ey4
      refine lv_iinc (v := y4) (lv' := [(1, .int y4), (0, .ref h0), (2, .int x2)]) hx hb dX4_findSets_111 hl (k := 1) rfl (by rw [ey4]; rfl) (by decide) rfl (fun ls hl => ?_)
      refine lv_goto (tgt := 2) hx hb dX4_findSets_114 (by decide) ?_
      exact ht _ _ _ hP hD hS (lv_sub hl [1, 0] rfl)
    · replace ht := ht.2 c3
      refine lv_iconst (v := 0) hx hb dX4_findSets_27 (by decide) ?_
      refine lv_istore_n (lv' := [(3, .int 0), (0, .ref h0), (1, .int x1), (2, .int x2)]) hx hb dX4_findSets_28 rfl hl (by decide) rfl (fun ls hl => ?_)
      exact ht _ _ _ hP hD hS (lv_sub hl [1, 2, 3, 0] rfl)
  · intro x1 x2 x3 gse ht H locs ls hP hD hS hl
    refine lv_iload_n hx hb dX4_findSets_29 rfl (lv_at hl 3 rfl) ?_
    refine lv_aload_n hx hb dX4_findSets_30 rfl (lv_at hl 0 rfl) ?_
    refine va_get (D := (dC, dI)) (ci := 4) (v := .int xna) (C := RX4) (T := TX4) (N := 21) hx hb hts hw0 hown hK hP 0 rfl rfl 2 (by decide) hw3 (fun _ h9 => h9) rfl dX4_findSets_31 ?_
    refine lv_icmp_ge (tgt := 105) hx hb dX4_findSets_34 (by decide) (fun c5 => ?_) (fun c5 => ?_)
    · replace ht := ht.1 c5
      obtain ⟨y6, ey6⟩ : ∃ y : Int32, y = x2 + 1 := ⟨_, rfl⟩
      replace ht := ht y6 ey6
      refine lv_iinc (v := y6) (lv' := [(2, .int y6), (0, .ref h0), (1, .int x1), (3, .int x3)]) hx hb dX4_findSets_105 hl (k := 2) rfl (by rw [ey6]; rfl) (by decide) rfl (fun ls hl => ?_)
      refine lv_goto (tgt := 19) hx hb dX4_findSets_108 (by decide) ?_
      exact ht _ _ _ hP hD hS (lv_sub hl [1, 2, 0] rfl)
    · replace ht := ht.2 c5
      refine lv_aload_n hx hb dX4_findSets_37 rfl (lv_at hl 0 rfl) ?_
      refine va_get (D := (dC, dI)) (ci := 4) (v := .ref agre) (C := RX4) (T := TX4) (N := 21) hx hb hts hw0 hown hK hP 0 rfl rfl 14 (by decide) hw4 (fun _ h9 => h9) rfl dX4_findSets_38 ?_
      refine lv_iload_n hx hb dX4_findSets_41 rfl (lv_at hl 1 rfl) ?_
      obtain ⟨i7, ht⟩ := ht
      refine va_lald hx hb hK hP 3 1 rfl rfl i7 dX4_findSets_42 ?_
      refine lv_aload_n hx hb dX4_findSets_43 rfl (lv_at hl 0 rfl) ?_
      refine va_get (D := (dC, dI)) (ci := 4) (v := .ref agnd) (C := RX4) (T := TX4) (N := 21) hx hb hts hw0 hown hK hP 0 rfl rfl 13 (by decide) hw5 (fun _ h9 => h9) rfl dX4_findSets_44 ?_
      refine lv_iload_n hx hb dX4_findSets_47 rfl (lv_at hl 2 rfl) ?_
      obtain ⟨i8, ht⟩ := ht
      refine va_iald hx hb hK hP 2 0 rfl rfl i8 dX4_findSets_48 ?_
      refine lv_lshr (v := ((gre x1.toNatClampNeg) >>> ((gnd x2.toNatClampNeg).toInt64 &&& 63))) hx hb dX4_findSets_49 rfl ?_
      refine lv_lconst (v := 1) hx hb dX4_findSets_50 rfl ?_
      refine lv_land hx hb dX4_findSets_51 ?_
      refine lv_lconst (v := 1) hx hb dX4_findSets_52 rfl ?_
      refine W.lcmp hx hb dX4_findSets_53 ?_
      refine lv_if_ne (tgt := 75) hx hb dX4_findSets_54 (by decide) (fun c9 => ?_) (fun c9 => ?_)
      · replace ht := ht.1 c9
        refine lv_iconst (v := 0) hx hb dX4_findSets_75 (by decide) ?_
        refine lv_istore (lv' := [(4, .int 0), (0, .ref h0), (1, .int x1), (2, .int x2), (3, .int x3)]) hx hb dX4_findSets_76 hl (by decide) rfl (fun ls hl => ?_)
        refine lv_aload_n hx hb dX4_findSets_78 rfl (lv_at hl 1 rfl) ?_
        refine va_get (D := (dC, dI)) (ci := 4) (v := .ref agse) (C := RX4) (T := TX4) (N := 21) hx hb hts hw0 hown hK hP 0 rfl rfl 15 (by decide) hw2 (fun _ h9 => h9) rfl dX4_findSets_79 ?_
        refine lv_iload_n hx hb dX4_findSets_82 rfl (lv_at hl 2 rfl) ?_
        refine lv_dup2_11 hx hb dX4_findSets_83 rfl rfl ?_
        refine va_iald hx hb hK hP 4 0 rfl rfl i7 dX4_findSets_84 ?_
        refine lv_iload hx hb dX4_findSets_85 (lv_at hl 0 rfl) ?_
        refine lv_if_eq (tgt := 96) hx hb dX4_findSets_87 (by decide) (fun c10 => ?_) (fun c10 => ?_)
        · refine lv_iconst (v := 0) hx hb dX4_findSets_96 (by decide) ?_
          refine lv_ior hx hb dX4_findSets_97 ?_
          refine va_iast hx hb hK hP hD hS 4 0 rfl rfl i7 dX4_findSets_98 (fun H locs hP hD hS => ?_)
          replace hP : va_P (dC, dI) vwCl [(h0, .inr (4, [.int xth, .int xnv, .int xna, .ref agbi, .ref agab, .int xtl, .ref aghv, .ref agic, .ref agbe, .int xmk, .ref agmt, .ref agmv, .ref agma, .ref agnd, .ref agre, .ref agse, .ref aglv, .ref agal, .ref agds, .ref agno, .ref agna])), (aghv, .inl (cI, 1920, .inl ghv)), (agnd, .inl (cI, 60, .inl gnd)), (agre, .inl (cJ, 60, .inr (.inl gre))), (agse, .inl (cI, 60, .inl (upd gse x1.toNatClampNeg ((gse x1.toNatClampNeg) ||| 0))))] H := hP
          replace hD : va_D A [(h0, .inr (4, [.int xth, .int xnv, .int xna, .ref agbi, .ref agab, .int xtl, .ref aghv, .ref agic, .ref agbe, .int xmk, .ref agmt, .ref agmv, .ref agma, .ref agnd, .ref agre, .ref agse, .ref aglv, .ref agal, .ref agds, .ref agno, .ref agna])), (aghv, .inl (cI, 1920, .inl ghv)), (agnd, .inl (cI, 60, .inl gnd)), (agre, .inl (cJ, 60, .inr (.inl gre))), (agse, .inl (cI, 60, .inl (upd gse x1.toNatClampNeg ((gse x1.toNatClampNeg) ||| 0))))] := hD
          obtain ⟨y11, ey11⟩ : ∃ y : Int32, y = x3 + 1 := ⟨_, rfl⟩
          replace ht := ht y11 ey11
          refine lv_iinc (v := y11) (lv' := [(3, .int y11), (4, .int 0), (0, .ref h0), (1, .int x1), (2, .int x2)]) hx hb dX4_findSets_99 hl (k := 4) rfl (by rw [ey11]; rfl) (by decide) rfl (fun ls hl => ?_)
          refine lv_goto (tgt := 29) hx hb dX4_findSets_102 (by decide) ?_
          exact ht _ _ _ hP hD hS (lv_sub hl [2, 3, 4, 0] rfl)
        · exact absurd c10 (by decide)
      · replace ht := ht.2 c9
        refine lv_aload_n hx hb dX4_findSets_57 rfl (lv_at hl 0 rfl) ?_
        refine va_get (D := (dC, dI)) (ci := 4) (v := .ref aghv) (C := RX4) (T := TX4) (N := 21) hx hb hts hw0 hown hK hP 0 rfl rfl 6 (by decide) hw6 (fun _ h9 => h9) rfl dX4_findSets_58 ?_
        refine lv_bipush (v := 32) hx hb dX4_findSets_61 (by decide) ?_
        refine lv_iload_n hx hb dX4_findSets_63 rfl (lv_at hl 2 rfl) ?_
        refine lv_imul hx hb dX4_findSets_64 ?_
        refine lv_iload_n hx hb dX4_findSets_65 rfl (lv_at hl 3 rfl) ?_
        refine lv_iadd hx hb dX4_findSets_66 ?_
        obtain ⟨i12, ht⟩ := ht
        refine va_iald hx hb hK hP 1 0 rfl rfl i12 dX4_findSets_67 ?_
        refine lv_if_le (tgt := 75) hx hb dX4_findSets_68 (by decide) (fun c13 => ?_) (fun c13 => ?_)
        · replace ht := ht.1 c13
          refine lv_iconst (v := 0) hx hb dX4_findSets_75 (by decide) ?_
          refine lv_istore (lv' := [(4, .int 0), (0, .ref h0), (1, .int x1), (2, .int x2), (3, .int x3)]) hx hb dX4_findSets_76 hl (by decide) rfl (fun ls hl => ?_)
          refine lv_aload_n hx hb dX4_findSets_78 rfl (lv_at hl 1 rfl) ?_
          refine va_get (D := (dC, dI)) (ci := 4) (v := .ref agse) (C := RX4) (T := TX4) (N := 21) hx hb hts hw0 hown hK hP 0 rfl rfl 15 (by decide) hw2 (fun _ h9 => h9) rfl dX4_findSets_79 ?_
          refine lv_iload_n hx hb dX4_findSets_82 rfl (lv_at hl 2 rfl) ?_
          refine lv_dup2_11 hx hb dX4_findSets_83 rfl rfl ?_
          refine va_iald hx hb hK hP 4 0 rfl rfl i7 dX4_findSets_84 ?_
          refine lv_iload hx hb dX4_findSets_85 (lv_at hl 0 rfl) ?_
          refine lv_if_eq (tgt := 96) hx hb dX4_findSets_87 (by decide) (fun c14 => ?_) (fun c14 => ?_)
          · refine lv_iconst (v := 0) hx hb dX4_findSets_96 (by decide) ?_
            refine lv_ior hx hb dX4_findSets_97 ?_
            refine va_iast hx hb hK hP hD hS 4 0 rfl rfl i7 dX4_findSets_98 (fun H locs hP hD hS => ?_)
            replace hP : va_P (dC, dI) vwCl [(h0, .inr (4, [.int xth, .int xnv, .int xna, .ref agbi, .ref agab, .int xtl, .ref aghv, .ref agic, .ref agbe, .int xmk, .ref agmt, .ref agmv, .ref agma, .ref agnd, .ref agre, .ref agse, .ref aglv, .ref agal, .ref agds, .ref agno, .ref agna])), (aghv, .inl (cI, 1920, .inl ghv)), (agnd, .inl (cI, 60, .inl gnd)), (agre, .inl (cJ, 60, .inr (.inl gre))), (agse, .inl (cI, 60, .inl (upd gse x1.toNatClampNeg ((gse x1.toNatClampNeg) ||| 0))))] H := hP
            replace hD : va_D A [(h0, .inr (4, [.int xth, .int xnv, .int xna, .ref agbi, .ref agab, .int xtl, .ref aghv, .ref agic, .ref agbe, .int xmk, .ref agmt, .ref agmv, .ref agma, .ref agnd, .ref agre, .ref agse, .ref aglv, .ref agal, .ref agds, .ref agno, .ref agna])), (aghv, .inl (cI, 1920, .inl ghv)), (agnd, .inl (cI, 60, .inl gnd)), (agre, .inl (cJ, 60, .inr (.inl gre))), (agse, .inl (cI, 60, .inl (upd gse x1.toNatClampNeg ((gse x1.toNatClampNeg) ||| 0))))] := hD
            obtain ⟨y15, ey15⟩ : ∃ y : Int32, y = x3 + 1 := ⟨_, rfl⟩
            replace ht := ht y15 ey15
            refine lv_iinc (v := y15) (lv' := [(3, .int y15), (4, .int 0), (0, .ref h0), (1, .int x1), (2, .int x2)]) hx hb dX4_findSets_99 hl (k := 4) rfl (by rw [ey15]; rfl) (by decide) rfl (fun ls hl => ?_)
            refine lv_goto (tgt := 29) hx hb dX4_findSets_102 (by decide) ?_
            exact ht _ _ _ hP hD hS (lv_sub hl [2, 3, 4, 0] rfl)
          · exact absurd c14 (by decide)
        · replace ht := ht.2 c13
          refine lv_iconst (v := 1) hx hb dX4_findSets_71 (by decide) ?_
          refine lv_goto (tgt := 76) hx hb dX4_findSets_72 (by decide) ?_
          refine lv_istore (lv' := [(4, .int 1), (0, .ref h0), (1, .int x1), (2, .int x2), (3, .int x3)]) hx hb dX4_findSets_76 hl (by decide) rfl (fun ls hl => ?_)
          refine lv_aload_n hx hb dX4_findSets_78 rfl (lv_at hl 1 rfl) ?_
          refine va_get (D := (dC, dI)) (ci := 4) (v := .ref agse) (C := RX4) (T := TX4) (N := 21) hx hb hts hw0 hown hK hP 0 rfl rfl 15 (by decide) hw2 (fun _ h9 => h9) rfl dX4_findSets_79 ?_
          refine lv_iload_n hx hb dX4_findSets_82 rfl (lv_at hl 2 rfl) ?_
          refine lv_dup2_11 hx hb dX4_findSets_83 rfl rfl ?_
          refine va_iald hx hb hK hP 4 0 rfl rfl i7 dX4_findSets_84 ?_
          refine lv_iload hx hb dX4_findSets_85 (lv_at hl 0 rfl) ?_
          refine lv_if_eq (tgt := 96) hx hb dX4_findSets_87 (by decide) (fun c16 => ?_) (fun c16 => ?_)
          · exact absurd c16 (by decide)
          · refine lv_iconst (v := 1) hx hb dX4_findSets_90 (by decide) ?_
            refine lv_iload_n hx hb dX4_findSets_91 rfl (lv_at hl 4 rfl) ?_
            refine lv_ishl hx hb dX4_findSets_92 ?_
            refine lv_goto (tgt := 97) hx hb dX4_findSets_93 (by decide) ?_
            refine lv_ior hx hb dX4_findSets_97 ?_
            refine va_iast hx hb hK hP hD hS 4 0 rfl rfl i7 dX4_findSets_98 (fun H locs hP hD hS => ?_)
            replace hP : va_P (dC, dI) vwCl [(h0, .inr (4, [.int xth, .int xnv, .int xna, .ref agbi, .ref agab, .int xtl, .ref aghv, .ref agic, .ref agbe, .int xmk, .ref agmt, .ref agmv, .ref agma, .ref agnd, .ref agre, .ref agse, .ref aglv, .ref agal, .ref agds, .ref agno, .ref agna])), (aghv, .inl (cI, 1920, .inl ghv)), (agnd, .inl (cI, 60, .inl gnd)), (agre, .inl (cJ, 60, .inr (.inl gre))), (agse, .inl (cI, 60, .inl (upd gse x1.toNatClampNeg ((gse x1.toNatClampNeg) ||| ((1 : Int32) <<< (x3 &&& 31))))))] H := hP
            replace hD : va_D A [(h0, .inr (4, [.int xth, .int xnv, .int xna, .ref agbi, .ref agab, .int xtl, .ref aghv, .ref agic, .ref agbe, .int xmk, .ref agmt, .ref agmv, .ref agma, .ref agnd, .ref agre, .ref agse, .ref aglv, .ref agal, .ref agds, .ref agno, .ref agna])), (aghv, .inl (cI, 1920, .inl ghv)), (agnd, .inl (cI, 60, .inl gnd)), (agre, .inl (cJ, 60, .inr (.inl gre))), (agse, .inl (cI, 60, .inl (upd gse x1.toNatClampNeg ((gse x1.toNatClampNeg) ||| ((1 : Int32) <<< (x3 &&& 31))))))] := hD
            obtain ⟨y17, ey17⟩ : ∃ y : Int32, y = x3 + 1 := ⟨_, rfl⟩
            replace ht := ht y17 ey17
            refine lv_iinc (v := y17) (lv' := [(3, .int y17), (4, .int 1), (0, .ref h0), (1, .int x1), (2, .int x2)]) hx hb dX4_findSets_99 hl (k := 4) rfl (by rw [ey17]; rfl) (by decide) rfl (fun ls hl => ?_)
            refine lv_goto (tgt := 29) hx hb dX4_findSets_102 (by decide) ?_
            exact ht _ _ _ hP hD hS (lv_sub hl [2, 3, 4, 0] rfl)
  · intro ht
    refine lv_iconst (v := 0) hx hb dX4_findSets_0 (by decide) ?_
    refine lv_istore_n (lv' := [(1, .int 0), (0, .ref h0)]) hx hb dX4_findSets_1 rfl hl (by decide) rfl (fun ls hl => ?_)
    exact ht _ _ _ hP hD hS (lv_sub hl [1, 0] rfl)
set_option maxHeartbeats 4000000 in
set_option maxRecDepth 100000 in
theorem c_X4_findLevels (l : Launch) (dC : Nat → ClassId) (dI : Nat → Nat → Nat) (cI cJ : ClassId) (h0 : Nat) (agbi : Nat) (agab : Nat) (aghv : Nat) (agic : Nat) (agbe : Nat) (agmt : Nat) (agmv : Nat) (agma : Nat) (agnd : Nat) (agre : Nat) (agse : Nat) (aglv : Nat) (agal : Nat) (agds : Nat) (agno : Nat) (agna : Nat) (xth : Int32) (xnv : Int32) (xna : Int32) (xtl : Int32) (xmk : Int32) (gbi : Nat → Int32) (gab : Nat → Int32) (ghv : Nat → Int32) (gnd : Nat → Int32) (gre : Nat → Int64) (glv : Nat → Int32) (gal : Nat → Int32) (sz : Nat) (post : (Nat → Int32) → (Nat → Int32) → Prop) (hsp : S_X4_findLevels xnv xna gbi gab ghv gnd gre glv gal post) : Met l yX4_findLevels wsX4_findLevels ({ frames := 0, cells := 0, slots := 0, locals := 0 }) (va_Pc [.ref h0] (fun U => U.heap.size = sz ∧ va_P (dC, dI) vwCl [(h0, .inr (4, [.int xth, .int xnv, .int xna, .ref agbi, .ref agab, .int xtl, .ref aghv, .ref agic, .ref agbe, .int xmk, .ref agmt, .ref agmv, .ref agma, .ref agnd, .ref agre, .ref agse, .ref aglv, .ref agal, .ref agds, .ref agno, .ref agna])), (agbi, .inl (cI, 60, .inl gbi)), (agab, .inl (cI, 32, .inl gab)), (aghv, .inl (cI, 1920, .inl ghv)), (agnd, .inl (cI, 60, .inl gnd)), (agre, .inl (cJ, 60, .inr (.inl gre))), (aglv, .inl (cI, 60, .inl glv)), (agal, .inl (cI, 32, .inl gal))] U.heap ∧ va_K (dC, dI) vwCl [(cI, .int), (cJ, .long)] U ∧ va_D (fun _ => True) [(h0, .inr (4, [.int xth, .int xnv, .int xna, .ref agbi, .ref agab, .int xtl, .ref aghv, .ref agic, .ref agbe, .int xmk, .ref agmt, .ref agmv, .ref agma, .ref agnd, .ref agre, .ref agse, .ref aglv, .ref agal, .ref agds, .ref agno, .ref agna])), (agbi, .inl (cI, 60, .inl gbi)), (agab, .inl (cI, 32, .inl gab)), (aghv, .inl (cI, 1920, .inl ghv)), (agnd, .inl (cI, 60, .inl gnd)), (agre, .inl (cJ, 60, .inr (.inl gre))), (aglv, .inl (cI, 60, .inl glv)), (agal, .inl (cI, 32, .inl gal))] ∧ nw U)) (va_Qv (fun (u : (Nat → Int32) × (Nat → Int32)) => post (u.1) (u.2)) (fun (u : (Nat → Int32) × (Nat → Int32)) (t : State) => va_P (dC, dI) vwCl [(h0, .inr (4, [.int xth, .int xnv, .int xna, .ref agbi, .ref agab, .int xtl, .ref aghv, .ref agic, .ref agbe, .int xmk, .ref agmt, .ref agmv, .ref agma, .ref agnd, .ref agre, .ref agse, .ref aglv, .ref agal, .ref agds, .ref agno, .ref agna])), (agbi, .inl (cI, 60, .inl gbi)), (agab, .inl (cI, 32, .inl gab)), (aghv, .inl (cI, 1920, .inl ghv)), (agnd, .inl (cI, 60, .inl gnd)), (agre, .inl (cJ, 60, .inr (.inl gre))), (aglv, .inl (cI, 60, .inl (u.1))), (agal, .inl (cI, 32, .inl (u.2)))] t.heap ∧ va_K (dC, dI) vwCl [(cI, .int), (cJ, .long)] t ∧ va_D (va_A [(h0, .inr (4, [.int xth, .int xnv, .int xna, .ref agbi, .ref agab, .int xtl, .ref aghv, .ref agic, .ref agbe, .int xmk, .ref agmt, .ref agmv, .ref agma, .ref agnd, .ref agre, .ref agse, .ref aglv, .ref agal, .ref agds, .ref agno, .ref agna])), (agbi, .inl (cI, 60, .inl gbi)), (agab, .inl (cI, 32, .inl gab)), (aghv, .inl (cI, 1920, .inl ghv)), (agnd, .inl (cI, 60, .inl gnd)), (agre, .inl (cJ, 60, .inr (.inl gre))), (aglv, .inl (cI, 60, .inl glv)), (agal, .inl (cI, 32, .inl gal))] sz) [(h0, .inr (4, [.int xth, .int xnv, .int xna, .ref agbi, .ref agab, .int xtl, .ref aghv, .ref agic, .ref agbe, .int xmk, .ref agmt, .ref agmv, .ref agma, .ref agnd, .ref agre, .ref agse, .ref aglv, .ref agal, .ref agds, .ref agno, .ref agna])), (agbi, .inl (cI, 60, .inl gbi)), (agab, .inl (cI, 32, .inl gab)), (aghv, .inl (cI, 1920, .inl ghv)), (agnd, .inl (cI, 60, .inl gnd)), (agre, .inl (cJ, 60, .inr (.inl gre))), (aglv, .inl (cI, 60, .inl (u.1))), (agal, .inl (cI, 32, .inl (u.2)))]) (va_A [(h0, .inr (4, [.int xth, .int xnv, .int xna, .ref agbi, .ref agab, .int xtl, .ref aghv, .ref agic, .ref agbe, .int xmk, .ref agmt, .ref agmv, .ref agma, .ref agnd, .ref agre, .ref agse, .ref aglv, .ref agal, .ref agds, .ref agno, .ref agna])), (agbi, .inl (cI, 60, .inl gbi)), (agab, .inl (cI, 32, .inl gab)), (aghv, .inl (cI, 1920, .inl ghv)), (agnd, .inl (cI, 60, .inl gnd)), (agre, .inl (cJ, 60, .inr (.inl gre))), (aglv, .inl (cI, 60, .inl glv)), (agal, .inl (cI, 32, .inl gal))] sz)) 0 0 (va_A [(h0, .inr (4, [.int xth, .int xnv, .int xna, .ref agbi, .ref agab, .int xtl, .ref aghv, .ref agic, .ref agbe, .int xmk, .ref agmt, .ref agmv, .ref agma, .ref agnd, .ref agre, .ref agse, .ref aglv, .ref agal, .ref agds, .ref agno, .ref agna])), (agbi, .inl (cI, 60, .inl gbi)), (agab, .inl (cI, 32, .inl gab)), (aghv, .inl (cI, 1920, .inl ghv)), (agnd, .inl (cI, 60, .inl gnd)), (agre, .inl (cJ, 60, .inr (.inl gre))), (aglv, .inl (cI, 60, .inl glv)), (agal, .inl (cI, 32, .inl gal))] sz) := by
  refine Met.ofW (cc := cX4_findLevels) (maxL := 4) (ret := none) (by decide) rfl ?_
  intro p e s m args below meth c s₁ B hml hv
  obtain ⟨rfl, hsz, hP, hK, hD0, hN⟩ := hv
  have hx := B.exec
  have hb := B.bytes
  have hr := B.returns
  have hts := atoms_spec (ws := wsX4_findLevels) B.pre
  have hown : s.vm.findClass RX4 = some m.cls := findClass_of_methodNamed B.named
  have hlocks := B.notSynchronized
  subst hsz
  have hD := hD0.self (sz := s.heap.size)
  generalize hAe : va_A [(h0, .inr (4, [.int xth, .int xnv, .int xna, .ref agbi, .ref agab, .int xtl, .ref aghv, .ref agic, .ref agbe, .int xmk, .ref agmt, .ref agmv, .ref agma, .ref agnd, .ref agre, .ref agse, .ref aglv, .ref agal, .ref agds, .ref agno, .ref agna])), (agbi, .inl (cI, 60, .inl gbi)), (agab, .inl (cI, 32, .inl gab)), (aghv, .inl (cI, 1920, .inl ghv)), (agnd, .inl (cI, 60, .inl gnd)), (agre, .inl (cJ, 60, .inr (.inl gre))), (aglv, .inl (cI, 60, .inl glv)), (agal, .inl (cI, 32, .inl gal))] s.heap.size = A at hD ⊢
  have hA : ∀ q : Nat, s.heap.size ≤ q → A q := fun q h => by rw [← hAe]; exact Or.inr h
  have hS : va_S A s.heap s.heap [] := va_S.rf
  have hl := lv_entry ([.ref h0]) (n := 4) (Nat.le_of_ble_eq_true rfl)
  rw [lg_entry_eq]
  generalize (lg_sl ([.ref h0]) ++ List.replicate (4 - (lg_sl ([.ref h0])).length) Slot.unset).toArray = ls at hl ⊢
  replace hl : lv_has ls 4 [(0, .ref h0)] := hl
  have hw0 := (show ∀ w ∈ wsX40, w ∈ wsX4_findLevels from by decide +kernel)
  have hw1 := hts (.fieldLink RX4 63 "EffectNetsModel" "variables" "I") (by decide +kernel)
  have hw2 := hts (.fieldLink RX4 44 "EffectNetsModel" "level" "[I") (by decide +kernel)
  have hw3 := hts (.fieldLink RX4 37 "EffectNetsModel" "reached" "[J") (by decide +kernel)
  have hw4 := hts (.fieldLink RX4 34 "EffectNetsModel" "node" "[I") (by decide +kernel)
  have hw5 := hts (.fieldLink RX4 7 "EffectNetsModel" "birth" "[I") (by decide +kernel)
  have hw6 := hts (.fieldLink RX4 66 "EffectNetsModel" "atoms" "I") (by decide +kernel)
  have hw7 := hts (.fieldLink RX4 47 "EffectNetsModel" "atomLevel" "[I") (by decide +kernel)
  have hw8 := hts (.fieldLink RX4 13 "EffectNetsModel" "atomBirth" "[I") (by decide +kernel)
  have hw9 := hts (.fieldLink RX4 16 "EffectNetsModel" "having" "[I") (by decide +kernel)
  refine hsp _ (fun (x1 : Int32) (glv : Nat → Int32) (gal : Nat → Int32) => ∀ (H : Heap) (locs : List Loc) (ls : Array Slot), va_P (dC, dI) vwCl [(h0, .inr (4, [.int xth, .int xnv, .int xna, .ref agbi, .ref agab, .int xtl, .ref aghv, .ref agic, .ref agbe, .int xmk, .ref agmt, .ref agmv, .ref agma, .ref agnd, .ref agre, .ref agse, .ref aglv, .ref agal, .ref agds, .ref agno, .ref agna])), (agbi, .inl (cI, 60, .inl gbi)), (agab, .inl (cI, 32, .inl gab)), (aghv, .inl (cI, 1920, .inl ghv)), (agnd, .inl (cI, 60, .inl gnd)), (agre, .inl (cJ, 60, .inr (.inl gre))), (aglv, .inl (cI, 60, .inl glv)), (agal, .inl (cI, 32, .inl gal))] H → va_D A [(h0, .inr (4, [.int xth, .int xnv, .int xna, .ref agbi, .ref agab, .int xtl, .ref aghv, .ref agic, .ref agbe, .int xmk, .ref agmt, .ref agmv, .ref agma, .ref agnd, .ref agre, .ref agse, .ref aglv, .ref agal, .ref agds, .ref agno, .ref agna])), (agbi, .inl (cI, 60, .inl gbi)), (agab, .inl (cI, 32, .inl gab)), (aghv, .inl (cI, 1920, .inl ghv)), (agnd, .inl (cI, 60, .inl gnd)), (agre, .inl (cJ, 60, .inr (.inl gre))), (aglv, .inl (cI, 60, .inl glv)), (agal, .inl (cI, 32, .inl gal))] → va_S A s.heap H locs → lv_has ls 4 [(0, .ref h0), (1, .int x1)] → W p l e (headSpec wsX4_findLevels ({ frames := 0, cells := 0, slots := 0, locals := 0 })).room s m (List.toArray [.ref h0]) below meth c H locs 0 0 (MQ below (va_Qv (fun (u : (Nat → Int32) × (Nat → Int32)) => post (u.1) (u.2)) (fun (u : (Nat → Int32) × (Nat → Int32)) (t : State) => va_P (dC, dI) vwCl [(h0, .inr (4, [.int xth, .int xnv, .int xna, .ref agbi, .ref agab, .int xtl, .ref aghv, .ref agic, .ref agbe, .int xmk, .ref agmt, .ref agmv, .ref agma, .ref agnd, .ref agre, .ref agse, .ref aglv, .ref agal, .ref agds, .ref agno, .ref agna])), (agbi, .inl (cI, 60, .inl gbi)), (agab, .inl (cI, 32, .inl gab)), (aghv, .inl (cI, 1920, .inl ghv)), (agnd, .inl (cI, 60, .inl gnd)), (agre, .inl (cJ, 60, .inr (.inl gre))), (aglv, .inl (cI, 60, .inl (u.1))), (agal, .inl (cI, 32, .inl (u.2)))] t.heap ∧ va_K (dC, dI) vwCl [(cI, .int), (cJ, .long)] t ∧ va_D A [(h0, .inr (4, [.int xth, .int xnv, .int xna, .ref agbi, .ref agab, .int xtl, .ref aghv, .ref agic, .ref agbe, .int xmk, .ref agmt, .ref agmv, .ref agma, .ref agnd, .ref agre, .ref agse, .ref aglv, .ref agal, .ref agds, .ref agno, .ref agna])), (agbi, .inl (cI, 60, .inl gbi)), (agab, .inl (cI, 32, .inl gab)), (aghv, .inl (cI, 1920, .inl ghv)), (agnd, .inl (cI, 60, .inl gnd)), (agre, .inl (cJ, 60, .inr (.inl gre))), (aglv, .inl (cI, 60, .inl (u.1))), (agal, .inl (cI, 32, .inl (u.2)))]) A) (List.toArray [.ref h0]) s 0 0 A) (F0 m 2 ls [])) (fun (x1 : Int32) (x2 : Int32) (glv : Nat → Int32) (gal : Nat → Int32) => ∀ (H : Heap) (locs : List Loc) (ls : Array Slot), va_P (dC, dI) vwCl [(h0, .inr (4, [.int xth, .int xnv, .int xna, .ref agbi, .ref agab, .int xtl, .ref aghv, .ref agic, .ref agbe, .int xmk, .ref agmt, .ref agmv, .ref agma, .ref agnd, .ref agre, .ref agse, .ref aglv, .ref agal, .ref agds, .ref agno, .ref agna])), (agbi, .inl (cI, 60, .inl gbi)), (agab, .inl (cI, 32, .inl gab)), (aghv, .inl (cI, 1920, .inl ghv)), (agnd, .inl (cI, 60, .inl gnd)), (agre, .inl (cJ, 60, .inr (.inl gre))), (aglv, .inl (cI, 60, .inl glv)), (agal, .inl (cI, 32, .inl gal))] H → va_D A [(h0, .inr (4, [.int xth, .int xnv, .int xna, .ref agbi, .ref agab, .int xtl, .ref aghv, .ref agic, .ref agbe, .int xmk, .ref agmt, .ref agmv, .ref agma, .ref agnd, .ref agre, .ref agse, .ref aglv, .ref agal, .ref agds, .ref agno, .ref agna])), (agbi, .inl (cI, 60, .inl gbi)), (agab, .inl (cI, 32, .inl gab)), (aghv, .inl (cI, 1920, .inl ghv)), (agnd, .inl (cI, 60, .inl gnd)), (agre, .inl (cJ, 60, .inr (.inl gre))), (aglv, .inl (cI, 60, .inl glv)), (agal, .inl (cI, 32, .inl gal))] → va_S A s.heap H locs → lv_has ls 4 [(0, .ref h0), (1, .int x1), (2, .int x2)] → W p l e (headSpec wsX4_findLevels ({ frames := 0, cells := 0, slots := 0, locals := 0 })).room s m (List.toArray [.ref h0]) below meth c H locs 0 0 (MQ below (va_Qv (fun (u : (Nat → Int32) × (Nat → Int32)) => post (u.1) (u.2)) (fun (u : (Nat → Int32) × (Nat → Int32)) (t : State) => va_P (dC, dI) vwCl [(h0, .inr (4, [.int xth, .int xnv, .int xna, .ref agbi, .ref agab, .int xtl, .ref aghv, .ref agic, .ref agbe, .int xmk, .ref agmt, .ref agmv, .ref agma, .ref agnd, .ref agre, .ref agse, .ref aglv, .ref agal, .ref agds, .ref agno, .ref agna])), (agbi, .inl (cI, 60, .inl gbi)), (agab, .inl (cI, 32, .inl gab)), (aghv, .inl (cI, 1920, .inl ghv)), (agnd, .inl (cI, 60, .inl gnd)), (agre, .inl (cJ, 60, .inr (.inl gre))), (aglv, .inl (cI, 60, .inl (u.1))), (agal, .inl (cI, 32, .inl (u.2)))] t.heap ∧ va_K (dC, dI) vwCl [(cI, .int), (cJ, .long)] t ∧ va_D A [(h0, .inr (4, [.int xth, .int xnv, .int xna, .ref agbi, .ref agab, .int xtl, .ref aghv, .ref agic, .ref agbe, .int xmk, .ref agmt, .ref agmv, .ref agma, .ref agnd, .ref agre, .ref agse, .ref aglv, .ref agal, .ref agds, .ref agno, .ref agna])), (agbi, .inl (cI, 60, .inl gbi)), (agab, .inl (cI, 32, .inl gab)), (aghv, .inl (cI, 1920, .inl ghv)), (agnd, .inl (cI, 60, .inl gnd)), (agre, .inl (cJ, 60, .inr (.inl gre))), (aglv, .inl (cI, 60, .inl (u.1))), (agal, .inl (cI, 32, .inl (u.2)))]) A) (List.toArray [.ref h0]) s 0 0 A) (F0 m 20 ls [])) (fun (x1 : Int32) (glv : Nat → Int32) (gal : Nat → Int32) => ∀ (H : Heap) (locs : List Loc) (ls : Array Slot), va_P (dC, dI) vwCl [(h0, .inr (4, [.int xth, .int xnv, .int xna, .ref agbi, .ref agab, .int xtl, .ref aghv, .ref agic, .ref agbe, .int xmk, .ref agmt, .ref agmv, .ref agma, .ref agnd, .ref agre, .ref agse, .ref aglv, .ref agal, .ref agds, .ref agno, .ref agna])), (agbi, .inl (cI, 60, .inl gbi)), (agab, .inl (cI, 32, .inl gab)), (aghv, .inl (cI, 1920, .inl ghv)), (agnd, .inl (cI, 60, .inl gnd)), (agre, .inl (cJ, 60, .inr (.inl gre))), (aglv, .inl (cI, 60, .inl glv)), (agal, .inl (cI, 32, .inl gal))] H → va_D A [(h0, .inr (4, [.int xth, .int xnv, .int xna, .ref agbi, .ref agab, .int xtl, .ref aghv, .ref agic, .ref agbe, .int xmk, .ref agmt, .ref agmv, .ref agma, .ref agnd, .ref agre, .ref agse, .ref aglv, .ref agal, .ref agds, .ref agno, .ref agna])), (agbi, .inl (cI, 60, .inl gbi)), (agab, .inl (cI, 32, .inl gab)), (aghv, .inl (cI, 1920, .inl ghv)), (agnd, .inl (cI, 60, .inl gnd)), (agre, .inl (cJ, 60, .inr (.inl gre))), (aglv, .inl (cI, 60, .inl glv)), (agal, .inl (cI, 32, .inl gal))] → va_S A s.heap H locs → lv_has ls 4 [(0, .ref h0), (1, .int x1)] → W p l e (headSpec wsX4_findLevels ({ frames := 0, cells := 0, slots := 0, locals := 0 })).room s m (List.toArray [.ref h0]) below meth c H locs 0 0 (MQ below (va_Qv (fun (u : (Nat → Int32) × (Nat → Int32)) => post (u.1) (u.2)) (fun (u : (Nat → Int32) × (Nat → Int32)) (t : State) => va_P (dC, dI) vwCl [(h0, .inr (4, [.int xth, .int xnv, .int xna, .ref agbi, .ref agab, .int xtl, .ref aghv, .ref agic, .ref agbe, .int xmk, .ref agmt, .ref agmv, .ref agma, .ref agnd, .ref agre, .ref agse, .ref aglv, .ref agal, .ref agds, .ref agno, .ref agna])), (agbi, .inl (cI, 60, .inl gbi)), (agab, .inl (cI, 32, .inl gab)), (aghv, .inl (cI, 1920, .inl ghv)), (agnd, .inl (cI, 60, .inl gnd)), (agre, .inl (cJ, 60, .inr (.inl gre))), (aglv, .inl (cI, 60, .inl (u.1))), (agal, .inl (cI, 32, .inl (u.2)))] t.heap ∧ va_K (dC, dI) vwCl [(cI, .int), (cJ, .long)] t ∧ va_D A [(h0, .inr (4, [.int xth, .int xnv, .int xna, .ref agbi, .ref agab, .int xtl, .ref aghv, .ref agic, .ref agbe, .int xmk, .ref agmt, .ref agmv, .ref agma, .ref agnd, .ref agre, .ref agse, .ref aglv, .ref agal, .ref agds, .ref agno, .ref agna])), (agbi, .inl (cI, 60, .inl gbi)), (agab, .inl (cI, 32, .inl gab)), (aghv, .inl (cI, 1920, .inl ghv)), (agnd, .inl (cI, 60, .inl gnd)), (agre, .inl (cJ, 60, .inr (.inl gre))), (aglv, .inl (cI, 60, .inl (u.1))), (agal, .inl (cI, 32, .inl (u.2)))]) A) (List.toArray [.ref h0]) s 0 0 A) (F0 m 108 ls [])) (fun (x1 : Int32) (x2 : Int32) (glv : Nat → Int32) (gal : Nat → Int32) => ∀ (H : Heap) (locs : List Loc) (ls : Array Slot), va_P (dC, dI) vwCl [(h0, .inr (4, [.int xth, .int xnv, .int xna, .ref agbi, .ref agab, .int xtl, .ref aghv, .ref agic, .ref agbe, .int xmk, .ref agmt, .ref agmv, .ref agma, .ref agnd, .ref agre, .ref agse, .ref aglv, .ref agal, .ref agds, .ref agno, .ref agna])), (agbi, .inl (cI, 60, .inl gbi)), (agab, .inl (cI, 32, .inl gab)), (aghv, .inl (cI, 1920, .inl ghv)), (agnd, .inl (cI, 60, .inl gnd)), (agre, .inl (cJ, 60, .inr (.inl gre))), (aglv, .inl (cI, 60, .inl glv)), (agal, .inl (cI, 32, .inl gal))] H → va_D A [(h0, .inr (4, [.int xth, .int xnv, .int xna, .ref agbi, .ref agab, .int xtl, .ref aghv, .ref agic, .ref agbe, .int xmk, .ref agmt, .ref agmv, .ref agma, .ref agnd, .ref agre, .ref agse, .ref aglv, .ref agal, .ref agds, .ref agno, .ref agna])), (agbi, .inl (cI, 60, .inl gbi)), (agab, .inl (cI, 32, .inl gab)), (aghv, .inl (cI, 1920, .inl ghv)), (agnd, .inl (cI, 60, .inl gnd)), (agre, .inl (cJ, 60, .inr (.inl gre))), (aglv, .inl (cI, 60, .inl glv)), (agal, .inl (cI, 32, .inl gal))] → va_S A s.heap H locs → lv_has ls 4 [(0, .ref h0), (1, .int x1), (2, .int x2)] → W p l e (headSpec wsX4_findLevels ({ frames := 0, cells := 0, slots := 0, locals := 0 })).room s m (List.toArray [.ref h0]) below meth c H locs 0 0 (MQ below (va_Qv (fun (u : (Nat → Int32) × (Nat → Int32)) => post (u.1) (u.2)) (fun (u : (Nat → Int32) × (Nat → Int32)) (t : State) => va_P (dC, dI) vwCl [(h0, .inr (4, [.int xth, .int xnv, .int xna, .ref agbi, .ref agab, .int xtl, .ref aghv, .ref agic, .ref agbe, .int xmk, .ref agmt, .ref agmv, .ref agma, .ref agnd, .ref agre, .ref agse, .ref aglv, .ref agal, .ref agds, .ref agno, .ref agna])), (agbi, .inl (cI, 60, .inl gbi)), (agab, .inl (cI, 32, .inl gab)), (aghv, .inl (cI, 1920, .inl ghv)), (agnd, .inl (cI, 60, .inl gnd)), (agre, .inl (cJ, 60, .inr (.inl gre))), (aglv, .inl (cI, 60, .inl (u.1))), (agal, .inl (cI, 32, .inl (u.2)))] t.heap ∧ va_K (dC, dI) vwCl [(cI, .int), (cJ, .long)] t ∧ va_D A [(h0, .inr (4, [.int xth, .int xnv, .int xna, .ref agbi, .ref agab, .int xtl, .ref aghv, .ref agic, .ref agbe, .int xmk, .ref agmt, .ref agmv, .ref agma, .ref agnd, .ref agre, .ref agse, .ref aglv, .ref agal, .ref agds, .ref agno, .ref agna])), (agbi, .inl (cI, 60, .inl gbi)), (agab, .inl (cI, 32, .inl gab)), (aghv, .inl (cI, 1920, .inl ghv)), (agnd, .inl (cI, 60, .inl gnd)), (agre, .inl (cJ, 60, .inr (.inl gre))), (aglv, .inl (cI, 60, .inl (u.1))), (agal, .inl (cI, 32, .inl (u.2)))]) A) (List.toArray [.ref h0]) s 0 0 A) (F0 m 130 ls [])) ?_ ?_ ?_ ?_ ?_
  · intro x1 glv gal ht H locs ls hP hD hS hl
    refine lv_iload_n hx hb dX4_findLevels_2 rfl (lv_at hl 1 rfl) ?_
    refine lv_aload_n hx hb dX4_findLevels_3 rfl (lv_at hl 0 rfl) ?_
    refine va_get (D := (dC, dI)) (ci := 4) (v := .int xnv) (C := RX4) (T := TX4) (N := 21) hx hb hts hw0 hown hK hP 0 rfl rfl 1 (by decide) hw1 (fun _ h9 => h9) rfl dX4_findLevels_4 ?_
    refine lv_icmp_ge (tgt := 106) hx hb dX4_findLevels_7 (by decide) (fun c1 => ?_) (fun c1 => ?_)
    · replace ht := ht.1 c1
      refine lv_iconst (v := 0) hx hb dX4_findLevels_106 (by decide) ?_
      refine lv_istore_n (lv' := [(1, .int 0), (0, .ref h0)]) hx hb dX4_findLevels_107 rfl hl (by decide) rfl (fun ls hl => ?_)
      exact ht _ _ _ hP hD hS (lv_sub hl [1, 0] rfl)
    · replace ht := ht.2 c1
      refine lv_aload_n hx hb dX4_findLevels_10 rfl (lv_at hl 0 rfl) ?_
      refine va_get (D := (dC, dI)) (ci := 4) (v := .ref aglv) (C := RX4) (T := TX4) (N := 21) hx hb hts hw0 hown hK hP 0 rfl rfl 16 (by decide) hw2 (fun _ h9 => h9) rfl dX4_findLevels_11 ?_
      refine lv_iload_n hx hb dX4_findLevels_14 rfl (lv_at hl 1 rfl) ?_
      refine lv_bipush (v := 10) hx hb dX4_findLevels_15 (by decide) ?_
      obtain ⟨i2, ht⟩ := ht
      refine va_iast hx hb hK hP hD hS 6 0 rfl rfl i2 dX4_findLevels_17 (fun H locs hP hD hS => ?_)
      replace hP : va_P (dC, dI) vwCl [(h0, .inr (4, [.int xth, .int xnv, .int xna, .ref agbi, .ref agab, .int xtl, .ref aghv, .ref agic, .ref agbe, .int xmk, .ref agmt, .ref agmv, .ref agma, .ref agnd, .ref agre, .ref agse, .ref aglv, .ref agal, .ref agds, .ref agno, .ref agna])), (agbi, .inl (cI, 60, .inl gbi)), (agab, .inl (cI, 32, .inl gab)), (aghv, .inl (cI, 1920, .inl ghv)), (agnd, .inl (cI, 60, .inl gnd)), (agre, .inl (cJ, 60, .inr (.inl gre))), (aglv, .inl (cI, 60, .inl (upd glv x1.toNatClampNeg 10))), (agal, .inl (cI, 32, .inl gal))] H := hP
      replace hD : va_D A [(h0, .inr (4, [.int xth, .int xnv, .int xna, .ref agbi, .ref agab, .int xtl, .ref aghv, .ref agic, .ref agbe, .int xmk, .ref agmt, .ref agmv, .ref agma, .ref agnd, .ref agre, .ref agse, .ref aglv, .ref agal, .ref agds, .ref agno, .ref agna])), (agbi, .inl (cI, 60, .inl gbi)), (agab, .inl (cI, 32, .inl gab)), (aghv, .inl (cI, 1920, .inl ghv)), (agnd, .inl (cI, 60, .inl gnd)), (agre, .inl (cJ, 60, .inr (.inl gre))), (aglv, .inl (cI, 60, .inl (upd glv x1.toNatClampNeg 10))), (agal, .inl (cI, 32, .inl gal))] := hD
      refine lv_iconst (v := 0) hx hb dX4_findLevels_18 (by decide) ?_
      refine lv_istore_n (lv' := [(2, .int 0), (0, .ref h0), (1, .int x1)]) hx hb dX4_findLevels_19 rfl hl (by decide) rfl (fun ls hl => ?_)
      exact ht _ _ _ hP hD hS (lv_sub hl [1, 2, 0] rfl)
  · intro x1 x2 glv gal ht H locs ls hP hD hS hl
    refine lv_iload_n hx hb dX4_findLevels_20 rfl (lv_at hl 2 rfl) ?_
    refine lv_aload_n hx hb dX4_findLevels_21 rfl (lv_at hl 0 rfl) ?_
    refine va_get (D := (dC, dI)) (ci := 4) (v := .int xnv) (C := RX4) (T := TX4) (N := 21) hx hb hts hw0 hown hK hP 0 rfl rfl 1 (by decide) hw1 (fun _ h9 => h9) rfl dX4_findLevels_22 ?_
    refine lv_icmp_ge (tgt := 100) hx hb dX4_findLevels_25 (by decide) (fun c3 => ?_) (fun c3 => ?_)
    · replace ht := ht.1 c3
      obtain ⟨y4, ey4⟩ : ∃ y : Int32, y = x1 + 1 := ⟨_, rfl⟩
      replace ht := ht y4 ey4
      refine lv_iinc (v := y4) (lv' := [(1, .int y4), (0, .ref h0), (2, .int x2)]) hx hb dX4_findLevels_100 hl (k := 1) rfl (by rw [ey4]; rfl) (by decide) rfl (fun ls hl => ?_)
      refine lv_goto (tgt := 2) hx hb dX4_findLevels_103 (by decide) ?_
      exact ht _ _ _ hP hD hS (lv_sub hl [1, 0] rfl)
    · replace ht := ht.2 c3
      refine lv_aload_n hx hb dX4_findLevels_28 rfl (lv_at hl 0 rfl) ?_
      refine va_get (D := (dC, dI)) (ci := 4) (v := .ref agre) (C := RX4) (T := TX4) (N := 21) hx hb hts hw0 hown hK hP 0 rfl rfl 14 (by decide) hw3 (fun _ h9 => h9) rfl dX4_findLevels_29 ?_
      refine lv_iload_n hx hb dX4_findLevels_32 rfl (lv_at hl 2 rfl) ?_
      obtain ⟨i5, ht⟩ := ht
      refine va_lald hx hb hK hP 5 1 rfl rfl i5 dX4_findLevels_33 ?_
      refine lv_aload_n hx hb dX4_findLevels_34 rfl (lv_at hl 0 rfl) ?_
      refine va_get (D := (dC, dI)) (ci := 4) (v := .ref agnd) (C := RX4) (T := TX4) (N := 21) hx hb hts hw0 hown hK hP 0 rfl rfl 13 (by decide) hw4 (fun _ h9 => h9) rfl dX4_findLevels_35 ?_
      refine lv_iload_n hx hb dX4_findLevels_38 rfl (lv_at hl 1 rfl) ?_
      obtain ⟨i6, ht⟩ := ht
      refine va_iald hx hb hK hP 4 0 rfl rfl i6 dX4_findLevels_39 ?_
      refine lv_lshr (v := ((gre x2.toNatClampNeg) >>> ((gnd x1.toNatClampNeg).toInt64 &&& 63))) hx hb dX4_findLevels_40 rfl ?_
      refine lv_lconst (v := 1) hx hb dX4_findLevels_41 rfl ?_
      refine lv_land hx hb dX4_findLevels_42 ?_
      refine lv_lconst (v := 1) hx hb dX4_findLevels_43 rfl ?_
      refine W.lcmp hx hb dX4_findLevels_44 ?_
      refine lv_if_ne (tgt := 67) hx hb dX4_findLevels_45 (by decide) (fun c7 => ?_) (fun c7 => ?_)
      · replace ht := ht.1 c7
        refine lv_iconst (v := 0) hx hb dX4_findLevels_67 (by decide) ?_
        refine lv_istore_n (lv' := [(3, .int 0), (0, .ref h0), (1, .int x1), (2, .int x2)]) hx hb dX4_findLevels_68 rfl hl (by decide) rfl (fun ls hl => ?_)
        refine lv_aload_n hx hb dX4_findLevels_69 rfl (lv_at hl 1 rfl) ?_
        refine va_get (D := (dC, dI)) (ci := 4) (v := .ref aglv) (C := RX4) (T := TX4) (N := 21) hx hb hts hw0 hown hK hP 0 rfl rfl 16 (by decide) hw2 (fun _ h9 => h9) rfl dX4_findLevels_70 ?_
        refine lv_iload_n hx hb dX4_findLevels_73 rfl (lv_at hl 2 rfl) ?_
        refine lv_iload_n hx hb dX4_findLevels_74 rfl (lv_at hl 0 rfl) ?_
        refine lv_if_eq (tgt := 87) hx hb dX4_findLevels_75 (by decide) (fun c8 => ?_) (fun c8 => ?_)
        · refine lv_aload_n hx hb dX4_findLevels_87 rfl (lv_at hl 1 rfl) ?_
          refine va_get (D := (dC, dI)) (ci := 4) (v := .ref aglv) (C := RX4) (T := TX4) (N := 21) hx hb hts hw0 hown hK hP 0 rfl rfl 16 (by decide) hw2 (fun _ h9 => h9) rfl dX4_findLevels_88 ?_
          refine lv_iload_n hx hb dX4_findLevels_91 rfl (lv_at hl 2 rfl) ?_
          refine va_iald hx hb hK hP 6 0 rfl rfl i6 dX4_findLevels_92 ?_
          refine va_iast hx hb hK hP hD hS 6 0 rfl rfl i6 dX4_findLevels_93 (fun H locs hP hD hS => ?_)
          replace hP : va_P (dC, dI) vwCl [(h0, .inr (4, [.int xth, .int xnv, .int xna, .ref agbi, .ref agab, .int xtl, .ref aghv, .ref agic, .ref agbe, .int xmk, .ref agmt, .ref agmv, .ref agma, .ref agnd, .ref agre, .ref agse, .ref aglv, .ref agal, .ref agds, .ref agno, .ref agna])), (agbi, .inl (cI, 60, .inl gbi)), (agab, .inl (cI, 32, .inl gab)), (aghv, .inl (cI, 1920, .inl ghv)), (agnd, .inl (cI, 60, .inl gnd)), (agre, .inl (cJ, 60, .inr (.inl gre))), (aglv, .inl (cI, 60, .inl (upd glv x1.toNatClampNeg (glv x1.toNatClampNeg)))), (agal, .inl (cI, 32, .inl gal))] H := hP
          replace hD : va_D A [(h0, .inr (4, [.int xth, .int xnv, .int xna, .ref agbi, .ref agab, .int xtl, .ref aghv, .ref agic, .ref agbe, .int xmk, .ref agmt, .ref agmv, .ref agma, .ref agnd, .ref agre, .ref agse, .ref aglv, .ref agal, .ref agds, .ref agno, .ref agna])), (agbi, .inl (cI, 60, .inl gbi)), (agab, .inl (cI, 32, .inl gab)), (aghv, .inl (cI, 1920, .inl ghv)), (agnd, .inl (cI, 60, .inl gnd)), (agre, .inl (cJ, 60, .inr (.inl gre))), (aglv, .inl (cI, 60, .inl (upd glv x1.toNatClampNeg (glv x1.toNatClampNeg)))), (agal, .inl (cI, 32, .inl gal))] := hD
          obtain ⟨y9, ey9⟩ : ∃ y : Int32, y = x2 + 1 := ⟨_, rfl⟩
          replace ht := ht y9 ey9
          refine lv_iinc (v := y9) (lv' := [(2, .int y9), (3, .int 0), (0, .ref h0), (1, .int x1)]) hx hb dX4_findLevels_94 hl (k := 3) rfl (by rw [ey9]; rfl) (by decide) rfl (fun ls hl => ?_)
          refine lv_goto (tgt := 20) hx hb dX4_findLevels_97 (by decide) ?_
          exact ht _ _ _ hP hD hS (lv_sub hl [2, 3, 0] rfl)
        · exact absurd c8 (by decide)
      · replace ht := ht.2 c7
        refine lv_aload_n hx hb dX4_findLevels_48 rfl (lv_at hl 0 rfl) ?_
        refine va_get (D := (dC, dI)) (ci := 4) (v := .ref agbi) (C := RX4) (T := TX4) (N := 21) hx hb hts hw0 hown hK hP 0 rfl rfl 3 (by decide) hw5 (fun _ h9 => h9) rfl dX4_findLevels_49 ?_
        refine lv_iload_n hx hb dX4_findLevels_52 rfl (lv_at hl 2 rfl) ?_
        refine va_iald hx hb hK hP 1 0 rfl rfl i5 dX4_findLevels_53 ?_
        refine lv_aload_n hx hb dX4_findLevels_54 rfl (lv_at hl 0 rfl) ?_
        refine va_get (D := (dC, dI)) (ci := 4) (v := .ref aglv) (C := RX4) (T := TX4) (N := 21) hx hb hts hw0 hown hK hP 0 rfl rfl 16 (by decide) hw2 (fun _ h9 => h9) rfl dX4_findLevels_55 ?_
        refine lv_iload_n hx hb dX4_findLevels_58 rfl (lv_at hl 1 rfl) ?_
        refine va_iald hx hb hK hP 6 0 rfl rfl i6 dX4_findLevels_59 ?_
        refine lv_icmp_ge (tgt := 67) hx hb dX4_findLevels_60 (by decide) (fun c10 => ?_) (fun c10 => ?_)
        · replace ht := ht.1 c10
          refine lv_iconst (v := 0) hx hb dX4_findLevels_67 (by decide) ?_
          refine lv_istore_n (lv' := [(3, .int 0), (0, .ref h0), (1, .int x1), (2, .int x2)]) hx hb dX4_findLevels_68 rfl hl (by decide) rfl (fun ls hl => ?_)
          refine lv_aload_n hx hb dX4_findLevels_69 rfl (lv_at hl 1 rfl) ?_
          refine va_get (D := (dC, dI)) (ci := 4) (v := .ref aglv) (C := RX4) (T := TX4) (N := 21) hx hb hts hw0 hown hK hP 0 rfl rfl 16 (by decide) hw2 (fun _ h9 => h9) rfl dX4_findLevels_70 ?_
          refine lv_iload_n hx hb dX4_findLevels_73 rfl (lv_at hl 2 rfl) ?_
          refine lv_iload_n hx hb dX4_findLevels_74 rfl (lv_at hl 0 rfl) ?_
          refine lv_if_eq (tgt := 87) hx hb dX4_findLevels_75 (by decide) (fun c11 => ?_) (fun c11 => ?_)
          · refine lv_aload_n hx hb dX4_findLevels_87 rfl (lv_at hl 1 rfl) ?_
            refine va_get (D := (dC, dI)) (ci := 4) (v := .ref aglv) (C := RX4) (T := TX4) (N := 21) hx hb hts hw0 hown hK hP 0 rfl rfl 16 (by decide) hw2 (fun _ h9 => h9) rfl dX4_findLevels_88 ?_
            refine lv_iload_n hx hb dX4_findLevels_91 rfl (lv_at hl 2 rfl) ?_
            refine va_iald hx hb hK hP 6 0 rfl rfl i6 dX4_findLevels_92 ?_
            refine va_iast hx hb hK hP hD hS 6 0 rfl rfl i6 dX4_findLevels_93 (fun H locs hP hD hS => ?_)
            replace hP : va_P (dC, dI) vwCl [(h0, .inr (4, [.int xth, .int xnv, .int xna, .ref agbi, .ref agab, .int xtl, .ref aghv, .ref agic, .ref agbe, .int xmk, .ref agmt, .ref agmv, .ref agma, .ref agnd, .ref agre, .ref agse, .ref aglv, .ref agal, .ref agds, .ref agno, .ref agna])), (agbi, .inl (cI, 60, .inl gbi)), (agab, .inl (cI, 32, .inl gab)), (aghv, .inl (cI, 1920, .inl ghv)), (agnd, .inl (cI, 60, .inl gnd)), (agre, .inl (cJ, 60, .inr (.inl gre))), (aglv, .inl (cI, 60, .inl (upd glv x1.toNatClampNeg (glv x1.toNatClampNeg)))), (agal, .inl (cI, 32, .inl gal))] H := hP
            replace hD : va_D A [(h0, .inr (4, [.int xth, .int xnv, .int xna, .ref agbi, .ref agab, .int xtl, .ref aghv, .ref agic, .ref agbe, .int xmk, .ref agmt, .ref agmv, .ref agma, .ref agnd, .ref agre, .ref agse, .ref aglv, .ref agal, .ref agds, .ref agno, .ref agna])), (agbi, .inl (cI, 60, .inl gbi)), (agab, .inl (cI, 32, .inl gab)), (aghv, .inl (cI, 1920, .inl ghv)), (agnd, .inl (cI, 60, .inl gnd)), (agre, .inl (cJ, 60, .inr (.inl gre))), (aglv, .inl (cI, 60, .inl (upd glv x1.toNatClampNeg (glv x1.toNatClampNeg)))), (agal, .inl (cI, 32, .inl gal))] := hD
            obtain ⟨y12, ey12⟩ : ∃ y : Int32, y = x2 + 1 := ⟨_, rfl⟩
            replace ht := ht y12 ey12
            refine lv_iinc (v := y12) (lv' := [(2, .int y12), (3, .int 0), (0, .ref h0), (1, .int x1)]) hx hb dX4_findLevels_94 hl (k := 3) rfl (by rw [ey12]; rfl) (by decide) rfl (fun ls hl => ?_)
            refine lv_goto (tgt := 20) hx hb dX4_findLevels_97 (by decide) ?_
            exact ht _ _ _ hP hD hS (lv_sub hl [2, 3, 0] rfl)
          · exact absurd c11 (by decide)
        · replace ht := ht.2 c10
          refine lv_iconst (v := 1) hx hb dX4_findLevels_63 (by decide) ?_
          refine lv_goto (tgt := 68) hx hb dX4_findLevels_64 (by decide) ?_
          refine lv_istore_n (lv' := [(3, .int 1), (0, .ref h0), (1, .int x1), (2, .int x2)]) hx hb dX4_findLevels_68 rfl hl (by decide) rfl (fun ls hl => ?_)
          refine lv_aload_n hx hb dX4_findLevels_69 rfl (lv_at hl 1 rfl) ?_
          refine va_get (D := (dC, dI)) (ci := 4) (v := .ref aglv) (C := RX4) (T := TX4) (N := 21) hx hb hts hw0 hown hK hP 0 rfl rfl 16 (by decide) hw2 (fun _ h9 => h9) rfl dX4_findLevels_70 ?_
          refine lv_iload_n hx hb dX4_findLevels_73 rfl (lv_at hl 2 rfl) ?_
          refine lv_iload_n hx hb dX4_findLevels_74 rfl (lv_at hl 0 rfl) ?_
          refine lv_if_eq (tgt := 87) hx hb dX4_findLevels_75 (by decide) (fun c13 => ?_) (fun c13 => ?_)
          · exact absurd c13 (by decide)
          · refine lv_aload_n hx hb dX4_findLevels_78 rfl (lv_at hl 1 rfl) ?_
            refine va_get (D := (dC, dI)) (ci := 4) (v := .ref agbi) (C := RX4) (T := TX4) (N := 21) hx hb hts hw0 hown hK hP 0 rfl rfl 3 (by decide) hw5 (fun _ h9 => h9) rfl dX4_findLevels_79 ?_
            refine lv_iload_n hx hb dX4_findLevels_82 rfl (lv_at hl 3 rfl) ?_
            refine va_iald hx hb hK hP 1 0 rfl rfl i5 dX4_findLevels_83 ?_
            refine lv_goto (tgt := 93) hx hb dX4_findLevels_84 (by decide) ?_
            refine va_iast hx hb hK hP hD hS 6 0 rfl rfl i6 dX4_findLevels_93 (fun H locs hP hD hS => ?_)
            replace hP : va_P (dC, dI) vwCl [(h0, .inr (4, [.int xth, .int xnv, .int xna, .ref agbi, .ref agab, .int xtl, .ref aghv, .ref agic, .ref agbe, .int xmk, .ref agmt, .ref agmv, .ref agma, .ref agnd, .ref agre, .ref agse, .ref aglv, .ref agal, .ref agds, .ref agno, .ref agna])), (agbi, .inl (cI, 60, .inl gbi)), (agab, .inl (cI, 32, .inl gab)), (aghv, .inl (cI, 1920, .inl ghv)), (agnd, .inl (cI, 60, .inl gnd)), (agre, .inl (cJ, 60, .inr (.inl gre))), (aglv, .inl (cI, 60, .inl (upd glv x1.toNatClampNeg (gbi x2.toNatClampNeg)))), (agal, .inl (cI, 32, .inl gal))] H := hP
            replace hD : va_D A [(h0, .inr (4, [.int xth, .int xnv, .int xna, .ref agbi, .ref agab, .int xtl, .ref aghv, .ref agic, .ref agbe, .int xmk, .ref agmt, .ref agmv, .ref agma, .ref agnd, .ref agre, .ref agse, .ref aglv, .ref agal, .ref agds, .ref agno, .ref agna])), (agbi, .inl (cI, 60, .inl gbi)), (agab, .inl (cI, 32, .inl gab)), (aghv, .inl (cI, 1920, .inl ghv)), (agnd, .inl (cI, 60, .inl gnd)), (agre, .inl (cJ, 60, .inr (.inl gre))), (aglv, .inl (cI, 60, .inl (upd glv x1.toNatClampNeg (gbi x2.toNatClampNeg)))), (agal, .inl (cI, 32, .inl gal))] := hD
            obtain ⟨y14, ey14⟩ : ∃ y : Int32, y = x2 + 1 := ⟨_, rfl⟩
            replace ht := ht y14 ey14
            refine lv_iinc (v := y14) (lv' := [(2, .int y14), (3, .int 1), (0, .ref h0), (1, .int x1)]) hx hb dX4_findLevels_94 hl (k := 3) rfl (by rw [ey14]; rfl) (by decide) rfl (fun ls hl => ?_)
            refine lv_goto (tgt := 20) hx hb dX4_findLevels_97 (by decide) ?_
            exact ht _ _ _ hP hD hS (lv_sub hl [2, 3, 0] rfl)
  · intro x1 glv gal ht H locs ls hP hD hS hl
    refine lv_iload_n hx hb dX4_findLevels_108 rfl (lv_at hl 1 rfl) ?_
    refine lv_aload_n hx hb dX4_findLevels_109 rfl (lv_at hl 0 rfl) ?_
    refine va_get (D := (dC, dI)) (ci := 4) (v := .int xna) (C := RX4) (T := TX4) (N := 21) hx hb hts hw0 hown hK hP 0 rfl rfl 2 (by decide) hw6 (fun _ h9 => h9) rfl dX4_findLevels_110 ?_
    refine lv_icmp_ge (tgt := 210) hx hb dX4_findLevels_113 (by decide) (fun c15 => ?_) (fun c15 => ?_)
    · replace ht := ht.1 c15
      have hP9 : va_P (dC, dI) vwCl [(h0, .inr (4, [.int xth, .int xnv, .int xna, .ref agbi, .ref agab, .int xtl, .ref aghv, .ref agic, .ref agbe, .int xmk, .ref agmt, .ref agmv, .ref agma, .ref agnd, .ref agre, .ref agse, .ref aglv, .ref agal, .ref agds, .ref agno, .ref agna])), (agbi, .inl (cI, 60, .inl gbi)), (agab, .inl (cI, 32, .inl gab)), (aghv, .inl (cI, 1920, .inl ghv)), (agnd, .inl (cI, 60, .inl gnd)), (agre, .inl (cJ, 60, .inr (.inl gre))), (aglv, .inl (cI, 60, .inl glv)), (agal, .inl (cI, 32, .inl gal))] _ := hP
      have hD9 : va_D A [(h0, .inr (4, [.int xth, .int xnv, .int xna, .ref agbi, .ref agab, .int xtl, .ref aghv, .ref agic, .ref agbe, .int xmk, .ref agmt, .ref agmv, .ref agma, .ref agnd, .ref agre, .ref agse, .ref aglv, .ref agal, .ref agds, .ref agno, .ref agna])), (agbi, .inl (cI, 60, .inl gbi)), (agab, .inl (cI, 32, .inl gab)), (aghv, .inl (cI, 1920, .inl ghv)), (agnd, .inl (cI, 60, .inl gnd)), (agre, .inl (cJ, 60, .inr (.inl gre))), (aglv, .inl (cI, 60, .inl glv)), (agal, .inl (cI, 32, .inl gal))] := hD
      exact W.vret hx hb hr (fun t ht9 hW => ⟨⟨(glv, gal), rfl, ht, by rw [ht9]; exact hP9, va_K.moved hW.alike hK, hD9⟩, hS.F ht9⟩) hS.2.2 dX4_findLevels_210
    · replace ht := ht.2 c15
      refine lv_aload_n hx hb dX4_findLevels_116 rfl (lv_at hl 0 rfl) ?_
      refine va_get (D := (dC, dI)) (ci := 4) (v := .ref agal) (C := RX4) (T := TX4) (N := 21) hx hb hts hw0 hown hK hP 0 rfl rfl 17 (by decide) hw7 (fun _ h9 => h9) rfl dX4_findLevels_117 ?_
      refine lv_iload_n hx hb dX4_findLevels_120 rfl (lv_at hl 1 rfl) ?_
      refine lv_aload_n hx hb dX4_findLevels_121 rfl (lv_at hl 0 rfl) ?_
      refine va_get (D := (dC, dI)) (ci := 4) (v := .ref agab) (C := RX4) (T := TX4) (N := 21) hx hb hts hw0 hown hK hP 0 rfl rfl 4 (by decide) hw8 (fun _ h9 => h9) rfl dX4_findLevels_122 ?_
      refine lv_iload_n hx hb dX4_findLevels_125 rfl (lv_at hl 1 rfl) ?_
      obtain ⟨i16, ht⟩ := ht
      refine va_iald hx hb hK hP 2 0 rfl rfl i16 dX4_findLevels_126 ?_
      refine va_iast hx hb hK hP hD hS 7 0 rfl rfl i16 dX4_findLevels_127 (fun H locs hP hD hS => ?_)
      replace hP : va_P (dC, dI) vwCl [(h0, .inr (4, [.int xth, .int xnv, .int xna, .ref agbi, .ref agab, .int xtl, .ref aghv, .ref agic, .ref agbe, .int xmk, .ref agmt, .ref agmv, .ref agma, .ref agnd, .ref agre, .ref agse, .ref aglv, .ref agal, .ref agds, .ref agno, .ref agna])), (agbi, .inl (cI, 60, .inl gbi)), (agab, .inl (cI, 32, .inl gab)), (aghv, .inl (cI, 1920, .inl ghv)), (agnd, .inl (cI, 60, .inl gnd)), (agre, .inl (cJ, 60, .inr (.inl gre))), (aglv, .inl (cI, 60, .inl glv)), (agal, .inl (cI, 32, .inl (upd gal x1.toNatClampNeg (gab x1.toNatClampNeg))))] H := hP
      replace hD : va_D A [(h0, .inr (4, [.int xth, .int xnv, .int xna, .ref agbi, .ref agab, .int xtl, .ref aghv, .ref agic, .ref agbe, .int xmk, .ref agmt, .ref agmv, .ref agma, .ref agnd, .ref agre, .ref agse, .ref aglv, .ref agal, .ref agds, .ref agno, .ref agna])), (agbi, .inl (cI, 60, .inl gbi)), (agab, .inl (cI, 32, .inl gab)), (aghv, .inl (cI, 1920, .inl ghv)), (agnd, .inl (cI, 60, .inl gnd)), (agre, .inl (cJ, 60, .inr (.inl gre))), (aglv, .inl (cI, 60, .inl glv)), (agal, .inl (cI, 32, .inl (upd gal x1.toNatClampNeg (gab x1.toNatClampNeg))))] := hD
      refine lv_iconst (v := 0) hx hb dX4_findLevels_128 (by decide) ?_
      refine lv_istore_n (lv' := [(2, .int 0), (0, .ref h0), (1, .int x1)]) hx hb dX4_findLevels_129 rfl hl (by decide) rfl (fun ls hl => ?_)
      exact ht _ _ _ hP hD hS (lv_sub hl [1, 2, 0] rfl)
  · intro x1 x2 glv gal ht H locs ls hP hD hS hl
    refine lv_iload_n hx hb dX4_findLevels_130 rfl (lv_at hl 2 rfl) ?_
    refine lv_aload_n hx hb dX4_findLevels_131 rfl (lv_at hl 0 rfl) ?_
    refine va_get (D := (dC, dI)) (ci := 4) (v := .int xnv) (C := RX4) (T := TX4) (N := 21) hx hb hts hw0 hown hK hP 0 rfl rfl 1 (by decide) hw1 (fun _ h9 => h9) rfl dX4_findLevels_132 ?_
    refine lv_icmp_ge (tgt := 204) hx hb dX4_findLevels_135 (by decide) (fun c17 => ?_) (fun c17 => ?_)
    · replace ht := ht.1 c17
      obtain ⟨y18, ey18⟩ : ∃ y : Int32, y = x1 + 1 := ⟨_, rfl⟩
      replace ht := ht y18 ey18
      refine lv_iinc (v := y18) (lv' := [(1, .int y18), (0, .ref h0), (2, .int x2)]) hx hb dX4_findLevels_204 hl (k := 1) rfl (by rw [ey18]; rfl) (by decide) rfl (fun ls hl => ?_)
      refine lv_goto (tgt := 108) hx hb dX4_findLevels_207 (by decide) ?_
      exact ht _ _ _ hP hD hS (lv_sub hl [1, 0] rfl)
    · replace ht := ht.2 c17
      refine lv_aload_n hx hb dX4_findLevels_138 rfl (lv_at hl 0 rfl) ?_
      refine va_get (D := (dC, dI)) (ci := 4) (v := .ref aghv) (C := RX4) (T := TX4) (N := 21) hx hb hts hw0 hown hK hP 0 rfl rfl 6 (by decide) hw9 (fun _ h9 => h9) rfl dX4_findLevels_139 ?_
      refine lv_bipush (v := 32) hx hb dX4_findLevels_142 (by decide) ?_
      refine lv_iload_n hx hb dX4_findLevels_144 rfl (lv_at hl 2 rfl) ?_
      refine lv_imul hx hb dX4_findLevels_145 ?_
      refine lv_iload_n hx hb dX4_findLevels_146 rfl (lv_at hl 1 rfl) ?_
      refine lv_iadd hx hb dX4_findLevels_147 ?_
      obtain ⟨i19, ht⟩ := ht
      refine va_iald hx hb hK hP 3 0 rfl rfl i19 dX4_findLevels_148 ?_
      refine lv_if_le (tgt := 171) hx hb dX4_findLevels_149 (by decide) (fun c20 => ?_) (fun c20 => ?_)
      · replace ht := ht.1 c20
        refine lv_iconst (v := 0) hx hb dX4_findLevels_171 (by decide) ?_
        refine lv_istore_n (lv' := [(3, .int 0), (0, .ref h0), (1, .int x1), (2, .int x2)]) hx hb dX4_findLevels_172 rfl hl (by decide) rfl (fun ls hl => ?_)
        refine lv_aload_n hx hb dX4_findLevels_173 rfl (lv_at hl 1 rfl) ?_
        refine va_get (D := (dC, dI)) (ci := 4) (v := .ref agal) (C := RX4) (T := TX4) (N := 21) hx hb hts hw0 hown hK hP 0 rfl rfl 17 (by decide) hw7 (fun _ h9 => h9) rfl dX4_findLevels_174 ?_
        refine lv_iload_n hx hb dX4_findLevels_177 rfl (lv_at hl 2 rfl) ?_
        refine lv_iload_n hx hb dX4_findLevels_178 rfl (lv_at hl 0 rfl) ?_
        refine lv_if_eq (tgt := 191) hx hb dX4_findLevels_179 (by decide) (fun c21 => ?_) (fun c21 => ?_)
        · refine lv_aload_n hx hb dX4_findLevels_191 rfl (lv_at hl 1 rfl) ?_
          refine va_get (D := (dC, dI)) (ci := 4) (v := .ref agal) (C := RX4) (T := TX4) (N := 21) hx hb hts hw0 hown hK hP 0 rfl rfl 17 (by decide) hw7 (fun _ h9 => h9) rfl dX4_findLevels_192 ?_
          refine lv_iload_n hx hb dX4_findLevels_195 rfl (lv_at hl 2 rfl) ?_
          obtain ⟨i22, ht⟩ := ht
          refine va_iald hx hb hK hP 7 0 rfl rfl i22 dX4_findLevels_196 ?_
          refine va_iast hx hb hK hP hD hS 7 0 rfl rfl i22 dX4_findLevels_197 (fun H locs hP hD hS => ?_)
          replace hP : va_P (dC, dI) vwCl [(h0, .inr (4, [.int xth, .int xnv, .int xna, .ref agbi, .ref agab, .int xtl, .ref aghv, .ref agic, .ref agbe, .int xmk, .ref agmt, .ref agmv, .ref agma, .ref agnd, .ref agre, .ref agse, .ref aglv, .ref agal, .ref agds, .ref agno, .ref agna])), (agbi, .inl (cI, 60, .inl gbi)), (agab, .inl (cI, 32, .inl gab)), (aghv, .inl (cI, 1920, .inl ghv)), (agnd, .inl (cI, 60, .inl gnd)), (agre, .inl (cJ, 60, .inr (.inl gre))), (aglv, .inl (cI, 60, .inl glv)), (agal, .inl (cI, 32, .inl (upd gal x1.toNatClampNeg (gal x1.toNatClampNeg))))] H := hP
          replace hD : va_D A [(h0, .inr (4, [.int xth, .int xnv, .int xna, .ref agbi, .ref agab, .int xtl, .ref aghv, .ref agic, .ref agbe, .int xmk, .ref agmt, .ref agmv, .ref agma, .ref agnd, .ref agre, .ref agse, .ref aglv, .ref agal, .ref agds, .ref agno, .ref agna])), (agbi, .inl (cI, 60, .inl gbi)), (agab, .inl (cI, 32, .inl gab)), (aghv, .inl (cI, 1920, .inl ghv)), (agnd, .inl (cI, 60, .inl gnd)), (agre, .inl (cJ, 60, .inr (.inl gre))), (aglv, .inl (cI, 60, .inl glv)), (agal, .inl (cI, 32, .inl (upd gal x1.toNatClampNeg (gal x1.toNatClampNeg))))] := hD
          obtain ⟨y23, ey23⟩ : ∃ y : Int32, y = x2 + 1 := ⟨_, rfl⟩
          replace ht := ht y23 ey23
          refine lv_iinc (v := y23) (lv' := [(2, .int y23), (3, .int 0), (0, .ref h0), (1, .int x1)]) hx hb dX4_findLevels_198 hl (k := 3) rfl (by rw [ey23]; rfl) (by decide) rfl (fun ls hl => ?_)
          refine lv_goto (tgt := 130) hx hb dX4_findLevels_201 (by decide) ?_
          exact ht _ _ _ hP hD hS (lv_sub hl [2, 3, 0] rfl)
        · exact absurd c21 (by decide)
      · replace ht := ht.2 c20
        refine lv_aload_n hx hb dX4_findLevels_152 rfl (lv_at hl 0 rfl) ?_
        refine va_get (D := (dC, dI)) (ci := 4) (v := .ref aglv) (C := RX4) (T := TX4) (N := 21) hx hb hts hw0 hown hK hP 0 rfl rfl 16 (by decide) hw2 (fun _ h9 => h9) rfl dX4_findLevels_153 ?_
        refine lv_iload_n hx hb dX4_findLevels_156 rfl (lv_at hl 2 rfl) ?_
        obtain ⟨i24, ht⟩ := ht
        refine va_iald hx hb hK hP 6 0 rfl rfl i24 dX4_findLevels_157 ?_
        refine lv_aload_n hx hb dX4_findLevels_158 rfl (lv_at hl 0 rfl) ?_
        refine va_get (D := (dC, dI)) (ci := 4) (v := .ref agal) (C := RX4) (T := TX4) (N := 21) hx hb hts hw0 hown hK hP 0 rfl rfl 17 (by decide) hw7 (fun _ h9 => h9) rfl dX4_findLevels_159 ?_
        refine lv_iload_n hx hb dX4_findLevels_162 rfl (lv_at hl 1 rfl) ?_
        obtain ⟨i25, ht⟩ := ht
        refine va_iald hx hb hK hP 7 0 rfl rfl i25 dX4_findLevels_163 ?_
        refine lv_icmp_ge (tgt := 171) hx hb dX4_findLevels_164 (by decide) (fun c26 => ?_) (fun c26 => ?_)
        · replace ht := ht.1 c26
          refine lv_iconst (v := 0) hx hb dX4_findLevels_171 (by decide) ?_
          refine lv_istore_n (lv' := [(3, .int 0), (0, .ref h0), (1, .int x1), (2, .int x2)]) hx hb dX4_findLevels_172 rfl hl (by decide) rfl (fun ls hl => ?_)
          refine lv_aload_n hx hb dX4_findLevels_173 rfl (lv_at hl 1 rfl) ?_
          refine va_get (D := (dC, dI)) (ci := 4) (v := .ref agal) (C := RX4) (T := TX4) (N := 21) hx hb hts hw0 hown hK hP 0 rfl rfl 17 (by decide) hw7 (fun _ h9 => h9) rfl dX4_findLevels_174 ?_
          refine lv_iload_n hx hb dX4_findLevels_177 rfl (lv_at hl 2 rfl) ?_
          refine lv_iload_n hx hb dX4_findLevels_178 rfl (lv_at hl 0 rfl) ?_
          refine lv_if_eq (tgt := 191) hx hb dX4_findLevels_179 (by decide) (fun c27 => ?_) (fun c27 => ?_)
          · refine lv_aload_n hx hb dX4_findLevels_191 rfl (lv_at hl 1 rfl) ?_
            refine va_get (D := (dC, dI)) (ci := 4) (v := .ref agal) (C := RX4) (T := TX4) (N := 21) hx hb hts hw0 hown hK hP 0 rfl rfl 17 (by decide) hw7 (fun _ h9 => h9) rfl dX4_findLevels_192 ?_
            refine lv_iload_n hx hb dX4_findLevels_195 rfl (lv_at hl 2 rfl) ?_
            refine va_iald hx hb hK hP 7 0 rfl rfl i25 dX4_findLevels_196 ?_
            refine va_iast hx hb hK hP hD hS 7 0 rfl rfl i25 dX4_findLevels_197 (fun H locs hP hD hS => ?_)
            replace hP : va_P (dC, dI) vwCl [(h0, .inr (4, [.int xth, .int xnv, .int xna, .ref agbi, .ref agab, .int xtl, .ref aghv, .ref agic, .ref agbe, .int xmk, .ref agmt, .ref agmv, .ref agma, .ref agnd, .ref agre, .ref agse, .ref aglv, .ref agal, .ref agds, .ref agno, .ref agna])), (agbi, .inl (cI, 60, .inl gbi)), (agab, .inl (cI, 32, .inl gab)), (aghv, .inl (cI, 1920, .inl ghv)), (agnd, .inl (cI, 60, .inl gnd)), (agre, .inl (cJ, 60, .inr (.inl gre))), (aglv, .inl (cI, 60, .inl glv)), (agal, .inl (cI, 32, .inl (upd gal x1.toNatClampNeg (gal x1.toNatClampNeg))))] H := hP
            replace hD : va_D A [(h0, .inr (4, [.int xth, .int xnv, .int xna, .ref agbi, .ref agab, .int xtl, .ref aghv, .ref agic, .ref agbe, .int xmk, .ref agmt, .ref agmv, .ref agma, .ref agnd, .ref agre, .ref agse, .ref aglv, .ref agal, .ref agds, .ref agno, .ref agna])), (agbi, .inl (cI, 60, .inl gbi)), (agab, .inl (cI, 32, .inl gab)), (aghv, .inl (cI, 1920, .inl ghv)), (agnd, .inl (cI, 60, .inl gnd)), (agre, .inl (cJ, 60, .inr (.inl gre))), (aglv, .inl (cI, 60, .inl glv)), (agal, .inl (cI, 32, .inl (upd gal x1.toNatClampNeg (gal x1.toNatClampNeg))))] := hD
            obtain ⟨y28, ey28⟩ : ∃ y : Int32, y = x2 + 1 := ⟨_, rfl⟩
            replace ht := ht y28 ey28
            refine lv_iinc (v := y28) (lv' := [(2, .int y28), (3, .int 0), (0, .ref h0), (1, .int x1)]) hx hb dX4_findLevels_198 hl (k := 3) rfl (by rw [ey28]; rfl) (by decide) rfl (fun ls hl => ?_)
            refine lv_goto (tgt := 130) hx hb dX4_findLevels_201 (by decide) ?_
            exact ht _ _ _ hP hD hS (lv_sub hl [2, 3, 0] rfl)
          · exact absurd c27 (by decide)
        · replace ht := ht.2 c26
          refine lv_iconst (v := 1) hx hb dX4_findLevels_167 (by decide) ?_
          refine lv_goto (tgt := 172) hx hb dX4_findLevels_168 (by decide) ?_
          refine lv_istore_n (lv' := [(3, .int 1), (0, .ref h0), (1, .int x1), (2, .int x2)]) hx hb dX4_findLevels_172 rfl hl (by decide) rfl (fun ls hl => ?_)
          refine lv_aload_n hx hb dX4_findLevels_173 rfl (lv_at hl 1 rfl) ?_
          refine va_get (D := (dC, dI)) (ci := 4) (v := .ref agal) (C := RX4) (T := TX4) (N := 21) hx hb hts hw0 hown hK hP 0 rfl rfl 17 (by decide) hw7 (fun _ h9 => h9) rfl dX4_findLevels_174 ?_
          refine lv_iload_n hx hb dX4_findLevels_177 rfl (lv_at hl 2 rfl) ?_
          refine lv_iload_n hx hb dX4_findLevels_178 rfl (lv_at hl 0 rfl) ?_
          refine lv_if_eq (tgt := 191) hx hb dX4_findLevels_179 (by decide) (fun c29 => ?_) (fun c29 => ?_)
          · exact absurd c29 (by decide)
          · refine lv_aload_n hx hb dX4_findLevels_182 rfl (lv_at hl 1 rfl) ?_
            refine va_get (D := (dC, dI)) (ci := 4) (v := .ref aglv) (C := RX4) (T := TX4) (N := 21) hx hb hts hw0 hown hK hP 0 rfl rfl 16 (by decide) hw2 (fun _ h9 => h9) rfl dX4_findLevels_183 ?_
            refine lv_iload_n hx hb dX4_findLevels_186 rfl (lv_at hl 3 rfl) ?_
            refine va_iald hx hb hK hP 6 0 rfl rfl i24 dX4_findLevels_187 ?_
            refine lv_goto (tgt := 197) hx hb dX4_findLevels_188 (by decide) ?_
            refine va_iast hx hb hK hP hD hS 7 0 rfl rfl i25 dX4_findLevels_197 (fun H locs hP hD hS => ?_)
            replace hP : va_P (dC, dI) vwCl [(h0, .inr (4, [.int xth, .int xnv, .int xna, .ref agbi, .ref agab, .int xtl, .ref aghv, .ref agic, .ref agbe, .int xmk, .ref agmt, .ref agmv, .ref agma, .ref agnd, .ref agre, .ref agse, .ref aglv, .ref agal, .ref agds, .ref agno, .ref agna])), (agbi, .inl (cI, 60, .inl gbi)), (agab, .inl (cI, 32, .inl gab)), (aghv, .inl (cI, 1920, .inl ghv)), (agnd, .inl (cI, 60, .inl gnd)), (agre, .inl (cJ, 60, .inr (.inl gre))), (aglv, .inl (cI, 60, .inl glv)), (agal, .inl (cI, 32, .inl (upd gal x1.toNatClampNeg (glv x2.toNatClampNeg))))] H := hP
            replace hD : va_D A [(h0, .inr (4, [.int xth, .int xnv, .int xna, .ref agbi, .ref agab, .int xtl, .ref aghv, .ref agic, .ref agbe, .int xmk, .ref agmt, .ref agmv, .ref agma, .ref agnd, .ref agre, .ref agse, .ref aglv, .ref agal, .ref agds, .ref agno, .ref agna])), (agbi, .inl (cI, 60, .inl gbi)), (agab, .inl (cI, 32, .inl gab)), (aghv, .inl (cI, 1920, .inl ghv)), (agnd, .inl (cI, 60, .inl gnd)), (agre, .inl (cJ, 60, .inr (.inl gre))), (aglv, .inl (cI, 60, .inl glv)), (agal, .inl (cI, 32, .inl (upd gal x1.toNatClampNeg (glv x2.toNatClampNeg))))] := hD
            obtain ⟨y30, ey30⟩ : ∃ y : Int32, y = x2 + 1 := ⟨_, rfl⟩
            replace ht := ht y30 ey30
            refine lv_iinc (v := y30) (lv' := [(2, .int y30), (3, .int 1), (0, .ref h0), (1, .int x1)]) hx hb dX4_findLevels_198 hl (k := 3) rfl (by rw [ey30]; rfl) (by decide) rfl (fun ls hl => ?_)
            refine lv_goto (tgt := 130) hx hb dX4_findLevels_201 (by decide) ?_
            exact ht _ _ _ hP hD hS (lv_sub hl [2, 3, 0] rfl)
  · intro ht
    refine lv_iconst (v := 0) hx hb dX4_findLevels_0 (by decide) ?_
    refine lv_istore_n (lv' := [(1, .int 0), (0, .ref h0)]) hx hb dX4_findLevels_1 rfl hl (by decide) rfl (fun ls hl => ?_)
    exact ht _ _ _ hP hD hS (lv_sub hl [1, 0] rfl)
set_option maxHeartbeats 4000000 in
set_option maxRecDepth 100000 in
theorem c_X4_workOut (l : Launch) (dC : Nat → ClassId) (dI : Nat → Nat → Nat) (cI cJ : ClassId) (h0 : Nat) (agbi : Nat) (agab : Nat) (aghv : Nat) (agic : Nat) (agbe : Nat) (agmt : Nat) (agmv : Nat) (agma : Nat) (agnd : Nat) (agre : Nat) (agse : Nat) (aglv : Nat) (agal : Nat) (agds : Nat) (agno : Nat) (agna : Nat) (xth : Int32) (xnv : Int32) (xna : Int32) (xtl : Int32) (xmk : Int32) (gbi : Nat → Int32) (gab : Nat → Int32) (ghv : Nat → Int32) (gic : Nat → Int32) (gbe : Nat → Int32) (gnd : Nat → Int32) (gre : Nat → Int64) (gse : Nat → Int32) (glv : Nat → Int32) (gal : Nat → Int32) (sz : Nat) (post : (Nat → Int32) → (Nat → Int64) → (Nat → Int32) → (Nat → Int32) → (Nat → Int32) → Prop) (hsp : S_X4_workOut xnv xna gbi gab ghv gic gbe gnd gre gse glv gal post) : Met l yX4_workOut wsX4_workOut ({ frames := 1, cells := 0, slots := 0, locals := 24 }) (va_Pc [.ref h0] (fun U => U.heap.size = sz ∧ va_P (dC, dI) vwCl [(h0, .inr (4, [.int xth, .int xnv, .int xna, .ref agbi, .ref agab, .int xtl, .ref aghv, .ref agic, .ref agbe, .int xmk, .ref agmt, .ref agmv, .ref agma, .ref agnd, .ref agre, .ref agse, .ref aglv, .ref agal, .ref agds, .ref agno, .ref agna])), (agbi, .inl (cI, 60, .inl gbi)), (agab, .inl (cI, 32, .inl gab)), (aghv, .inl (cI, 1920, .inl ghv)), (agic, .inl (cI, 3600, .inl gic)), (agbe, .inl (cI, 3600, .inl gbe)), (agnd, .inl (cI, 60, .inl gnd)), (agre, .inl (cJ, 60, .inr (.inl gre))), (agse, .inl (cI, 60, .inl gse)), (aglv, .inl (cI, 60, .inl glv)), (agal, .inl (cI, 32, .inl gal))] U.heap ∧ va_K (dC, dI) vwCl [(cI, .int), (cJ, .long)] U ∧ va_D (fun _ => True) [(h0, .inr (4, [.int xth, .int xnv, .int xna, .ref agbi, .ref agab, .int xtl, .ref aghv, .ref agic, .ref agbe, .int xmk, .ref agmt, .ref agmv, .ref agma, .ref agnd, .ref agre, .ref agse, .ref aglv, .ref agal, .ref agds, .ref agno, .ref agna])), (agbi, .inl (cI, 60, .inl gbi)), (agab, .inl (cI, 32, .inl gab)), (aghv, .inl (cI, 1920, .inl ghv)), (agic, .inl (cI, 3600, .inl gic)), (agbe, .inl (cI, 3600, .inl gbe)), (agnd, .inl (cI, 60, .inl gnd)), (agre, .inl (cJ, 60, .inr (.inl gre))), (agse, .inl (cI, 60, .inl gse)), (aglv, .inl (cI, 60, .inl glv)), (agal, .inl (cI, 32, .inl gal))] ∧ nw U)) (va_Qv (fun (u : (Nat → Int32) × (Nat → Int64) × (Nat → Int32) × (Nat → Int32) × (Nat → Int32)) => post (u.1) (u.2.1) (u.2.2.1) (u.2.2.2.1) (u.2.2.2.2)) (fun (u : (Nat → Int32) × (Nat → Int64) × (Nat → Int32) × (Nat → Int32) × (Nat → Int32)) (t : State) => va_P (dC, dI) vwCl [(h0, .inr (4, [.int xth, .int xnv, .int xna, .ref agbi, .ref agab, .int xtl, .ref aghv, .ref agic, .ref agbe, .int xmk, .ref agmt, .ref agmv, .ref agma, .ref agnd, .ref agre, .ref agse, .ref aglv, .ref agal, .ref agds, .ref agno, .ref agna])), (agbi, .inl (cI, 60, .inl gbi)), (agab, .inl (cI, 32, .inl gab)), (aghv, .inl (cI, 1920, .inl ghv)), (agic, .inl (cI, 3600, .inl gic)), (agbe, .inl (cI, 3600, .inl gbe)), (agnd, .inl (cI, 60, .inl (u.1))), (agre, .inl (cJ, 60, .inr (.inl (u.2.1)))), (agse, .inl (cI, 60, .inl (u.2.2.1))), (aglv, .inl (cI, 60, .inl (u.2.2.2.1))), (agal, .inl (cI, 32, .inl (u.2.2.2.2)))] t.heap ∧ va_K (dC, dI) vwCl [(cI, .int), (cJ, .long)] t ∧ va_D (va_A [(h0, .inr (4, [.int xth, .int xnv, .int xna, .ref agbi, .ref agab, .int xtl, .ref aghv, .ref agic, .ref agbe, .int xmk, .ref agmt, .ref agmv, .ref agma, .ref agnd, .ref agre, .ref agse, .ref aglv, .ref agal, .ref agds, .ref agno, .ref agna])), (agbi, .inl (cI, 60, .inl gbi)), (agab, .inl (cI, 32, .inl gab)), (aghv, .inl (cI, 1920, .inl ghv)), (agic, .inl (cI, 3600, .inl gic)), (agbe, .inl (cI, 3600, .inl gbe)), (agnd, .inl (cI, 60, .inl gnd)), (agre, .inl (cJ, 60, .inr (.inl gre))), (agse, .inl (cI, 60, .inl gse)), (aglv, .inl (cI, 60, .inl glv)), (agal, .inl (cI, 32, .inl gal))] sz) [(h0, .inr (4, [.int xth, .int xnv, .int xna, .ref agbi, .ref agab, .int xtl, .ref aghv, .ref agic, .ref agbe, .int xmk, .ref agmt, .ref agmv, .ref agma, .ref agnd, .ref agre, .ref agse, .ref aglv, .ref agal, .ref agds, .ref agno, .ref agna])), (agbi, .inl (cI, 60, .inl gbi)), (agab, .inl (cI, 32, .inl gab)), (aghv, .inl (cI, 1920, .inl ghv)), (agic, .inl (cI, 3600, .inl gic)), (agbe, .inl (cI, 3600, .inl gbe)), (agnd, .inl (cI, 60, .inl (u.1))), (agre, .inl (cJ, 60, .inr (.inl (u.2.1)))), (agse, .inl (cI, 60, .inl (u.2.2.1))), (aglv, .inl (cI, 60, .inl (u.2.2.2.1))), (agal, .inl (cI, 32, .inl (u.2.2.2.2)))]) (va_A [(h0, .inr (4, [.int xth, .int xnv, .int xna, .ref agbi, .ref agab, .int xtl, .ref aghv, .ref agic, .ref agbe, .int xmk, .ref agmt, .ref agmv, .ref agma, .ref agnd, .ref agre, .ref agse, .ref aglv, .ref agal, .ref agds, .ref agno, .ref agna])), (agbi, .inl (cI, 60, .inl gbi)), (agab, .inl (cI, 32, .inl gab)), (aghv, .inl (cI, 1920, .inl ghv)), (agic, .inl (cI, 3600, .inl gic)), (agbe, .inl (cI, 3600, .inl gbe)), (agnd, .inl (cI, 60, .inl gnd)), (agre, .inl (cJ, 60, .inr (.inl gre))), (agse, .inl (cI, 60, .inl gse)), (aglv, .inl (cI, 60, .inl glv)), (agal, .inl (cI, 32, .inl gal))] sz)) 0 0 (va_A [(h0, .inr (4, [.int xth, .int xnv, .int xna, .ref agbi, .ref agab, .int xtl, .ref aghv, .ref agic, .ref agbe, .int xmk, .ref agmt, .ref agmv, .ref agma, .ref agnd, .ref agre, .ref agse, .ref aglv, .ref agal, .ref agds, .ref agno, .ref agna])), (agbi, .inl (cI, 60, .inl gbi)), (agab, .inl (cI, 32, .inl gab)), (aghv, .inl (cI, 1920, .inl ghv)), (agic, .inl (cI, 3600, .inl gic)), (agbe, .inl (cI, 3600, .inl gbe)), (agnd, .inl (cI, 60, .inl gnd)), (agre, .inl (cJ, 60, .inr (.inl gre))), (agse, .inl (cI, 60, .inl gse)), (aglv, .inl (cI, 60, .inl glv)), (agal, .inl (cI, 32, .inl gal))] sz) := by
  refine Met.ofW (cc := cX4_workOut) (maxL := 1) (ret := none) (by decide) rfl ?_
  intro p e s m args below meth c s₁ B hml hv
  obtain ⟨rfl, hsz, hP, hK, hD0, hN⟩ := hv
  have hx := B.exec
  have hb := B.bytes
  have hr := B.returns
  have hts := atoms_spec (ws := wsX4_workOut) B.pre
  have hown : s.vm.findClass RX4 = some m.cls := findClass_of_methodNamed B.named
  have hlocks := B.notSynchronized
  subst hsz
  have hD := hD0.self (sz := s.heap.size)
  generalize hAe : va_A [(h0, .inr (4, [.int xth, .int xnv, .int xna, .ref agbi, .ref agab, .int xtl, .ref aghv, .ref agic, .ref agbe, .int xmk, .ref agmt, .ref agmv, .ref agma, .ref agnd, .ref agre, .ref agse, .ref aglv, .ref agal, .ref agds, .ref agno, .ref agna])), (agbi, .inl (cI, 60, .inl gbi)), (agab, .inl (cI, 32, .inl gab)), (aghv, .inl (cI, 1920, .inl ghv)), (agic, .inl (cI, 3600, .inl gic)), (agbe, .inl (cI, 3600, .inl gbe)), (agnd, .inl (cI, 60, .inl gnd)), (agre, .inl (cJ, 60, .inr (.inl gre))), (agse, .inl (cI, 60, .inl gse)), (aglv, .inl (cI, 60, .inl glv)), (agal, .inl (cI, 32, .inl gal))] s.heap.size = A at hD ⊢
  have hA : ∀ q : Nat, s.heap.size ≤ q → A q := fun q h => by rw [← hAe]; exact Or.inr h
  have hS : va_S A s.heap s.heap [] := va_S.rf
  have hl := lv_entry ([.ref h0]) (n := 1) (Nat.le_of_ble_eq_true rfl)
  rw [lg_entry_eq]
  generalize (lg_sl ([.ref h0]) ++ List.replicate (1 - (lg_sl ([.ref h0])).length) Slot.unset).toArray = ls at hl ⊢
  replace hl : lv_has ls 1 [(0, .ref h0)] := hl
  refine hsp _ ?_
  · intro ht
    refine lv_aload_n hx hb dX4_workOut_0 rfl (lv_at hl 0 rfl) ?_
    have hPc := hP.sub (ws' := [(h0, .inr (4, [.int xth, .int xnv, .int xna, .ref agbi, .ref agab, .int xtl, .ref aghv, .ref agic, .ref agbe, .int xmk, .ref agmt, .ref agmv, .ref agma, .ref agnd, .ref agre, .ref agse, .ref aglv, .ref agal, .ref agds, .ref agno, .ref agna])), (agbe, .inl (cI, 3600, .inl gbe)), (agnd, .inl (cI, 60, .inl gnd))]) [0, 5, 6] rfl
    have hDc := hD.sub (ws' := [(h0, .inr (4, [.int xth, .int xnv, .int xna, .ref agbi, .ref agab, .int xtl, .ref aghv, .ref agic, .ref agbe, .int xmk, .ref agmt, .ref agmv, .ref agma, .ref agnd, .ref agre, .ref agse, .ref aglv, .ref agal, .ref agds, .ref agno, .ref agna])), (agbe, .inl (cI, 3600, .inl gbe)), (agnd, .inl (cI, 60, .inl gnd))]) [0, 5, 6] (by decide) rfl
    have hFc := va_free (wc := [(h0, .inr (4, [.int xth, .int xnv, .int xna, .ref agbi, .ref agab, .int xtl, .ref aghv, .ref agic, .ref agbe, .int xmk, .ref agmt, .ref agmv, .ref agma, .ref agnd, .ref agre, .ref agse, .ref aglv, .ref agal, .ref agds, .ref agno, .ref agna])), (agbe, .inl (cI, 3600, .inl gbe)), (agnd, .inl (cI, 60, .inl gnd))]) hD hS hA [0, 5, 6] rfl
    refine va_callv (va_runV (As := []) (rest := []) ⟨hx, hb, hml, hown, hts⟩ (c_X4_findNodes l dC dI cI cJ h0 agbi agab aghv agic agbe agmt agmv agma agnd agre agse aglv agal agds agno agna xth xnv xna xtl xmk gbe gnd s.heap.size _ ht) (cwV 0 hts gX4_workOut_X4_findNodes rfl rfl rfl (by decide +kernel) ⟨Nat.le_of_ble_eq_true rfl, Nat.le_of_ble_eq_true rfl⟩) ⟨fun a U g mk q => by obtain ⟨q0, q1, qP, qK, qD, qN⟩ := q; exact ⟨q0, q1, qP, va_K.moved (u := U) (U := U.calling g mk a) (Vm.Alike.refl U.vm) qK, qD, nw_same rfl qN⟩, va_recv hK hP (ci := 4) (q0 := 0) rfl rfl, fun U hU hW => ⟨rfl, by rw [hU], by rw [hU]; exact hPc, va_K.moved hW.alike hK, hDc.weaken (fun _ _ _ _ => trivial), nw_warm hW hN⟩⟩ rfl rfl hl.1 rfl (lv_room (Nat.le_of_ble_eq_true rfl)) dX4_workOut_1 ⟨Nat.le_of_ble_eq_true rfl, Nat.le_of_ble_eq_true rfl⟩) hS (fun q _ h => hFc q h) hFc (fun u t H1 locs ht9 hvm hw hB hz1 hk1 hS => ?_)
    obtain ⟨gnd_2, rfl⟩ : ∃ z, z = u := ⟨_, rfl⟩
    obtain ⟨hP1, hK1, hD1⟩ := hB
    rw [ht9] at hP1
    try dsimp only at hw
    replace ht := hw
    obtain ⟨hP, hD⟩ := va_join (wr := [(agbi, .inl (cI, 60, .inl gbi)), (agab, .inl (cI, 32, .inl gab)), (aghv, .inl (cI, 1920, .inl ghv)), (agic, .inl (cI, 3600, .inl gic)), (agre, .inl (cJ, 60, .inr (.inl gre))), (agse, .inl (cI, 60, .inl gse)), (aglv, .inl (cI, 60, .inl glv)), (agal, .inl (cI, 32, .inl gal))]) (w1 := [(h0, .inr (4, [.int xth, .int xnv, .int xna, .ref agbi, .ref agab, .int xtl, .ref aghv, .ref agic, .ref agbe, .int xmk, .ref agmt, .ref agmv, .ref agma, .ref agnd, .ref agre, .ref agse, .ref aglv, .ref agal, .ref agds, .ref agno, .ref agna])), (agbe, .inl (cI, 3600, .inl gbe)), (agnd, .inl (cI, 60, .inl gnd_2))]) hP hD [0, 5, 6] [1, 2, 3, 4, 7, 8, 9, 10] rfl rfl (by decide) (by decide) hk1 hFc hP1 hD1
    generalize H1 = H at hP hS ⊢
    replace hP : va_P (dC, dI) vwCl [(agbi, .inl (cI, 60, .inl gbi)), (agab, .inl (cI, 32, .inl gab)), (aghv, .inl (cI, 1920, .inl ghv)), (agic, .inl (cI, 3600, .inl gic)), (agre, .inl (cJ, 60, .inr (.inl gre))), (agse, .inl (cI, 60, .inl gse)), (aglv, .inl (cI, 60, .inl glv)), (agal, .inl (cI, 32, .inl gal)), (h0, .inr (4, [.int xth, .int xnv, .int xna, .ref agbi, .ref agab, .int xtl, .ref aghv, .ref agic, .ref agbe, .int xmk, .ref agmt, .ref agmv, .ref agma, .ref agnd, .ref agre, .ref agse, .ref aglv, .ref agal, .ref agds, .ref agno, .ref agna])), (agbe, .inl (cI, 3600, .inl gbe)), (agnd, .inl (cI, 60, .inl gnd_2))] H := hP
    replace hD : va_D A [(agbi, .inl (cI, 60, .inl gbi)), (agab, .inl (cI, 32, .inl gab)), (aghv, .inl (cI, 1920, .inl ghv)), (agic, .inl (cI, 3600, .inl gic)), (agre, .inl (cJ, 60, .inr (.inl gre))), (agse, .inl (cI, 60, .inl gse)), (aglv, .inl (cI, 60, .inl glv)), (agal, .inl (cI, 32, .inl gal)), (h0, .inr (4, [.int xth, .int xnv, .int xna, .ref agbi, .ref agab, .int xtl, .ref aghv, .ref agic, .ref agbe, .int xmk, .ref agmt, .ref agmv, .ref agma, .ref agnd, .ref agre, .ref agse, .ref aglv, .ref agal, .ref agds, .ref agno, .ref agna])), (agbe, .inl (cI, 3600, .inl gbe)), (agnd, .inl (cI, 60, .inl gnd_2))] := hD
    refine lv_aload_n hx hb dX4_workOut_4 rfl (lv_at hl 0 rfl) ?_
    have hPc := hP.sub (ws' := [(h0, .inr (4, [.int xth, .int xnv, .int xna, .ref agbi, .ref agab, .int xtl, .ref aghv, .ref agic, .ref agbe, .int xmk, .ref agmt, .ref agmv, .ref agma, .ref agnd, .ref agre, .ref agse, .ref aglv, .ref agal, .ref agds, .ref agno, .ref agna])), (agic, .inl (cI, 3600, .inl gic)), (agnd, .inl (cI, 60, .inl gnd_2)), (agre, .inl (cJ, 60, .inr (.inl gre)))]) [8, 3, 10, 4] rfl
    have hDc := hD.sub (ws' := [(h0, .inr (4, [.int xth, .int xnv, .int xna, .ref agbi, .ref agab, .int xtl, .ref aghv, .ref agic, .ref agbe, .int xmk, .ref agmt, .ref agmv, .ref agma, .ref agnd, .ref agre, .ref agse, .ref aglv, .ref agal, .ref agds, .ref agno, .ref agna])), (agic, .inl (cI, 3600, .inl gic)), (agnd, .inl (cI, 60, .inl gnd_2)), (agre, .inl (cJ, 60, .inr (.inl gre)))]) [8, 3, 10, 4] (by decide) rfl
    have hFc := va_free (wc := [(h0, .inr (4, [.int xth, .int xnv, .int xna, .ref agbi, .ref agab, .int xtl, .ref aghv, .ref agic, .ref agbe, .int xmk, .ref agmt, .ref agmv, .ref agma, .ref agnd, .ref agre, .ref agse, .ref aglv, .ref agal, .ref agds, .ref agno, .ref agna])), (agic, .inl (cI, 3600, .inl gic)), (agnd, .inl (cI, 60, .inl gnd_2)), (agre, .inl (cJ, 60, .inr (.inl gre)))]) hD hS hA [8, 3, 10, 4] rfl
    refine va_callv (va_runV (As := []) (rest := []) ⟨hx, hb, hml, hown, hts⟩ (c_X4_findReach l dC dI cI cJ h0 agbi agab aghv agic agbe agmt agmv agma agnd agre agse aglv agal agds agno agna xth xnv xna xtl xmk gic gnd_2 gre H.size _ ht) (cwV 0 hts gX4_workOut_X4_findReach rfl rfl rfl (by decide +kernel) ⟨Nat.le_of_ble_eq_true rfl, Nat.le_of_ble_eq_true rfl⟩) ⟨fun a U g mk q => by obtain ⟨q0, q1, qP, qK, qD, qN⟩ := q; exact ⟨q0, q1, qP, va_K.moved (u := U) (U := U.calling g mk a) (Vm.Alike.refl U.vm) qK, qD, nw_same rfl qN⟩, va_recv hK hP (ci := 4) (q0 := 8) rfl rfl, fun U hU hW => ⟨rfl, by rw [hU], by rw [hU]; exact hPc, va_K.moved hW.alike hK, hDc.weaken (fun _ _ _ _ => trivial), nw_warm hW hN⟩⟩ rfl rfl hl.1 rfl (lv_room (Nat.le_of_ble_eq_true rfl)) dX4_workOut_5 ⟨Nat.le_of_ble_eq_true rfl, Nat.le_of_ble_eq_true rfl⟩) hS (fun q _ h => hFc q h) hFc (fun u t H1 locs ht9 hvm hw hB hz1 hk1 hS => ?_)
    obtain ⟨gre_4, rfl⟩ : ∃ z, z = u := ⟨_, rfl⟩
    obtain ⟨hP1, hK1, hD1⟩ := hB
    rw [ht9] at hP1
    try dsimp only at hw
    replace ht := hw
    obtain ⟨hP, hD⟩ := va_join (wr := [(agbi, .inl (cI, 60, .inl gbi)), (agab, .inl (cI, 32, .inl gab)), (aghv, .inl (cI, 1920, .inl ghv)), (agse, .inl (cI, 60, .inl gse)), (aglv, .inl (cI, 60, .inl glv)), (agal, .inl (cI, 32, .inl gal)), (agbe, .inl (cI, 3600, .inl gbe))]) (w1 := [(h0, .inr (4, [.int xth, .int xnv, .int xna, .ref agbi, .ref agab, .int xtl, .ref aghv, .ref agic, .ref agbe, .int xmk, .ref agmt, .ref agmv, .ref agma, .ref agnd, .ref agre, .ref agse, .ref aglv, .ref agal, .ref agds, .ref agno, .ref agna])), (agic, .inl (cI, 3600, .inl gic)), (agnd, .inl (cI, 60, .inl gnd_2)), (agre, .inl (cJ, 60, .inr (.inl gre_4)))]) hP hD [8, 3, 10, 4] [0, 1, 2, 5, 6, 7, 9] rfl rfl (by decide) (by decide) hk1 hFc hP1 hD1
    generalize H1 = H at hP hS ⊢
    replace hP : va_P (dC, dI) vwCl [(agbi, .inl (cI, 60, .inl gbi)), (agab, .inl (cI, 32, .inl gab)), (aghv, .inl (cI, 1920, .inl ghv)), (agse, .inl (cI, 60, .inl gse)), (aglv, .inl (cI, 60, .inl glv)), (agal, .inl (cI, 32, .inl gal)), (agbe, .inl (cI, 3600, .inl gbe)), (h0, .inr (4, [.int xth, .int xnv, .int xna, .ref agbi, .ref agab, .int xtl, .ref aghv, .ref agic, .ref agbe, .int xmk, .ref agmt, .ref agmv, .ref agma, .ref agnd, .ref agre, .ref agse, .ref aglv, .ref agal, .ref agds, .ref agno, .ref agna])), (agic, .inl (cI, 3600, .inl gic)), (agnd, .inl (cI, 60, .inl gnd_2)), (agre, .inl (cJ, 60, .inr (.inl gre_4)))] H := hP
    replace hD : va_D A [(agbi, .inl (cI, 60, .inl gbi)), (agab, .inl (cI, 32, .inl gab)), (aghv, .inl (cI, 1920, .inl ghv)), (agse, .inl (cI, 60, .inl gse)), (aglv, .inl (cI, 60, .inl glv)), (agal, .inl (cI, 32, .inl gal)), (agbe, .inl (cI, 3600, .inl gbe)), (h0, .inr (4, [.int xth, .int xnv, .int xna, .ref agbi, .ref agab, .int xtl, .ref aghv, .ref agic, .ref agbe, .int xmk, .ref agmt, .ref agmv, .ref agma, .ref agnd, .ref agre, .ref agse, .ref aglv, .ref agal, .ref agds, .ref agno, .ref agna])), (agic, .inl (cI, 3600, .inl gic)), (agnd, .inl (cI, 60, .inl gnd_2)), (agre, .inl (cJ, 60, .inr (.inl gre_4)))] := hD
    refine lv_aload_n hx hb dX4_workOut_8 rfl (lv_at hl 0 rfl) ?_
    have hPc := hP.sub (ws' := [(h0, .inr (4, [.int xth, .int xnv, .int xna, .ref agbi, .ref agab, .int xtl, .ref aghv, .ref agic, .ref agbe, .int xmk, .ref agmt, .ref agmv, .ref agma, .ref agnd, .ref agre, .ref agse, .ref aglv, .ref agal, .ref agds, .ref agno, .ref agna])), (aghv, .inl (cI, 1920, .inl ghv)), (agnd, .inl (cI, 60, .inl gnd_2)), (agre, .inl (cJ, 60, .inr (.inl gre_4))), (agse, .inl (cI, 60, .inl gse))]) [7, 2, 9, 10, 3] rfl
    have hDc := hD.sub (ws' := [(h0, .inr (4, [.int xth, .int xnv, .int xna, .ref agbi, .ref agab, .int xtl, .ref aghv, .ref agic, .ref agbe, .int xmk, .ref agmt, .ref agmv, .ref agma, .ref agnd, .ref agre, .ref agse, .ref aglv, .ref agal, .ref agds, .ref agno, .ref agna])), (aghv, .inl (cI, 1920, .inl ghv)), (agnd, .inl (cI, 60, .inl gnd_2)), (agre, .inl (cJ, 60, .inr (.inl gre_4))), (agse, .inl (cI, 60, .inl gse))]) [7, 2, 9, 10, 3] (by decide) rfl
    have hFc := va_free (wc := [(h0, .inr (4, [.int xth, .int xnv, .int xna, .ref agbi, .ref agab, .int xtl, .ref aghv, .ref agic, .ref agbe, .int xmk, .ref agmt, .ref agmv, .ref agma, .ref agnd, .ref agre, .ref agse, .ref aglv, .ref agal, .ref agds, .ref agno, .ref agna])), (aghv, .inl (cI, 1920, .inl ghv)), (agnd, .inl (cI, 60, .inl gnd_2)), (agre, .inl (cJ, 60, .inr (.inl gre_4))), (agse, .inl (cI, 60, .inl gse))]) hD hS hA [7, 2, 9, 10, 3] rfl
    refine va_callv (va_runV (As := []) (rest := []) ⟨hx, hb, hml, hown, hts⟩ (c_X4_findSets l dC dI cI cJ h0 agbi agab aghv agic agbe agmt agmv agma agnd agre agse aglv agal agds agno agna xth xnv xna xtl xmk ghv gnd_2 gre_4 gse H.size _ ht) (cwV 0 hts gX4_workOut_X4_findSets rfl rfl rfl (by decide +kernel) ⟨Nat.le_of_ble_eq_true rfl, Nat.le_of_ble_eq_true rfl⟩) ⟨fun a U g mk q => by obtain ⟨q0, q1, qP, qK, qD, qN⟩ := q; exact ⟨q0, q1, qP, va_K.moved (u := U) (U := U.calling g mk a) (Vm.Alike.refl U.vm) qK, qD, nw_same rfl qN⟩, va_recv hK hP (ci := 4) (q0 := 7) rfl rfl, fun U hU hW => ⟨rfl, by rw [hU], by rw [hU]; exact hPc, va_K.moved hW.alike hK, hDc.weaken (fun _ _ _ _ => trivial), nw_warm hW hN⟩⟩ rfl rfl hl.1 rfl (lv_room (Nat.le_of_ble_eq_true rfl)) dX4_workOut_9 ⟨Nat.le_of_ble_eq_true rfl, Nat.le_of_ble_eq_true rfl⟩) hS (fun q _ h => hFc q h) hFc (fun u t H1 locs ht9 hvm hw hB hz1 hk1 hS => ?_)
    obtain ⟨gse_6, rfl⟩ : ∃ z, z = u := ⟨_, rfl⟩
    obtain ⟨hP1, hK1, hD1⟩ := hB
    rw [ht9] at hP1
    try dsimp only at hw
    replace ht := hw
    obtain ⟨hP, hD⟩ := va_join (wr := [(agbi, .inl (cI, 60, .inl gbi)), (agab, .inl (cI, 32, .inl gab)), (aglv, .inl (cI, 60, .inl glv)), (agal, .inl (cI, 32, .inl gal)), (agbe, .inl (cI, 3600, .inl gbe)), (agic, .inl (cI, 3600, .inl gic))]) (w1 := [(h0, .inr (4, [.int xth, .int xnv, .int xna, .ref agbi, .ref agab, .int xtl, .ref aghv, .ref agic, .ref agbe, .int xmk, .ref agmt, .ref agmv, .ref agma, .ref agnd, .ref agre, .ref agse, .ref aglv, .ref agal, .ref agds, .ref agno, .ref agna])), (aghv, .inl (cI, 1920, .inl ghv)), (agnd, .inl (cI, 60, .inl gnd_2)), (agre, .inl (cJ, 60, .inr (.inl gre_4))), (agse, .inl (cI, 60, .inl gse_6))]) hP hD [7, 2, 9, 10, 3] [0, 1, 4, 5, 6, 8] rfl rfl (by decide) (by decide) hk1 hFc hP1 hD1
    generalize H1 = H at hP hS ⊢
    replace hP : va_P (dC, dI) vwCl [(agbi, .inl (cI, 60, .inl gbi)), (agab, .inl (cI, 32, .inl gab)), (aglv, .inl (cI, 60, .inl glv)), (agal, .inl (cI, 32, .inl gal)), (agbe, .inl (cI, 3600, .inl gbe)), (agic, .inl (cI, 3600, .inl gic)), (h0, .inr (4, [.int xth, .int xnv, .int xna, .ref agbi, .ref agab, .int xtl, .ref aghv, .ref agic, .ref agbe, .int xmk, .ref agmt, .ref agmv, .ref agma, .ref agnd, .ref agre, .ref agse, .ref aglv, .ref agal, .ref agds, .ref agno, .ref agna])), (aghv, .inl (cI, 1920, .inl ghv)), (agnd, .inl (cI, 60, .inl gnd_2)), (agre, .inl (cJ, 60, .inr (.inl gre_4))), (agse, .inl (cI, 60, .inl gse_6))] H := hP
    replace hD : va_D A [(agbi, .inl (cI, 60, .inl gbi)), (agab, .inl (cI, 32, .inl gab)), (aglv, .inl (cI, 60, .inl glv)), (agal, .inl (cI, 32, .inl gal)), (agbe, .inl (cI, 3600, .inl gbe)), (agic, .inl (cI, 3600, .inl gic)), (h0, .inr (4, [.int xth, .int xnv, .int xna, .ref agbi, .ref agab, .int xtl, .ref aghv, .ref agic, .ref agbe, .int xmk, .ref agmt, .ref agmv, .ref agma, .ref agnd, .ref agre, .ref agse, .ref aglv, .ref agal, .ref agds, .ref agno, .ref agna])), (aghv, .inl (cI, 1920, .inl ghv)), (agnd, .inl (cI, 60, .inl gnd_2)), (agre, .inl (cJ, 60, .inr (.inl gre_4))), (agse, .inl (cI, 60, .inl gse_6))] := hD
    refine lv_aload_n hx hb dX4_workOut_12 rfl (lv_at hl 0 rfl) ?_
    have hPc := hP.sub (ws' := [(h0, .inr (4, [.int xth, .int xnv, .int xna, .ref agbi, .ref agab, .int xtl, .ref aghv, .ref agic, .ref agbe, .int xmk, .ref agmt, .ref agmv, .ref agma, .ref agnd, .ref agre, .ref agse, .ref aglv, .ref agal, .ref agds, .ref agno, .ref agna])), (agbi, .inl (cI, 60, .inl gbi)), (agab, .inl (cI, 32, .inl gab)), (aghv, .inl (cI, 1920, .inl ghv)), (agnd, .inl (cI, 60, .inl gnd_2)), (agre, .inl (cJ, 60, .inr (.inl gre_4))), (aglv, .inl (cI, 60, .inl glv)), (agal, .inl (cI, 32, .inl gal))]) [6, 0, 1, 7, 8, 9, 2, 3] rfl
    have hDc := hD.sub (ws' := [(h0, .inr (4, [.int xth, .int xnv, .int xna, .ref agbi, .ref agab, .int xtl, .ref aghv, .ref agic, .ref agbe, .int xmk, .ref agmt, .ref agmv, .ref agma, .ref agnd, .ref agre, .ref agse, .ref aglv, .ref agal, .ref agds, .ref agno, .ref agna])), (agbi, .inl (cI, 60, .inl gbi)), (agab, .inl (cI, 32, .inl gab)), (aghv, .inl (cI, 1920, .inl ghv)), (agnd, .inl (cI, 60, .inl gnd_2)), (agre, .inl (cJ, 60, .inr (.inl gre_4))), (aglv, .inl (cI, 60, .inl glv)), (agal, .inl (cI, 32, .inl gal))]) [6, 0, 1, 7, 8, 9, 2, 3] (by decide) rfl
    have hFc := va_free (wc := [(h0, .inr (4, [.int xth, .int xnv, .int xna, .ref agbi, .ref agab, .int xtl, .ref aghv, .ref agic, .ref agbe, .int xmk, .ref agmt, .ref agmv, .ref agma, .ref agnd, .ref agre, .ref agse, .ref aglv, .ref agal, .ref agds, .ref agno, .ref agna])), (agbi, .inl (cI, 60, .inl gbi)), (agab, .inl (cI, 32, .inl gab)), (aghv, .inl (cI, 1920, .inl ghv)), (agnd, .inl (cI, 60, .inl gnd_2)), (agre, .inl (cJ, 60, .inr (.inl gre_4))), (aglv, .inl (cI, 60, .inl glv)), (agal, .inl (cI, 32, .inl gal))]) hD hS hA [6, 0, 1, 7, 8, 9, 2, 3] rfl
    refine va_callv (va_runV (As := []) (rest := []) ⟨hx, hb, hml, hown, hts⟩ (c_X4_findLevels l dC dI cI cJ h0 agbi agab aghv agic agbe agmt agmv agma agnd agre agse aglv agal agds agno agna xth xnv xna xtl xmk gbi gab ghv gnd_2 gre_4 glv gal H.size _ ht) (cwV 0 hts gX4_workOut_X4_findLevels rfl rfl rfl (by decide +kernel) ⟨Nat.le_of_ble_eq_true rfl, Nat.le_of_ble_eq_true rfl⟩) ⟨fun a U g mk q => by obtain ⟨q0, q1, qP, qK, qD, qN⟩ := q; exact ⟨q0, q1, qP, va_K.moved (u := U) (U := U.calling g mk a) (Vm.Alike.refl U.vm) qK, qD, nw_same rfl qN⟩, va_recv hK hP (ci := 4) (q0 := 6) rfl rfl, fun U hU hW => ⟨rfl, by rw [hU], by rw [hU]; exact hPc, va_K.moved hW.alike hK, hDc.weaken (fun _ _ _ _ => trivial), nw_warm hW hN⟩⟩ rfl rfl hl.1 rfl (lv_room (Nat.le_of_ble_eq_true rfl)) dX4_workOut_13 ⟨Nat.le_of_ble_eq_true rfl, Nat.le_of_ble_eq_true rfl⟩) hS (fun q _ h => hFc q h) hFc (fun u t H1 locs ht9 hvm hw hB hz1 hk1 hS => ?_)
    obtain ⟨glv_8, gal_9⟩ := u
    obtain ⟨hP1, hK1, hD1⟩ := hB
    rw [ht9] at hP1
    try dsimp only at hw
    replace ht := hw
    obtain ⟨hP, hD⟩ := va_join (wr := [(agbe, .inl (cI, 3600, .inl gbe)), (agic, .inl (cI, 3600, .inl gic)), (agse, .inl (cI, 60, .inl gse_6))]) (w1 := [(h0, .inr (4, [.int xth, .int xnv, .int xna, .ref agbi, .ref agab, .int xtl, .ref aghv, .ref agic, .ref agbe, .int xmk, .ref agmt, .ref agmv, .ref agma, .ref agnd, .ref agre, .ref agse, .ref aglv, .ref agal, .ref agds, .ref agno, .ref agna])), (agbi, .inl (cI, 60, .inl gbi)), (agab, .inl (cI, 32, .inl gab)), (aghv, .inl (cI, 1920, .inl ghv)), (agnd, .inl (cI, 60, .inl gnd_2)), (agre, .inl (cJ, 60, .inr (.inl gre_4))), (aglv, .inl (cI, 60, .inl glv_8)), (agal, .inl (cI, 32, .inl gal_9))]) hP hD [6, 0, 1, 7, 8, 9, 2, 3] [4, 5, 10] rfl rfl (by decide) (by decide) hk1 hFc hP1 hD1
    generalize H1 = H at hP hS ⊢
    replace hP : va_P (dC, dI) vwCl [(agbe, .inl (cI, 3600, .inl gbe)), (agic, .inl (cI, 3600, .inl gic)), (agse, .inl (cI, 60, .inl gse_6)), (h0, .inr (4, [.int xth, .int xnv, .int xna, .ref agbi, .ref agab, .int xtl, .ref aghv, .ref agic, .ref agbe, .int xmk, .ref agmt, .ref agmv, .ref agma, .ref agnd, .ref agre, .ref agse, .ref aglv, .ref agal, .ref agds, .ref agno, .ref agna])), (agbi, .inl (cI, 60, .inl gbi)), (agab, .inl (cI, 32, .inl gab)), (aghv, .inl (cI, 1920, .inl ghv)), (agnd, .inl (cI, 60, .inl gnd_2)), (agre, .inl (cJ, 60, .inr (.inl gre_4))), (aglv, .inl (cI, 60, .inl glv_8)), (agal, .inl (cI, 32, .inl gal_9))] H := hP
    replace hD : va_D A [(agbe, .inl (cI, 3600, .inl gbe)), (agic, .inl (cI, 3600, .inl gic)), (agse, .inl (cI, 60, .inl gse_6)), (h0, .inr (4, [.int xth, .int xnv, .int xna, .ref agbi, .ref agab, .int xtl, .ref aghv, .ref agic, .ref agbe, .int xmk, .ref agmt, .ref agmv, .ref agma, .ref agnd, .ref agre, .ref agse, .ref aglv, .ref agal, .ref agds, .ref agno, .ref agna])), (agbi, .inl (cI, 60, .inl gbi)), (agab, .inl (cI, 32, .inl gab)), (aghv, .inl (cI, 1920, .inl ghv)), (agnd, .inl (cI, 60, .inl gnd_2)), (agre, .inl (cJ, 60, .inr (.inl gre_4))), (aglv, .inl (cI, 60, .inl glv_8)), (agal, .inl (cI, 32, .inl gal_9))] := hD
    have hP9 : va_P (dC, dI) vwCl [(h0, .inr (4, [.int xth, .int xnv, .int xna, .ref agbi, .ref agab, .int xtl, .ref aghv, .ref agic, .ref agbe, .int xmk, .ref agmt, .ref agmv, .ref agma, .ref agnd, .ref agre, .ref agse, .ref aglv, .ref agal, .ref agds, .ref agno, .ref agna])), (agbi, .inl (cI, 60, .inl gbi)), (agab, .inl (cI, 32, .inl gab)), (aghv, .inl (cI, 1920, .inl ghv)), (agic, .inl (cI, 3600, .inl gic)), (agbe, .inl (cI, 3600, .inl gbe)), (agnd, .inl (cI, 60, .inl gnd_2)), (agre, .inl (cJ, 60, .inr (.inl gre_4))), (agse, .inl (cI, 60, .inl gse_6)), (aglv, .inl (cI, 60, .inl glv_8)), (agal, .inl (cI, 32, .inl gal_9))] _ := (hP.sub [3, 4, 5, 6, 1, 0, 7, 8, 2, 9, 10] rfl)
    have hD9 : va_D A [(h0, .inr (4, [.int xth, .int xnv, .int xna, .ref agbi, .ref agab, .int xtl, .ref aghv, .ref agic, .ref agbe, .int xmk, .ref agmt, .ref agmv, .ref agma, .ref agnd, .ref agre, .ref agse, .ref aglv, .ref agal, .ref agds, .ref agno, .ref agna])), (agbi, .inl (cI, 60, .inl gbi)), (agab, .inl (cI, 32, .inl gab)), (aghv, .inl (cI, 1920, .inl ghv)), (agic, .inl (cI, 3600, .inl gic)), (agbe, .inl (cI, 3600, .inl gbe)), (agnd, .inl (cI, 60, .inl gnd_2)), (agre, .inl (cJ, 60, .inr (.inl gre_4))), (agse, .inl (cI, 60, .inl gse_6)), (aglv, .inl (cI, 60, .inl glv_8)), (agal, .inl (cI, 32, .inl gal_9))] := (hD.sub [3, 4, 5, 6, 1, 0, 7, 8, 2, 9, 10] (by decide) rfl)
    exact W.vret hx hb hr (fun t ht9 hW => ⟨⟨(gnd_2, gre_4, gse_6, glv_8, gal_9), rfl, ht, by rw [ht9]; exact hP9, va_K.moved hW.alike hK, hD9⟩, hS.F ht9⟩) hS.2.2 dX4_workOut_16
set_option maxHeartbeats 4000000 in
set_option maxRecDepth 100000 in
theorem c_X4_size (l : Launch) (dC : Nat → ClassId) (dI : Nat → Nat → Nat) (cI cJ : ClassId) (h0 : Nat) (sz : Nat) (p1 : Int32) (post : Int32 → Prop) (hsp : S_X4_size p1 post) : Met l yX4_size wsX4_size ({ frames := 0, cells := 0, slots := 0, locals := 0 }) (va_Pc [.ref h0, .int p1] (fun U => U.heap.size = sz ∧ va_P (dC, dI) vwCl [] U.heap ∧ va_K (dC, dI) vwCl [(cI, .int), (cJ, .long)] U ∧ va_D (fun _ => True) [] ∧ nw U)) (va_Qi (fun (r : Int32) (u : Unit) => post r) (fun (u : Unit) (t : State) => va_P (dC, dI) vwCl [] t.heap ∧ va_K (dC, dI) vwCl [(cI, .int), (cJ, .long)] t ∧ va_D (va_A [] sz) []) (va_A [] sz)) 0 0 (va_A [] sz) := by
  refine Met.ofW (cc := cX4_size) (maxL := 4) (ret := (some .int)) (by decide) rfl ?_
  intro p e s m args below meth c s₁ B hml hv
  obtain ⟨rfl, hsz, hP, hK, hD0, hN⟩ := hv
  have hx := B.exec
  have hb := B.bytes
  have hr := B.returns
  have hts := atoms_spec (ws := wsX4_size) B.pre
  have hown : s.vm.findClass RX4 = some m.cls := findClass_of_methodNamed B.named
  have hlocks := B.notSynchronized
  subst hsz
  have hD := hD0.self (sz := s.heap.size)
  generalize hAe : va_A [] s.heap.size = A at hD ⊢
  have hA : ∀ q : Nat, s.heap.size ≤ q → A q := fun q h => by rw [← hAe]; exact Or.inr h
  have hS : va_S A s.heap s.heap [] := va_S.rf
  have hl := lv_entry ([.ref h0, .int p1]) (n := 4) (Nat.le_of_ble_eq_true rfl)
  rw [lg_entry_eq]
  generalize (lg_sl ([.ref h0, .int p1]) ++ List.replicate (4 - (lg_sl ([.ref h0, .int p1])).length) Slot.unset).toArray = ls at hl ⊢
  replace hl : lv_has ls 4 [(0, .ref h0), (1, .int p1)] := hl
  refine hsp _ (fun (x2 : Int32) (x3 : Int32) => ∀ (H : Heap) (locs : List Loc) (ls : Array Slot), va_P (dC, dI) vwCl [] H → va_D A [] → va_S A s.heap H locs → lv_has ls 4 [(1, .int p1), (2, .int x2), (3, .int x3)] → W p l e (headSpec wsX4_size ({ frames := 0, cells := 0, slots := 0, locals := 0 })).room s m (List.toArray [.ref h0, .int p1]) below meth c H locs 0 0 (MQ below (va_Qi (fun (r : Int32) (u : Unit) => post r) (fun (u : Unit) (t : State) => va_P (dC, dI) vwCl [] t.heap ∧ va_K (dC, dI) vwCl [(cI, .int), (cJ, .long)] t ∧ va_D A []) A) (List.toArray [.ref h0, .int p1]) s 0 0 A) (F0 m 4 ls [])) ?_ ?_
  · intro x2 x3 ht H locs ls hP hD hS hl
    refine lv_iload_n hx hb dX4_size_4 rfl (lv_at hl 2 rfl) ?_
    refine lv_bipush (v := 32) hx hb dX4_size_5 (by decide) ?_
    refine lv_icmp_ge (tgt := 24) hx hb dX4_size_7 (by decide) (fun c1 => ?_) (fun c1 => ?_)
    · replace ht := ht.1 c1
      refine lv_iload_n hx hb dX4_size_24 rfl (lv_at hl 1 rfl) ?_
      have hP9 : va_P (dC, dI) vwCl [] _ := hP
      have hD9 : va_D A [] := hD
      exact W.iret (v := x2) hx hb hr (fun t ht9 hW => ⟨⟨x2, (), rfl, ht, by rw [ht9]; exact hP9, va_K.moved hW.alike hK, hD9⟩, hS.F ht9⟩) hS.2.2 dX4_size_25
    · replace ht := ht.2 c1
      refine lv_iload_n hx hb dX4_size_10 rfl (lv_at hl 1 rfl) ?_
      refine lv_iload_n hx hb dX4_size_11 rfl (lv_at hl 0 rfl) ?_
      refine lv_iload_n hx hb dX4_size_12 rfl (lv_at hl 2 rfl) ?_
      refine lv_ishr hx hb dX4_size_13 ?_
      refine lv_iconst (v := 1) hx hb dX4_size_14 (by decide) ?_
      refine lv_iand hx hb dX4_size_15 ?_
      refine lv_iadd hx hb dX4_size_16 ?_
      refine lv_topi (fun y2 ey2 => ?_)
      replace ht := ht y2 ey2
      refine lv_istore_n (lv' := [(2, .int y2), (1, .int p1), (3, .int x3)]) hx hb dX4_size_17 rfl hl (by decide) rfl (fun ls hl => ?_)
      obtain ⟨y3, ey3⟩ : ∃ y : Int32, y = x3 + 1 := ⟨_, rfl⟩
      replace ht := ht y3 ey3
      refine lv_iinc (v := y3) (lv' := [(3, .int y3), (2, .int y2), (1, .int p1)]) hx hb dX4_size_18 hl (k := 2) rfl (by rw [ey3]; rfl) (by decide) rfl (fun ls hl => ?_)
      refine lv_goto (tgt := 4) hx hb dX4_size_21 (by decide) ?_
      exact ht _ _ _ hP hD hS (lv_sub hl [2, 1, 0] rfl)
  · intro ht
    refine lv_iconst (v := 0) hx hb dX4_size_0 (by decide) ?_
    refine lv_istore_n (lv' := [(2, .int 0), (0, .ref h0), (1, .int p1)]) hx hb dX4_size_1 rfl hl (by decide) rfl (fun ls hl => ?_)
    refine lv_iconst (v := 0) hx hb dX4_size_2 (by decide) ?_
    refine lv_istore_n (lv' := [(3, .int 0), (2, .int 0), (0, .ref h0), (1, .int p1)]) hx hb dX4_size_3 rfl hl (by decide) rfl (fun ls hl => ?_)
    exact ht _ _ _ hP hD hS (lv_sub hl [3, 1, 0] rfl)
set_option maxHeartbeats 4000000 in
set_option maxRecDepth 100000 in
theorem c_X4_inSets (l : Launch) (dC : Nat → ClassId) (dI : Nat → Nat → Nat) (cI cJ : ClassId) (h0 : Nat) (agbi : Nat) (agab : Nat) (aghv : Nat) (agic : Nat) (agbe : Nat) (agmt : Nat) (agmv : Nat) (agma : Nat) (agnd : Nat) (agre : Nat) (agse : Nat) (aglv : Nat) (agal : Nat) (agds : Nat) (agno : Nat) (agna : Nat) (xth : Int32) (xnv : Int32) (xna : Int32) (xtl : Int32) (xmk : Int32) (gse : Nat → Int32) (sz : Nat) (post : Int32 → Prop) (hsp : S_X4_inSets xnv gse post) : Met l yX4_inSets wsX4_inSets ({ frames := 1, cells := 0, slots := 0, locals := 23 }) (va_Pc [.ref h0] (fun U => U.heap.size = sz ∧ va_P (dC, dI) vwCl [(h0, .inr (4, [.int xth, .int xnv, .int xna, .ref agbi, .ref agab, .int xtl, .ref aghv, .ref agic, .ref agbe, .int xmk, .ref agmt, .ref agmv, .ref agma, .ref agnd, .ref agre, .ref agse, .ref aglv, .ref agal, .ref agds, .ref agno, .ref agna])), (agse, .inl (cI, 60, .inl gse))] U.heap ∧ va_K (dC, dI) vwCl [(cI, .int), (cJ, .long)] U ∧ va_D (fun _ => True) [(h0, .inr (4, [.int xth, .int xnv, .int xna, .ref agbi, .ref agab, .int xtl, .ref aghv, .ref agic, .ref agbe, .int xmk, .ref agmt, .ref agmv, .ref agma, .ref agnd, .ref agre, .ref agse, .ref aglv, .ref agal, .ref agds, .ref agno, .ref agna])), (agse, .inl (cI, 60, .inl gse))] ∧ nw U)) (va_Qi (fun (r : Int32) (u : Unit) => post r) (fun (u : Unit) (t : State) => va_P (dC, dI) vwCl [(h0, .inr (4, [.int xth, .int xnv, .int xna, .ref agbi, .ref agab, .int xtl, .ref aghv, .ref agic, .ref agbe, .int xmk, .ref agmt, .ref agmv, .ref agma, .ref agnd, .ref agre, .ref agse, .ref aglv, .ref agal, .ref agds, .ref agno, .ref agna])), (agse, .inl (cI, 60, .inl gse))] t.heap ∧ va_K (dC, dI) vwCl [(cI, .int), (cJ, .long)] t ∧ va_D (va_A [(h0, .inr (4, [.int xth, .int xnv, .int xna, .ref agbi, .ref agab, .int xtl, .ref aghv, .ref agic, .ref agbe, .int xmk, .ref agmt, .ref agmv, .ref agma, .ref agnd, .ref agre, .ref agse, .ref aglv, .ref agal, .ref agds, .ref agno, .ref agna])), (agse, .inl (cI, 60, .inl gse))] sz) [(h0, .inr (4, [.int xth, .int xnv, .int xna, .ref agbi, .ref agab, .int xtl, .ref aghv, .ref agic, .ref agbe, .int xmk, .ref agmt, .ref agmv, .ref agma, .ref agnd, .ref agre, .ref agse, .ref aglv, .ref agal, .ref agds, .ref agno, .ref agna])), (agse, .inl (cI, 60, .inl gse))]) (va_A [(h0, .inr (4, [.int xth, .int xnv, .int xna, .ref agbi, .ref agab, .int xtl, .ref aghv, .ref agic, .ref agbe, .int xmk, .ref agmt, .ref agmv, .ref agma, .ref agnd, .ref agre, .ref agse, .ref aglv, .ref agal, .ref agds, .ref agno, .ref agna])), (agse, .inl (cI, 60, .inl gse))] sz)) 0 0 (va_A [(h0, .inr (4, [.int xth, .int xnv, .int xna, .ref agbi, .ref agab, .int xtl, .ref aghv, .ref agic, .ref agbe, .int xmk, .ref agmt, .ref agmv, .ref agma, .ref agnd, .ref agre, .ref agse, .ref aglv, .ref agal, .ref agds, .ref agno, .ref agna])), (agse, .inl (cI, 60, .inl gse))] sz) := by
  refine Met.ofW (cc := cX4_inSets) (maxL := 3) (ret := (some .int)) (by decide) rfl ?_
  intro p e s m args below meth c s₁ B hml hv
  obtain ⟨rfl, hsz, hP, hK, hD0, hN⟩ := hv
  have hx := B.exec
  have hb := B.bytes
  have hr := B.returns
  have hts := atoms_spec (ws := wsX4_inSets) B.pre
  have hown : s.vm.findClass RX4 = some m.cls := findClass_of_methodNamed B.named
  have hlocks := B.notSynchronized
  subst hsz
  have hD := hD0.self (sz := s.heap.size)
  generalize hAe : va_A [(h0, .inr (4, [.int xth, .int xnv, .int xna, .ref agbi, .ref agab, .int xtl, .ref aghv, .ref agic, .ref agbe, .int xmk, .ref agmt, .ref agmv, .ref agma, .ref agnd, .ref agre, .ref agse, .ref aglv, .ref agal, .ref agds, .ref agno, .ref agna])), (agse, .inl (cI, 60, .inl gse))] s.heap.size = A at hD ⊢
  have hA : ∀ q : Nat, s.heap.size ≤ q → A q := fun q h => by rw [← hAe]; exact Or.inr h
  have hS : va_S A s.heap s.heap [] := va_S.rf
  have hl := lv_entry ([.ref h0]) (n := 3) (Nat.le_of_ble_eq_true rfl)
  rw [lg_entry_eq]
  generalize (lg_sl ([.ref h0]) ++ List.replicate (3 - (lg_sl ([.ref h0])).length) Slot.unset).toArray = ls at hl ⊢
  replace hl : lv_has ls 3 [(0, .ref h0)] := hl
  have hw0 := (show ∀ w ∈ wsX40, w ∈ wsX4_inSets from by decide +kernel)
  have hw1 := hts (.fieldLink RX4 63 "EffectNetsModel" "variables" "I") (by decide +kernel)
  have hw2 := hts (.fieldLink RX4 41 "EffectNetsModel" "sets" "[I") (by decide +kernel)
  refine hsp _ (fun (x1 : Int32) (x2 : Int32) => ∀ (H : Heap) (locs : List Loc) (ls : Array Slot), va_P (dC, dI) vwCl [(h0, .inr (4, [.int xth, .int xnv, .int xna, .ref agbi, .ref agab, .int xtl, .ref aghv, .ref agic, .ref agbe, .int xmk, .ref agmt, .ref agmv, .ref agma, .ref agnd, .ref agre, .ref agse, .ref aglv, .ref agal, .ref agds, .ref agno, .ref agna])), (agse, .inl (cI, 60, .inl gse))] H → va_D A [(h0, .inr (4, [.int xth, .int xnv, .int xna, .ref agbi, .ref agab, .int xtl, .ref aghv, .ref agic, .ref agbe, .int xmk, .ref agmt, .ref agmv, .ref agma, .ref agnd, .ref agre, .ref agse, .ref aglv, .ref agal, .ref agds, .ref agno, .ref agna])), (agse, .inl (cI, 60, .inl gse))] → va_S A s.heap H locs → lv_has ls 3 [(0, .ref h0), (1, .int x1), (2, .int x2)] → W p l e (headSpec wsX4_inSets ({ frames := 1, cells := 0, slots := 0, locals := 23 })).room s m (List.toArray [.ref h0]) below meth c H locs 0 0 (MQ below (va_Qi (fun (r : Int32) (u : Unit) => post r) (fun (u : Unit) (t : State) => va_P (dC, dI) vwCl [(h0, .inr (4, [.int xth, .int xnv, .int xna, .ref agbi, .ref agab, .int xtl, .ref aghv, .ref agic, .ref agbe, .int xmk, .ref agmt, .ref agmv, .ref agma, .ref agnd, .ref agre, .ref agse, .ref aglv, .ref agal, .ref agds, .ref agno, .ref agna])), (agse, .inl (cI, 60, .inl gse))] t.heap ∧ va_K (dC, dI) vwCl [(cI, .int), (cJ, .long)] t ∧ va_D A [(h0, .inr (4, [.int xth, .int xnv, .int xna, .ref agbi, .ref agab, .int xtl, .ref aghv, .ref agic, .ref agbe, .int xmk, .ref agmt, .ref agmv, .ref agma, .ref agnd, .ref agre, .ref agse, .ref aglv, .ref agal, .ref agds, .ref agno, .ref agna])), (agse, .inl (cI, 60, .inl gse))]) A) (List.toArray [.ref h0]) s 0 0 A) (F0 m 4 ls [])) ?_ ?_
  · intro x1 x2 ht H locs ls hP hD hS hl
    refine lv_iload_n hx hb dX4_inSets_4 rfl (lv_at hl 2 rfl) ?_
    refine lv_aload_n hx hb dX4_inSets_5 rfl (lv_at hl 0 rfl) ?_
    refine va_get (D := (dC, dI)) (ci := 4) (v := .int xnv) (C := RX4) (T := TX4) (N := 21) hx hb hts hw0 hown hK hP 0 rfl rfl 1 (by decide) hw1 (fun _ h9 => h9) rfl dX4_inSets_6 ?_
    refine lv_icmp_ge (tgt := 31) hx hb dX4_inSets_9 (by decide) (fun c1 => ?_) (fun c1 => ?_)
    · replace ht := ht.1 c1
      refine lv_iload_n hx hb dX4_inSets_31 rfl (lv_at hl 1 rfl) ?_
      have hP9 : va_P (dC, dI) vwCl [(h0, .inr (4, [.int xth, .int xnv, .int xna, .ref agbi, .ref agab, .int xtl, .ref aghv, .ref agic, .ref agbe, .int xmk, .ref agmt, .ref agmv, .ref agma, .ref agnd, .ref agre, .ref agse, .ref aglv, .ref agal, .ref agds, .ref agno, .ref agna])), (agse, .inl (cI, 60, .inl gse))] _ := hP
      have hD9 : va_D A [(h0, .inr (4, [.int xth, .int xnv, .int xna, .ref agbi, .ref agab, .int xtl, .ref aghv, .ref agic, .ref agbe, .int xmk, .ref agmt, .ref agmv, .ref agma, .ref agnd, .ref agre, .ref agse, .ref aglv, .ref agal, .ref agds, .ref agno, .ref agna])), (agse, .inl (cI, 60, .inl gse))] := hD
      exact W.iret (v := x1) hx hb hr (fun t ht9 hW => ⟨⟨x1, (), rfl, ht, by rw [ht9]; exact hP9, va_K.moved hW.alike hK, hD9⟩, hS.F ht9⟩) hS.2.2 dX4_inSets_32
    · replace ht := ht.2 c1
      refine lv_iload_n hx hb dX4_inSets_12 rfl (lv_at hl 1 rfl) ?_
      refine lv_aload_n hx hb dX4_inSets_13 rfl (lv_at hl 0 rfl) ?_
      refine lv_aload_n hx hb dX4_inSets_14 rfl (lv_at hl 0 rfl) ?_
      refine va_get (D := (dC, dI)) (ci := 4) (v := .ref agse) (C := RX4) (T := TX4) (N := 21) hx hb hts hw0 hown hK hP 0 rfl rfl 15 (by decide) hw2 (fun _ h9 => h9) rfl dX4_inSets_15 ?_
      refine lv_iload_n hx hb dX4_inSets_18 rfl (lv_at hl 2 rfl) ?_
      obtain ⟨i2, ht⟩ := ht
      refine va_iald hx hb hK hP 1 0 rfl rfl i2 dX4_inSets_19 ?_
      have hPc := hP.sub (ws' := []) [] rfl
      have hDc := hD.sub (ws' := []) [] (by decide) rfl
      have hFc := va_free (wc := []) hD hS hA [] rfl
      refine va_calli (va_runV (As := [.int (gse x2.toNatClampNeg)]) (rest := [.int x1]) ⟨hx, hb, hml, hown, hts⟩ (c_X4_size l dC dI cI cJ h0 H.size (gse x2.toNatClampNeg) _ ht) (cwV 1 hts gX4_inSets_X4_size rfl rfl rfl (by decide +kernel) ⟨Nat.le_of_ble_eq_true rfl, Nat.le_of_ble_eq_true rfl⟩) ⟨fun a U g mk q => by obtain ⟨q0, q1, qP, qK, qD, qN⟩ := q; exact ⟨q0, q1, qP, va_K.moved (u := U) (U := U.calling g mk a) (Vm.Alike.refl U.vm) qK, qD, nw_same rfl qN⟩, va_recv hK hP (ci := 4) (q0 := 0) rfl rfl, fun U hU hW => ⟨rfl, by rw [hU], by rw [hU]; exact hPc, va_K.moved hW.alike hK, hDc.weaken (fun _ _ _ _ => trivial), nw_warm hW hN⟩⟩ rfl rfl hl.1 rfl (lv_room (Nat.le_of_ble_eq_true rfl)) dX4_inSets_20 ⟨Nat.le_of_ble_eq_true rfl, Nat.le_of_ble_eq_true rfl⟩) hS (fun q _ h => hFc q h) hFc (fun r3 u t H1 locs ht9 hvm hw hB hz1 hk1 hS => ?_)
      obtain ⟨hP1, hK1, hD1⟩ := hB
      rw [ht9] at hP1
      try dsimp only at hw
      replace ht := hw
      obtain ⟨hP, hD⟩ := va_join (wr := [(h0, .inr (4, [.int xth, .int xnv, .int xna, .ref agbi, .ref agab, .int xtl, .ref aghv, .ref agic, .ref agbe, .int xmk, .ref agmt, .ref agmv, .ref agma, .ref agnd, .ref agre, .ref agse, .ref aglv, .ref agal, .ref agds, .ref agno, .ref agna])), (agse, .inl (cI, 60, .inl gse))]) (w1 := []) hP hD [] [0, 1] rfl rfl (by decide) (by decide) hk1 hFc hP1 hD1
      generalize H1 = H at hP hS ⊢
      replace hP : va_P (dC, dI) vwCl [(h0, .inr (4, [.int xth, .int xnv, .int xna, .ref agbi, .ref agab, .int xtl, .ref aghv, .ref agic, .ref agbe, .int xmk, .ref agmt, .ref agmv, .ref agma, .ref agnd, .ref agre, .ref agse, .ref aglv, .ref agal, .ref agds, .ref agno, .ref agna])), (agse, .inl (cI, 60, .inl gse))] H := hP
      replace hD : va_D A [(h0, .inr (4, [.int xth, .int xnv, .int xna, .ref agbi, .ref agab, .int xtl, .ref aghv, .ref agic, .ref agbe, .int xmk, .ref agmt, .ref agmv, .ref agma, .ref agnd, .ref agre, .ref agse, .ref aglv, .ref agal, .ref agds, .ref agno, .ref agna])), (agse, .inl (cI, 60, .inl gse))] := hD
      refine lv_iadd hx hb dX4_inSets_23 ?_
      refine lv_topi (fun y4 ey4 => ?_)
      replace ht := ht y4 ey4
      refine lv_istore_n (lv' := [(1, .int y4), (0, .ref h0), (2, .int x2)]) hx hb dX4_inSets_24 rfl hl (by decide) rfl (fun ls hl => ?_)
      obtain ⟨y5, ey5⟩ : ∃ y : Int32, y = x2 + 1 := ⟨_, rfl⟩
      replace ht := ht y5 ey5
      refine lv_iinc (v := y5) (lv' := [(2, .int y5), (1, .int y4), (0, .ref h0)]) hx hb dX4_inSets_25 hl (k := 2) rfl (by rw [ey5]; rfl) (by decide) rfl (fun ls hl => ?_)
      refine lv_goto (tgt := 4) hx hb dX4_inSets_28 (by decide) ?_
      exact ht _ _ _ hP hD hS (lv_sub hl [2, 1, 0] rfl)
  · intro ht
    refine lv_iconst (v := 0) hx hb dX4_inSets_0 (by decide) ?_
    refine lv_istore_n (lv' := [(1, .int 0), (0, .ref h0)]) hx hb dX4_inSets_1 rfl hl (by decide) rfl (fun ls hl => ?_)
    refine lv_iconst (v := 0) hx hb dX4_inSets_2 (by decide) ?_
    refine lv_istore_n (lv' := [(2, .int 0), (1, .int 0), (0, .ref h0)]) hx hb dX4_inSets_3 rfl hl (by decide) rfl (fun ls hl => ?_)
    exact ht _ _ _ hP hD hS (lv_sub hl [2, 1, 0] rfl)
set_option maxHeartbeats 4000000 in
set_option maxRecDepth 100000 in
theorem c_X4_newVariable (l : Launch) (dC : Nat → ClassId) (dI : Nat → Nat → Nat) (cI cJ : ClassId) (h0 : Nat) (agbi : Nat) (agab : Nat) (aghv : Nat) (agic : Nat) (agbe : Nat) (agmt : Nat) (agmv : Nat) (agma : Nat) (agnd : Nat) (agre : Nat) (agse : Nat) (aglv : Nat) (agal : Nat) (agds : Nat) (agno : Nat) (agna : Nat) (xth : Int32) (xnv : Int32) (xna : Int32) (xtl : Int32) (xmk : Int32) (gbi : Nat → Int32) (sz : Nat) (p1 : Int32) (post : Int32 → Int32 → (Nat → Int32) → Prop) (hsp : S_X4_newVariable p1 xnv gbi post) : Met l yX4_newVariable wsX4_newVariable ({ frames := 0, cells := 0, slots := 0, locals := 0 }) (va_Pc [.ref h0, .int p1] (fun U => U.heap.size = sz ∧ va_P (dC, dI) vwCl [(h0, .inr (4, [.int xth, .int xnv, .int xna, .ref agbi, .ref agab, .int xtl, .ref aghv, .ref agic, .ref agbe, .int xmk, .ref agmt, .ref agmv, .ref agma, .ref agnd, .ref agre, .ref agse, .ref aglv, .ref agal, .ref agds, .ref agno, .ref agna])), (agbi, .inl (cI, 60, .inl gbi))] U.heap ∧ va_K (dC, dI) vwCl [(cI, .int), (cJ, .long)] U ∧ va_D (fun _ => True) [(h0, .inr (4, [.int xth, .int xnv, .int xna, .ref agbi, .ref agab, .int xtl, .ref aghv, .ref agic, .ref agbe, .int xmk, .ref agmt, .ref agmv, .ref agma, .ref agnd, .ref agre, .ref agse, .ref aglv, .ref agal, .ref agds, .ref agno, .ref agna])), (agbi, .inl (cI, 60, .inl gbi))] ∧ nw U)) (va_Qi (fun (r : Int32) (u : Int32 × (Nat → Int32)) => post r (u.1) (u.2)) (fun (u : Int32 × (Nat → Int32)) (t : State) => va_P (dC, dI) vwCl [(h0, .inr (4, [.int xth, .int (u.1), .int xna, .ref agbi, .ref agab, .int xtl, .ref aghv, .ref agic, .ref agbe, .int xmk, .ref agmt, .ref agmv, .ref agma, .ref agnd, .ref agre, .ref agse, .ref aglv, .ref agal, .ref agds, .ref agno, .ref agna])), (agbi, .inl (cI, 60, .inl (u.2)))] t.heap ∧ va_K (dC, dI) vwCl [(cI, .int), (cJ, .long)] t ∧ va_D (va_A [(h0, .inr (4, [.int xth, .int xnv, .int xna, .ref agbi, .ref agab, .int xtl, .ref aghv, .ref agic, .ref agbe, .int xmk, .ref agmt, .ref agmv, .ref agma, .ref agnd, .ref agre, .ref agse, .ref aglv, .ref agal, .ref agds, .ref agno, .ref agna])), (agbi, .inl (cI, 60, .inl gbi))] sz) [(h0, .inr (4, [.int xth, .int (u.1), .int xna, .ref agbi, .ref agab, .int xtl, .ref aghv, .ref agic, .ref agbe, .int xmk, .ref agmt, .ref agmv, .ref agma, .ref agnd, .ref agre, .ref agse, .ref aglv, .ref agal, .ref agds, .ref agno, .ref agna])), (agbi, .inl (cI, 60, .inl (u.2)))]) (va_A [(h0, .inr (4, [.int xth, .int xnv, .int xna, .ref agbi, .ref agab, .int xtl, .ref aghv, .ref agic, .ref agbe, .int xmk, .ref agmt, .ref agmv, .ref agma, .ref agnd, .ref agre, .ref agse, .ref aglv, .ref agal, .ref agds, .ref agno, .ref agna])), (agbi, .inl (cI, 60, .inl gbi))] sz)) 0 0 (va_A [(h0, .inr (4, [.int xth, .int xnv, .int xna, .ref agbi, .ref agab, .int xtl, .ref aghv, .ref agic, .ref agbe, .int xmk, .ref agmt, .ref agmv, .ref agma, .ref agnd, .ref agre, .ref agse, .ref aglv, .ref agal, .ref agds, .ref agno, .ref agna])), (agbi, .inl (cI, 60, .inl gbi))] sz) := by
  refine Met.ofW (cc := cX4_newVariable) (maxL := 2) (ret := (some .int)) (by decide) rfl ?_
  intro p e s m args below meth c s₁ B hml hv
  obtain ⟨rfl, hsz, hP, hK, hD0, hN⟩ := hv
  have hx := B.exec
  have hb := B.bytes
  have hr := B.returns
  have hts := atoms_spec (ws := wsX4_newVariable) B.pre
  have hown : s.vm.findClass RX4 = some m.cls := findClass_of_methodNamed B.named
  have hlocks := B.notSynchronized
  subst hsz
  have hD := hD0.self (sz := s.heap.size)
  generalize hAe : va_A [(h0, .inr (4, [.int xth, .int xnv, .int xna, .ref agbi, .ref agab, .int xtl, .ref aghv, .ref agic, .ref agbe, .int xmk, .ref agmt, .ref agmv, .ref agma, .ref agnd, .ref agre, .ref agse, .ref aglv, .ref agal, .ref agds, .ref agno, .ref agna])), (agbi, .inl (cI, 60, .inl gbi))] s.heap.size = A at hD ⊢
  have hA : ∀ q : Nat, s.heap.size ≤ q → A q := fun q h => by rw [← hAe]; exact Or.inr h
  have hS : va_S A s.heap s.heap [] := va_S.rf
  have hl := lv_entry ([.ref h0, .int p1]) (n := 2) (Nat.le_of_ble_eq_true rfl)
  rw [lg_entry_eq]
  generalize (lg_sl ([.ref h0, .int p1]) ++ List.replicate (2 - (lg_sl ([.ref h0, .int p1])).length) Slot.unset).toArray = ls at hl ⊢
  replace hl : lv_has ls 2 [(0, .ref h0), (1, .int p1)] := hl
  have hw0 := (show ∀ w ∈ wsX40, w ∈ wsX4_newVariable from by decide +kernel)
  have hw1 := hts (.fieldLink RX4 7 "EffectNetsModel" "birth" "[I") (by decide +kernel)
  have hw2 := hts (.fieldLink RX4 63 "EffectNetsModel" "variables" "I") (by decide +kernel)
  refine hsp _ ?_
  · intro ht
    refine lv_aload_n hx hb dX4_newVariable_0 rfl (lv_at hl 0 rfl) ?_
    refine va_get (D := (dC, dI)) (ci := 4) (v := .ref agbi) (C := RX4) (T := TX4) (N := 21) hx hb hts hw0 hown hK hP 0 rfl rfl 3 (by decide) hw1 (fun _ h9 => h9) rfl dX4_newVariable_1 ?_
    refine lv_aload_n hx hb dX4_newVariable_4 rfl (lv_at hl 0 rfl) ?_
    refine va_get (D := (dC, dI)) (ci := 4) (v := .int xnv) (C := RX4) (T := TX4) (N := 21) hx hb hts hw0 hown hK hP 0 rfl rfl 1 (by decide) hw2 (fun _ h9 => h9) rfl dX4_newVariable_5 ?_
    refine lv_iload_n hx hb dX4_newVariable_8 rfl (lv_at hl 1 rfl) ?_
    obtain ⟨i1, ht⟩ := ht
    refine va_iast hx hb hK hP hD hS 1 0 rfl rfl i1 dX4_newVariable_9 (fun H locs hP hD hS => ?_)
    replace hP : va_P (dC, dI) vwCl [(h0, .inr (4, [.int xth, .int xnv, .int xna, .ref agbi, .ref agab, .int xtl, .ref aghv, .ref agic, .ref agbe, .int xmk, .ref agmt, .ref agmv, .ref agma, .ref agnd, .ref agre, .ref agse, .ref aglv, .ref agal, .ref agds, .ref agno, .ref agna])), (agbi, .inl (cI, 60, .inl (upd gbi xnv.toNatClampNeg p1)))] H := hP
    replace hD : va_D A [(h0, .inr (4, [.int xth, .int xnv, .int xna, .ref agbi, .ref agab, .int xtl, .ref aghv, .ref agic, .ref agbe, .int xmk, .ref agmt, .ref agmv, .ref agma, .ref agnd, .ref agre, .ref agse, .ref aglv, .ref agal, .ref agds, .ref agno, .ref agna])), (agbi, .inl (cI, 60, .inl (upd gbi xnv.toNatClampNeg p1)))] := hD
    refine lv_aload_n hx hb dX4_newVariable_10 rfl (lv_at hl 0 rfl) ?_
    refine lv_dup hx hb dX4_newVariable_11 rfl ?_
    refine va_get (D := (dC, dI)) (ci := 4) (v := .int xnv) (C := RX4) (T := TX4) (N := 21) hx hb hts hw0 hown hK hP 0 rfl rfl 1 (by decide) hw2 (fun _ h9 => h9) rfl dX4_newVariable_12 ?_
    refine lv_iconst (v := 1) hx hb dX4_newVariable_15 (by decide) ?_
    refine lv_iadd hx hb dX4_newVariable_16 ?_
    refine lv_topi (fun y2 ey2 => ?_)
    replace ht := ht y2 ey2
    refine va_put (D := (dC, dI)) (ci := 4) (v := .int y2) (ty := .int) (C := RX4) (T := TX4) (N := 21) hx hb hts hw0 tyX4 tyX4_ok nmX4 hown hK hP hD hS 0 rfl rfl 1 (by decide) hw2 (fun _ h9 => h9) rfl (by decide +kernel) rfl rfl (Nat.le_of_ble_eq_true rfl) dX4_newVariable_17 (fun H locs hP hD hS => ?_)
    replace hP : va_P (dC, dI) vwCl [(h0, .inr (4, [.int xth, .int y2, .int xna, .ref agbi, .ref agab, .int xtl, .ref aghv, .ref agic, .ref agbe, .int xmk, .ref agmt, .ref agmv, .ref agma, .ref agnd, .ref agre, .ref agse, .ref aglv, .ref agal, .ref agds, .ref agno, .ref agna])), (agbi, .inl (cI, 60, .inl (upd gbi xnv.toNatClampNeg p1)))] H := hP
    replace hD : va_D A [(h0, .inr (4, [.int xth, .int y2, .int xna, .ref agbi, .ref agab, .int xtl, .ref aghv, .ref agic, .ref agbe, .int xmk, .ref agmt, .ref agmv, .ref agma, .ref agnd, .ref agre, .ref agse, .ref aglv, .ref agal, .ref agds, .ref agno, .ref agna])), (agbi, .inl (cI, 60, .inl (upd gbi xnv.toNatClampNeg p1)))] := hD
    refine lv_aload_n hx hb dX4_newVariable_20 rfl (lv_at hl 0 rfl) ?_
    refine va_get (D := (dC, dI)) (ci := 4) (v := .int y2) (C := RX4) (T := TX4) (N := 21) hx hb hts hw0 hown hK hP 0 rfl rfl 1 (by decide) hw2 (fun _ h9 => h9) rfl dX4_newVariable_21 ?_
    refine lv_iconst (v := 1) hx hb dX4_newVariable_24 (by decide) ?_
    refine lv_isub hx hb dX4_newVariable_25 ?_
    have hP9 : va_P (dC, dI) vwCl [(h0, .inr (4, [.int xth, .int y2, .int xna, .ref agbi, .ref agab, .int xtl, .ref aghv, .ref agic, .ref agbe, .int xmk, .ref agmt, .ref agmv, .ref agma, .ref agnd, .ref agre, .ref agse, .ref aglv, .ref agal, .ref agds, .ref agno, .ref agna])), (agbi, .inl (cI, 60, .inl (upd gbi xnv.toNatClampNeg p1)))] _ := hP
    have hD9 : va_D A [(h0, .inr (4, [.int xth, .int y2, .int xna, .ref agbi, .ref agab, .int xtl, .ref aghv, .ref agic, .ref agbe, .int xmk, .ref agmt, .ref agmv, .ref agma, .ref agnd, .ref agre, .ref agse, .ref aglv, .ref agal, .ref agds, .ref agno, .ref agna])), (agbi, .inl (cI, 60, .inl (upd gbi xnv.toNatClampNeg p1)))] := hD
    exact W.iret (v := (y2 - 1)) hx hb hr (fun t ht9 hW => ⟨⟨(y2 - 1), (y2, (upd gbi xnv.toNatClampNeg p1)), rfl, ht, by rw [ht9]; exact hP9, va_K.moved hW.alike hK, hD9⟩, hS.F ht9⟩) hS.2.2 dX4_newVariable_26
set_option maxHeartbeats 4000000 in
set_option maxRecDepth 100000 in
theorem c_X4_variable (l : Launch) (dC : Nat → ClassId) (dI : Nat → Nat → Nat) (cI cJ : ClassId) (h0 : Nat) (agbi : Nat) (agab : Nat) (aghv : Nat) (agic : Nat) (agbe : Nat) (agmt : Nat) (agmv : Nat) (agma : Nat) (agnd : Nat) (agre : Nat) (agse : Nat) (aglv : Nat) (agal : Nat) (agds : Nat) (agno : Nat) (agna : Nat) (xth : Int32) (xnv : Int32) (xna : Int32) (xtl : Int32) (xmk : Int32) (gbi : Nat → Int32) (sz : Nat) (p1 : Int32) (post : Int32 → Int32 → Int32 → (Nat → Int32) → Prop) (hsp : S_X4_variable p1 xth xnv gbi post) : Met l yX4_variable wsX4_variable ({ frames := 1, cells := 0, slots := 0, locals := 22 }) (va_Pc [.ref h0, .int p1] (fun U => U.heap.size = sz ∧ va_P (dC, dI) vwCl [(h0, .inr (4, [.int xth, .int xnv, .int xna, .ref agbi, .ref agab, .int xtl, .ref aghv, .ref agic, .ref agbe, .int xmk, .ref agmt, .ref agmv, .ref agma, .ref agnd, .ref agre, .ref agse, .ref aglv, .ref agal, .ref agds, .ref agno, .ref agna])), (agbi, .inl (cI, 60, .inl gbi))] U.heap ∧ va_K (dC, dI) vwCl [(cI, .int), (cJ, .long)] U ∧ va_D (fun _ => True) [(h0, .inr (4, [.int xth, .int xnv, .int xna, .ref agbi, .ref agab, .int xtl, .ref aghv, .ref agic, .ref agbe, .int xmk, .ref agmt, .ref agmv, .ref agma, .ref agnd, .ref agre, .ref agse, .ref aglv, .ref agal, .ref agds, .ref agno, .ref agna])), (agbi, .inl (cI, 60, .inl gbi))] ∧ nw U)) (va_Qi (fun (r : Int32) (u : Int32 × Int32 × (Nat → Int32)) => post r (u.1) (u.2.1) (u.2.2)) (fun (u : Int32 × Int32 × (Nat → Int32)) (t : State) => va_P (dC, dI) vwCl [(h0, .inr (4, [.int (u.1), .int (u.2.1), .int xna, .ref agbi, .ref agab, .int xtl, .ref aghv, .ref agic, .ref agbe, .int xmk, .ref agmt, .ref agmv, .ref agma, .ref agnd, .ref agre, .ref agse, .ref aglv, .ref agal, .ref agds, .ref agno, .ref agna])), (agbi, .inl (cI, 60, .inl (u.2.2)))] t.heap ∧ va_K (dC, dI) vwCl [(cI, .int), (cJ, .long)] t ∧ va_D (va_A [(h0, .inr (4, [.int xth, .int xnv, .int xna, .ref agbi, .ref agab, .int xtl, .ref aghv, .ref agic, .ref agbe, .int xmk, .ref agmt, .ref agmv, .ref agma, .ref agnd, .ref agre, .ref agse, .ref aglv, .ref agal, .ref agds, .ref agno, .ref agna])), (agbi, .inl (cI, 60, .inl gbi))] sz) [(h0, .inr (4, [.int (u.1), .int (u.2.1), .int xna, .ref agbi, .ref agab, .int xtl, .ref aghv, .ref agic, .ref agbe, .int xmk, .ref agmt, .ref agmv, .ref agma, .ref agnd, .ref agre, .ref agse, .ref aglv, .ref agal, .ref agds, .ref agno, .ref agna])), (agbi, .inl (cI, 60, .inl (u.2.2)))]) (va_A [(h0, .inr (4, [.int xth, .int xnv, .int xna, .ref agbi, .ref agab, .int xtl, .ref aghv, .ref agic, .ref agbe, .int xmk, .ref agmt, .ref agmv, .ref agma, .ref agnd, .ref agre, .ref agse, .ref aglv, .ref agal, .ref agds, .ref agno, .ref agna])), (agbi, .inl (cI, 60, .inl gbi))] sz)) 0 0 (va_A [(h0, .inr (4, [.int xth, .int xnv, .int xna, .ref agbi, .ref agab, .int xtl, .ref aghv, .ref agic, .ref agbe, .int xmk, .ref agmt, .ref agmv, .ref agma, .ref agnd, .ref agre, .ref agse, .ref aglv, .ref agal, .ref agds, .ref agno, .ref agna])), (agbi, .inl (cI, 60, .inl gbi))] sz) := by
  refine Met.ofW (cc := cX4_variable) (maxL := 2) (ret := (some .int)) (by decide) rfl ?_
  intro p e s m args below meth c s₁ B hml hv
  obtain ⟨rfl, hsz, hP, hK, hD0, hN⟩ := hv
  have hx := B.exec
  have hb := B.bytes
  have hr := B.returns
  have hts := atoms_spec (ws := wsX4_variable) B.pre
  have hown : s.vm.findClass RX4 = some m.cls := findClass_of_methodNamed B.named
  have hlocks := B.notSynchronized
  subst hsz
  have hD := hD0.self (sz := s.heap.size)
  generalize hAe : va_A [(h0, .inr (4, [.int xth, .int xnv, .int xna, .ref agbi, .ref agab, .int xtl, .ref aghv, .ref agic, .ref agbe, .int xmk, .ref agmt, .ref agmv, .ref agma, .ref agnd, .ref agre, .ref agse, .ref aglv, .ref agal, .ref agds, .ref agno, .ref agna])), (agbi, .inl (cI, 60, .inl gbi))] s.heap.size = A at hD ⊢
  have hA : ∀ q : Nat, s.heap.size ≤ q → A q := fun q h => by rw [← hAe]; exact Or.inr h
  have hS : va_S A s.heap s.heap [] := va_S.rf
  have hl := lv_entry ([.ref h0, .int p1]) (n := 2) (Nat.le_of_ble_eq_true rfl)
  rw [lg_entry_eq]
  generalize (lg_sl ([.ref h0, .int p1]) ++ List.replicate (2 - (lg_sl ([.ref h0, .int p1])).length) Slot.unset).toArray = ls at hl ⊢
  replace hl : lv_has ls 2 [(0, .ref h0), (1, .int p1)] := hl
  have hw0 := (show ∀ w ∈ wsX40, w ∈ wsX4_variable from by decide +kernel)
  have hw1 := hts (.fieldLink RX4 63 "EffectNetsModel" "variables" "I") (by decide +kernel)
  refine hsp _ (fun (xth : Int32) (xnv : Int32) (gbi : Nat → Int32) => ∀ (H : Heap) (locs : List Loc) (ls : Array Slot), va_P (dC, dI) vwCl [(h0, .inr (4, [.int xth, .int xnv, .int xna, .ref agbi, .ref agab, .int xtl, .ref aghv, .ref agic, .ref agbe, .int xmk, .ref agmt, .ref agmv, .ref agma, .ref agnd, .ref agre, .ref agse, .ref aglv, .ref agal, .ref agds, .ref agno, .ref agna])), (agbi, .inl (cI, 60, .inl gbi))] H → va_D A [(h0, .inr (4, [.int xth, .int xnv, .int xna, .ref agbi, .ref agab, .int xtl, .ref aghv, .ref agic, .ref agbe, .int xmk, .ref agmt, .ref agmv, .ref agma, .ref agnd, .ref agre, .ref agse, .ref aglv, .ref agal, .ref agds, .ref agno, .ref agna])), (agbi, .inl (cI, 60, .inl gbi))] → va_S A s.heap H locs → lv_has ls 2 [(0, .ref h0), (1, .int p1)] → W p l e (headSpec wsX4_variable ({ frames := 1, cells := 0, slots := 0, locals := 22 })).room s m (List.toArray [.ref h0, .int p1]) below meth c H locs 0 0 (MQ below (va_Qi (fun (r : Int32) (u : Int32 × Int32 × (Nat → Int32)) => post r (u.1) (u.2.1) (u.2.2)) (fun (u : Int32 × Int32 × (Nat → Int32)) (t : State) => va_P (dC, dI) vwCl [(h0, .inr (4, [.int (u.1), .int (u.2.1), .int xna, .ref agbi, .ref agab, .int xtl, .ref aghv, .ref agic, .ref agbe, .int xmk, .ref agmt, .ref agmv, .ref agma, .ref agnd, .ref agre, .ref agse, .ref aglv, .ref agal, .ref agds, .ref agno, .ref agna])), (agbi, .inl (cI, 60, .inl (u.2.2)))] t.heap ∧ va_K (dC, dI) vwCl [(cI, .int), (cJ, .long)] t ∧ va_D A [(h0, .inr (4, [.int (u.1), .int (u.2.1), .int xna, .ref agbi, .ref agab, .int xtl, .ref aghv, .ref agic, .ref agbe, .int xmk, .ref agmt, .ref agmv, .ref agma, .ref agnd, .ref agre, .ref agse, .ref aglv, .ref agal, .ref agds, .ref agno, .ref agna])), (agbi, .inl (cI, 60, .inl (u.2.2)))]) A) (List.toArray [.ref h0, .int p1]) s 0 0 A) (F0 m 25 ls [])) ?_ ?_
  · intro xth xnv gbi ht H locs ls hP hD hS hl
    refine lv_aload_n hx hb dX4_variable_25 rfl (lv_at hl 0 rfl) ?_
    refine va_get (D := (dC, dI)) (ci := 4) (v := .int xnv) (C := RX4) (T := TX4) (N := 21) hx hb hts hw0 hown hK hP 0 rfl rfl 1 (by decide) hw1 (fun _ h9 => h9) rfl dX4_variable_26 ?_
    refine lv_bipush (v := 60) hx hb dX4_variable_29 (by decide) ?_
    refine lv_icmp_ne (tgt := 38) hx hb dX4_variable_31 (by decide) (fun c1 => ?_) (fun c1 => ?_)
    · replace ht := ht.1 c1
      refine lv_aload_n hx hb dX4_variable_38 rfl (lv_at hl 0 rfl) ?_
      refine lv_iload_n hx hb dX4_variable_39 rfl (lv_at hl 1 rfl) ?_
      have hPc := hP.sub (ws' := [(h0, .inr (4, [.int xth, .int xnv, .int xna, .ref agbi, .ref agab, .int xtl, .ref aghv, .ref agic, .ref agbe, .int xmk, .ref agmt, .ref agmv, .ref agma, .ref agnd, .ref agre, .ref agse, .ref aglv, .ref agal, .ref agds, .ref agno, .ref agna])), (agbi, .inl (cI, 60, .inl gbi))]) [0, 1] rfl
      have hDc := hD.sub (ws' := [(h0, .inr (4, [.int xth, .int xnv, .int xna, .ref agbi, .ref agab, .int xtl, .ref aghv, .ref agic, .ref agbe, .int xmk, .ref agmt, .ref agmv, .ref agma, .ref agnd, .ref agre, .ref agse, .ref aglv, .ref agal, .ref agds, .ref agno, .ref agna])), (agbi, .inl (cI, 60, .inl gbi))]) [0, 1] (by decide) rfl
      have hFc := va_free (wc := [(h0, .inr (4, [.int xth, .int xnv, .int xna, .ref agbi, .ref agab, .int xtl, .ref aghv, .ref agic, .ref agbe, .int xmk, .ref agmt, .ref agmv, .ref agma, .ref agnd, .ref agre, .ref agse, .ref aglv, .ref agal, .ref agds, .ref agno, .ref agna])), (agbi, .inl (cI, 60, .inl gbi))]) hD hS hA [0, 1] rfl
      refine va_calli (va_runV (As := [.int p1]) (rest := []) ⟨hx, hb, hml, hown, hts⟩ (c_X4_newVariable l dC dI cI cJ h0 agbi agab aghv agic agbe agmt agmv agma agnd agre agse aglv agal agds agno agna xth xnv xna xtl xmk gbi H.size p1 _ ht) (cwV 1 hts gX4_variable_X4_newVariable rfl rfl rfl (by decide +kernel) ⟨Nat.le_of_ble_eq_true rfl, Nat.le_of_ble_eq_true rfl⟩) ⟨fun a U g mk q => by obtain ⟨q0, q1, qP, qK, qD, qN⟩ := q; exact ⟨q0, q1, qP, va_K.moved (u := U) (U := U.calling g mk a) (Vm.Alike.refl U.vm) qK, qD, nw_same rfl qN⟩, va_recv hK hP (ci := 4) (q0 := 0) rfl rfl, fun U hU hW => ⟨rfl, by rw [hU], by rw [hU]; exact hPc, va_K.moved hW.alike hK, hDc.weaken (fun _ _ _ _ => trivial), nw_warm hW hN⟩⟩ rfl rfl hl.1 rfl (lv_room (Nat.le_of_ble_eq_true rfl)) dX4_variable_40 ⟨Nat.le_of_ble_eq_true rfl, Nat.le_of_ble_eq_true rfl⟩) hS (fun q _ h => hFc q h) hFc (fun r2 u t H1 locs ht9 hvm hw hB hz1 hk1 hS => ?_)
      obtain ⟨xnv_3, gbi_4⟩ := u
      obtain ⟨hP1, hK1, hD1⟩ := hB
      rw [ht9] at hP1
      try dsimp only at hw
      replace ht := hw
      obtain ⟨hP, hD⟩ := va_join (wr := []) (w1 := [(h0, .inr (4, [.int xth, .int xnv_3, .int xna, .ref agbi, .ref agab, .int xtl, .ref aghv, .ref agic, .ref agbe, .int xmk, .ref agmt, .ref agmv, .ref agma, .ref agnd, .ref agre, .ref agse, .ref aglv, .ref agal, .ref agds, .ref agno, .ref agna])), (agbi, .inl (cI, 60, .inl gbi_4))]) hP hD [0, 1] [] rfl rfl (by decide) (by decide) hk1 hFc hP1 hD1
      generalize H1 = H at hP hS ⊢
      replace hP : va_P (dC, dI) vwCl [(h0, .inr (4, [.int xth, .int xnv_3, .int xna, .ref agbi, .ref agab, .int xtl, .ref aghv, .ref agic, .ref agbe, .int xmk, .ref agmt, .ref agmv, .ref agma, .ref agnd, .ref agre, .ref agse, .ref aglv, .ref agal, .ref agds, .ref agno, .ref agna])), (agbi, .inl (cI, 60, .inl gbi_4))] H := hP
      replace hD : va_D A [(h0, .inr (4, [.int xth, .int xnv_3, .int xna, .ref agbi, .ref agab, .int xtl, .ref aghv, .ref agic, .ref agbe, .int xmk, .ref agmt, .ref agmv, .ref agma, .ref agnd, .ref agre, .ref agse, .ref aglv, .ref agal, .ref agds, .ref agno, .ref agna])), (agbi, .inl (cI, 60, .inl gbi_4))] := hD
      have hP9 : va_P (dC, dI) vwCl [(h0, .inr (4, [.int xth, .int xnv_3, .int xna, .ref agbi, .ref agab, .int xtl, .ref aghv, .ref agic, .ref agbe, .int xmk, .ref agmt, .ref agmv, .ref agma, .ref agnd, .ref agre, .ref agse, .ref aglv, .ref agal, .ref agds, .ref agno, .ref agna])), (agbi, .inl (cI, 60, .inl gbi_4))] _ := hP
      have hD9 : va_D A [(h0, .inr (4, [.int xth, .int xnv_3, .int xna, .ref agbi, .ref agab, .int xtl, .ref aghv, .ref agic, .ref agbe, .int xmk, .ref agmt, .ref agmv, .ref agma, .ref agnd, .ref agre, .ref agse, .ref aglv, .ref agal, .ref agds, .ref agno, .ref agna])), (agbi, .inl (cI, 60, .inl gbi_4))] := hD
      exact W.iret (v := r2) hx hb hr (fun t ht9 hW => ⟨⟨r2, (xth, xnv_3, gbi_4), rfl, ht, by rw [ht9]; exact hP9, va_K.moved hW.alike hK, hD9⟩, hS.F ht9⟩) hS.2.2 dX4_variable_43
    · replace ht := ht.2 c1
      refine lv_iconst (v := (-1)) hx hb dX4_variable_34 (by decide) ?_
      refine lv_goto (tgt := 43) hx hb dX4_variable_35 (by decide) ?_
      have hP9 : va_P (dC, dI) vwCl [(h0, .inr (4, [.int xth, .int xnv, .int xna, .ref agbi, .ref agab, .int xtl, .ref aghv, .ref agic, .ref agbe, .int xmk, .ref agmt, .ref agmv, .ref agma, .ref agnd, .ref agre, .ref agse, .ref aglv, .ref agal, .ref agds, .ref agno, .ref agna])), (agbi, .inl (cI, 60, .inl gbi))] _ := hP
      have hD9 : va_D A [(h0, .inr (4, [.int xth, .int xnv, .int xna, .ref agbi, .ref agab, .int xtl, .ref aghv, .ref agic, .ref agbe, .int xmk, .ref agmt, .ref agmv, .ref agma, .ref agnd, .ref agre, .ref agse, .ref aglv, .ref agal, .ref agds, .ref agno, .ref agna])), (agbi, .inl (cI, 60, .inl gbi))] := hD
      exact W.iret (v := (-1)) hx hb hr (fun t ht9 hW => ⟨⟨(-1), (xth, xnv, gbi), rfl, ht, by rw [ht9]; exact hP9, va_K.moved hW.alike hK, hD9⟩, hS.F ht9⟩) hS.2.2 dX4_variable_43
  · intro ht
    refine lv_aload_n hx hb dX4_variable_0 rfl (lv_at hl 0 rfl) ?_
    refine lv_iload_n hx hb dX4_variable_1 rfl (lv_at hl 1 rfl) ?_
    refine lv_if_lt (tgt := 15) hx hb dX4_variable_2 (by decide) (fun c5 => ?_) (fun c5 => ?_)
    · replace ht := ht.1 c5
      refine lv_iconst (v := 0) hx hb dX4_variable_15 (by decide) ?_
      refine lv_iconst (v := 1) hx hb dX4_variable_16 (by decide) ?_
      have hPc := hP.sub (ws' := [(h0, .inr (4, [.int xth, .int xnv, .int xna, .ref agbi, .ref agab, .int xtl, .ref aghv, .ref agic, .ref agbe, .int xmk, .ref agmt, .ref agmv, .ref agma, .ref agnd, .ref agre, .ref agse, .ref aglv, .ref agal, .ref agds, .ref agno, .ref agna]))]) [0] rfl
      have hDc := hD.sub (ws' := [(h0, .inr (4, [.int xth, .int xnv, .int xna, .ref agbi, .ref agab, .int xtl, .ref aghv, .ref agic, .ref agbe, .int xmk, .ref agmt, .ref agmv, .ref agma, .ref agnd, .ref agre, .ref agse, .ref aglv, .ref agal, .ref agds, .ref agno, .ref agna]))]) [0] (by decide) rfl
      have hFc := va_free (wc := [(h0, .inr (4, [.int xth, .int xnv, .int xna, .ref agbi, .ref agab, .int xtl, .ref aghv, .ref agic, .ref agbe, .int xmk, .ref agmt, .ref agmv, .ref agma, .ref agnd, .ref agre, .ref agse, .ref aglv, .ref agal, .ref agds, .ref agno, .ref agna]))]) hD hS hA [0] rfl
      refine va_calli (va_runV (As := [.int 0, .int 1]) (rest := []) ⟨hx, hb, hml, hown, hts⟩ (c_X4_goes l dC dI cI cJ h0 agbi agab aghv agic agbe agmt agmv agma agnd agre agse aglv agal agds agno agna xth xnv xna xtl xmk s.heap.size 0 1 _ ht) (cwV 2 hts gX4_variable_X4_goes rfl rfl rfl (by decide +kernel) ⟨Nat.le_of_ble_eq_true rfl, Nat.le_of_ble_eq_true rfl⟩) ⟨fun a U g mk q => by obtain ⟨q0, q1, qP, qK, qD, qN⟩ := q; exact ⟨q0, q1, qP, va_K.moved (u := U) (U := U.calling g mk a) (Vm.Alike.refl U.vm) qK, qD, nw_same rfl qN⟩, va_recv hK hP (ci := 4) (q0 := 0) rfl rfl, fun U hU hW => ⟨rfl, by rw [hU], by rw [hU]; exact hPc, va_K.moved hW.alike hK, hDc.weaken (fun _ _ _ _ => trivial), nw_warm hW hN⟩⟩ rfl rfl hl.1 rfl (lv_room (Nat.le_of_ble_eq_true rfl)) dX4_variable_17 ⟨Nat.le_of_ble_eq_true rfl, Nat.le_of_ble_eq_true rfl⟩) hS (fun q _ h => hFc q h) hFc (fun r6 u t H1 locs ht9 hvm hw hB hz1 hk1 hS => ?_)
      obtain ⟨xth_7, rfl⟩ : ∃ z, z = u := ⟨_, rfl⟩
      obtain ⟨hP1, hK1, hD1⟩ := hB
      rw [ht9] at hP1
      try dsimp only at hw
      replace ht := hw
      obtain ⟨hP, hD⟩ := va_join (wr := [(agbi, .inl (cI, 60, .inl gbi))]) (w1 := [(h0, .inr (4, [.int xth_7, .int xnv, .int xna, .ref agbi, .ref agab, .int xtl, .ref aghv, .ref agic, .ref agbe, .int xmk, .ref agmt, .ref agmv, .ref agma, .ref agnd, .ref agre, .ref agse, .ref aglv, .ref agal, .ref agds, .ref agno, .ref agna]))]) hP hD [0] [1] rfl rfl (by decide) (by decide) hk1 hFc hP1 hD1
      generalize H1 = H at hP hS ⊢
      replace hP : va_P (dC, dI) vwCl [(agbi, .inl (cI, 60, .inl gbi)), (h0, .inr (4, [.int xth_7, .int xnv, .int xna, .ref agbi, .ref agab, .int xtl, .ref aghv, .ref agic, .ref agbe, .int xmk, .ref agmt, .ref agmv, .ref agma, .ref agnd, .ref agre, .ref agse, .ref aglv, .ref agal, .ref agds, .ref agno, .ref agna]))] H := hP
      replace hD : va_D A [(agbi, .inl (cI, 60, .inl gbi)), (h0, .inr (4, [.int xth_7, .int xnv, .int xna, .ref agbi, .ref agab, .int xtl, .ref aghv, .ref agic, .ref agbe, .int xmk, .ref agmt, .ref agmv, .ref agma, .ref agnd, .ref agre, .ref agse, .ref aglv, .ref agal, .ref agds, .ref agno, .ref agna]))] := hD
      refine lv_if_ne (tgt := 25) hx hb dX4_variable_20 (by decide) (fun c8 => ?_) (fun c8 => ?_)
      · replace ht := ht.1 c8
        exact ht _ _ _ (hP.sub [1, 0] rfl) (hD.sub [1, 0] (by decide) rfl) hS (lv_sub hl [0, 1] rfl)
      · replace ht := ht.2 c8
        refine lv_iconst (v := 0) hx hb dX4_variable_23 (by decide) ?_
        have hP9 : va_P (dC, dI) vwCl [(h0, .inr (4, [.int xth_7, .int xnv, .int xna, .ref agbi, .ref agab, .int xtl, .ref aghv, .ref agic, .ref agbe, .int xmk, .ref agmt, .ref agmv, .ref agma, .ref agnd, .ref agre, .ref agse, .ref aglv, .ref agal, .ref agds, .ref agno, .ref agna])), (agbi, .inl (cI, 60, .inl gbi))] _ := (hP.sub [1, 0] rfl)
        have hD9 : va_D A [(h0, .inr (4, [.int xth_7, .int xnv, .int xna, .ref agbi, .ref agab, .int xtl, .ref aghv, .ref agic, .ref agbe, .int xmk, .ref agmt, .ref agmv, .ref agma, .ref agnd, .ref agre, .ref agse, .ref aglv, .ref agal, .ref agds, .ref agno, .ref agna])), (agbi, .inl (cI, 60, .inl gbi))] := (hD.sub [1, 0] (by decide) rfl)
        exact W.iret (v := 0) hx hb hr (fun t ht9 hW => ⟨⟨0, (xth_7, xnv, gbi), rfl, ht, by rw [ht9]; exact hP9, va_K.moved hW.alike hK, hD9⟩, hS.F ht9⟩) hS.2.2 dX4_variable_24
    · replace ht := ht.2 c5
      refine lv_iload_n hx hb dX4_variable_5 rfl (lv_at hl 1 rfl) ?_
      refine lv_bipush (v := 10) hx hb dX4_variable_6 (by decide) ?_
      refine lv_icmp_ge (tgt := 15) hx hb dX4_variable_8 (by decide) (fun c9 => ?_) (fun c9 => ?_)
      · replace ht := ht.1 c9
        refine lv_iconst (v := 0) hx hb dX4_variable_15 (by decide) ?_
        refine lv_iconst (v := 1) hx hb dX4_variable_16 (by decide) ?_
        have hPc := hP.sub (ws' := [(h0, .inr (4, [.int xth, .int xnv, .int xna, .ref agbi, .ref agab, .int xtl, .ref aghv, .ref agic, .ref agbe, .int xmk, .ref agmt, .ref agmv, .ref agma, .ref agnd, .ref agre, .ref agse, .ref aglv, .ref agal, .ref agds, .ref agno, .ref agna]))]) [0] rfl
        have hDc := hD.sub (ws' := [(h0, .inr (4, [.int xth, .int xnv, .int xna, .ref agbi, .ref agab, .int xtl, .ref aghv, .ref agic, .ref agbe, .int xmk, .ref agmt, .ref agmv, .ref agma, .ref agnd, .ref agre, .ref agse, .ref aglv, .ref agal, .ref agds, .ref agno, .ref agna]))]) [0] (by decide) rfl
        have hFc := va_free (wc := [(h0, .inr (4, [.int xth, .int xnv, .int xna, .ref agbi, .ref agab, .int xtl, .ref aghv, .ref agic, .ref agbe, .int xmk, .ref agmt, .ref agmv, .ref agma, .ref agnd, .ref agre, .ref agse, .ref aglv, .ref agal, .ref agds, .ref agno, .ref agna]))]) hD hS hA [0] rfl
        refine va_calli (va_runV (As := [.int 0, .int 1]) (rest := []) ⟨hx, hb, hml, hown, hts⟩ (c_X4_goes l dC dI cI cJ h0 agbi agab aghv agic agbe agmt agmv agma agnd agre agse aglv agal agds agno agna xth xnv xna xtl xmk s.heap.size 0 1 _ ht) (cwV 2 hts gX4_variable_X4_goes rfl rfl rfl (by decide +kernel) ⟨Nat.le_of_ble_eq_true rfl, Nat.le_of_ble_eq_true rfl⟩) ⟨fun a U g mk q => by obtain ⟨q0, q1, qP, qK, qD, qN⟩ := q; exact ⟨q0, q1, qP, va_K.moved (u := U) (U := U.calling g mk a) (Vm.Alike.refl U.vm) qK, qD, nw_same rfl qN⟩, va_recv hK hP (ci := 4) (q0 := 0) rfl rfl, fun U hU hW => ⟨rfl, by rw [hU], by rw [hU]; exact hPc, va_K.moved hW.alike hK, hDc.weaken (fun _ _ _ _ => trivial), nw_warm hW hN⟩⟩ rfl rfl hl.1 rfl (lv_room (Nat.le_of_ble_eq_true rfl)) dX4_variable_17 ⟨Nat.le_of_ble_eq_true rfl, Nat.le_of_ble_eq_true rfl⟩) hS (fun q _ h => hFc q h) hFc (fun r10 u t H1 locs ht9 hvm hw hB hz1 hk1 hS => ?_)
        obtain ⟨xth_11, rfl⟩ : ∃ z, z = u := ⟨_, rfl⟩
        obtain ⟨hP1, hK1, hD1⟩ := hB
        rw [ht9] at hP1
        try dsimp only at hw
        replace ht := hw
        obtain ⟨hP, hD⟩ := va_join (wr := [(agbi, .inl (cI, 60, .inl gbi))]) (w1 := [(h0, .inr (4, [.int xth_11, .int xnv, .int xna, .ref agbi, .ref agab, .int xtl, .ref aghv, .ref agic, .ref agbe, .int xmk, .ref agmt, .ref agmv, .ref agma, .ref agnd, .ref agre, .ref agse, .ref aglv, .ref agal, .ref agds, .ref agno, .ref agna]))]) hP hD [0] [1] rfl rfl (by decide) (by decide) hk1 hFc hP1 hD1
        generalize H1 = H at hP hS ⊢
        replace hP : va_P (dC, dI) vwCl [(agbi, .inl (cI, 60, .inl gbi)), (h0, .inr (4, [.int xth_11, .int xnv, .int xna, .ref agbi, .ref agab, .int xtl, .ref aghv, .ref agic, .ref agbe, .int xmk, .ref agmt, .ref agmv, .ref agma, .ref agnd, .ref agre, .ref agse, .ref aglv, .ref agal, .ref agds, .ref agno, .ref agna]))] H := hP
        replace hD : va_D A [(agbi, .inl (cI, 60, .inl gbi)), (h0, .inr (4, [.int xth_11, .int xnv, .int xna, .ref agbi, .ref agab, .int xtl, .ref aghv, .ref agic, .ref agbe, .int xmk, .ref agmt, .ref agmv, .ref agma, .ref agnd, .ref agre, .ref agse, .ref aglv, .ref agal, .ref agds, .ref agno, .ref agna]))] := hD
        refine lv_if_ne (tgt := 25) hx hb dX4_variable_20 (by decide) (fun c12 => ?_) (fun c12 => ?_)
        · replace ht := ht.1 c12
          exact ht _ _ _ (hP.sub [1, 0] rfl) (hD.sub [1, 0] (by decide) rfl) hS (lv_sub hl [0, 1] rfl)
        · replace ht := ht.2 c12
          refine lv_iconst (v := 0) hx hb dX4_variable_23 (by decide) ?_
          have hP9 : va_P (dC, dI) vwCl [(h0, .inr (4, [.int xth_11, .int xnv, .int xna, .ref agbi, .ref agab, .int xtl, .ref aghv, .ref agic, .ref agbe, .int xmk, .ref agmt, .ref agmv, .ref agma, .ref agnd, .ref agre, .ref agse, .ref aglv, .ref agal, .ref agds, .ref agno, .ref agna])), (agbi, .inl (cI, 60, .inl gbi))] _ := (hP.sub [1, 0] rfl)
          have hD9 : va_D A [(h0, .inr (4, [.int xth_11, .int xnv, .int xna, .ref agbi, .ref agab, .int xtl, .ref aghv, .ref agic, .ref agbe, .int xmk, .ref agmt, .ref agmv, .ref agma, .ref agnd, .ref agre, .ref agse, .ref aglv, .ref agal, .ref agds, .ref agno, .ref agna])), (agbi, .inl (cI, 60, .inl gbi))] := (hD.sub [1, 0] (by decide) rfl)
          exact W.iret (v := 0) hx hb hr (fun t ht9 hW => ⟨⟨0, (xth_11, xnv, gbi), rfl, ht, by rw [ht9]; exact hP9, va_K.moved hW.alike hK, hD9⟩, hS.F ht9⟩) hS.2.2 dX4_variable_24
      · replace ht := ht.2 c9
        refine lv_iconst (v := 1) hx hb dX4_variable_11 (by decide) ?_
        refine lv_goto (tgt := 16) hx hb dX4_variable_12 (by decide) ?_
        refine lv_iconst (v := 1) hx hb dX4_variable_16 (by decide) ?_
        have hPc := hP.sub (ws' := [(h0, .inr (4, [.int xth, .int xnv, .int xna, .ref agbi, .ref agab, .int xtl, .ref aghv, .ref agic, .ref agbe, .int xmk, .ref agmt, .ref agmv, .ref agma, .ref agnd, .ref agre, .ref agse, .ref aglv, .ref agal, .ref agds, .ref agno, .ref agna]))]) [0] rfl
        have hDc := hD.sub (ws' := [(h0, .inr (4, [.int xth, .int xnv, .int xna, .ref agbi, .ref agab, .int xtl, .ref aghv, .ref agic, .ref agbe, .int xmk, .ref agmt, .ref agmv, .ref agma, .ref agnd, .ref agre, .ref agse, .ref aglv, .ref agal, .ref agds, .ref agno, .ref agna]))]) [0] (by decide) rfl
        have hFc := va_free (wc := [(h0, .inr (4, [.int xth, .int xnv, .int xna, .ref agbi, .ref agab, .int xtl, .ref aghv, .ref agic, .ref agbe, .int xmk, .ref agmt, .ref agmv, .ref agma, .ref agnd, .ref agre, .ref agse, .ref aglv, .ref agal, .ref agds, .ref agno, .ref agna]))]) hD hS hA [0] rfl
        refine va_calli (va_runV (As := [.int 1, .int 1]) (rest := []) ⟨hx, hb, hml, hown, hts⟩ (c_X4_goes l dC dI cI cJ h0 agbi agab aghv agic agbe agmt agmv agma agnd agre agse aglv agal agds agno agna xth xnv xna xtl xmk s.heap.size 1 1 _ ht) (cwV 2 hts gX4_variable_X4_goes rfl rfl rfl (by decide +kernel) ⟨Nat.le_of_ble_eq_true rfl, Nat.le_of_ble_eq_true rfl⟩) ⟨fun a U g mk q => by obtain ⟨q0, q1, qP, qK, qD, qN⟩ := q; exact ⟨q0, q1, qP, va_K.moved (u := U) (U := U.calling g mk a) (Vm.Alike.refl U.vm) qK, qD, nw_same rfl qN⟩, va_recv hK hP (ci := 4) (q0 := 0) rfl rfl, fun U hU hW => ⟨rfl, by rw [hU], by rw [hU]; exact hPc, va_K.moved hW.alike hK, hDc.weaken (fun _ _ _ _ => trivial), nw_warm hW hN⟩⟩ rfl rfl hl.1 rfl (lv_room (Nat.le_of_ble_eq_true rfl)) dX4_variable_17 ⟨Nat.le_of_ble_eq_true rfl, Nat.le_of_ble_eq_true rfl⟩) hS (fun q _ h => hFc q h) hFc (fun r13 u t H1 locs ht9 hvm hw hB hz1 hk1 hS => ?_)
        obtain ⟨xth_14, rfl⟩ : ∃ z, z = u := ⟨_, rfl⟩
        obtain ⟨hP1, hK1, hD1⟩ := hB
        rw [ht9] at hP1
        try dsimp only at hw
        replace ht := hw
        obtain ⟨hP, hD⟩ := va_join (wr := [(agbi, .inl (cI, 60, .inl gbi))]) (w1 := [(h0, .inr (4, [.int xth_14, .int xnv, .int xna, .ref agbi, .ref agab, .int xtl, .ref aghv, .ref agic, .ref agbe, .int xmk, .ref agmt, .ref agmv, .ref agma, .ref agnd, .ref agre, .ref agse, .ref aglv, .ref agal, .ref agds, .ref agno, .ref agna]))]) hP hD [0] [1] rfl rfl (by decide) (by decide) hk1 hFc hP1 hD1
        generalize H1 = H at hP hS ⊢
        replace hP : va_P (dC, dI) vwCl [(agbi, .inl (cI, 60, .inl gbi)), (h0, .inr (4, [.int xth_14, .int xnv, .int xna, .ref agbi, .ref agab, .int xtl, .ref aghv, .ref agic, .ref agbe, .int xmk, .ref agmt, .ref agmv, .ref agma, .ref agnd, .ref agre, .ref agse, .ref aglv, .ref agal, .ref agds, .ref agno, .ref agna]))] H := hP
        replace hD : va_D A [(agbi, .inl (cI, 60, .inl gbi)), (h0, .inr (4, [.int xth_14, .int xnv, .int xna, .ref agbi, .ref agab, .int xtl, .ref aghv, .ref agic, .ref agbe, .int xmk, .ref agmt, .ref agmv, .ref agma, .ref agnd, .ref agre, .ref agse, .ref aglv, .ref agal, .ref agds, .ref agno, .ref agna]))] := hD
        refine lv_if_ne (tgt := 25) hx hb dX4_variable_20 (by decide) (fun c15 => ?_) (fun c15 => ?_)
        · replace ht := ht.1 c15
          exact ht _ _ _ (hP.sub [1, 0] rfl) (hD.sub [1, 0] (by decide) rfl) hS (lv_sub hl [0, 1] rfl)
        · replace ht := ht.2 c15
          refine lv_iconst (v := 0) hx hb dX4_variable_23 (by decide) ?_
          have hP9 : va_P (dC, dI) vwCl [(h0, .inr (4, [.int xth_14, .int xnv, .int xna, .ref agbi, .ref agab, .int xtl, .ref aghv, .ref agic, .ref agbe, .int xmk, .ref agmt, .ref agmv, .ref agma, .ref agnd, .ref agre, .ref agse, .ref aglv, .ref agal, .ref agds, .ref agno, .ref agna])), (agbi, .inl (cI, 60, .inl gbi))] _ := (hP.sub [1, 0] rfl)
          have hD9 : va_D A [(h0, .inr (4, [.int xth_14, .int xnv, .int xna, .ref agbi, .ref agab, .int xtl, .ref aghv, .ref agic, .ref agbe, .int xmk, .ref agmt, .ref agmv, .ref agma, .ref agnd, .ref agre, .ref agse, .ref aglv, .ref agal, .ref agds, .ref agno, .ref agna])), (agbi, .inl (cI, 60, .inl gbi))] := (hD.sub [1, 0] (by decide) rfl)
          exact W.iret (v := 0) hx hb hr (fun t ht9 hW => ⟨⟨0, (xth_14, xnv, gbi), rfl, ht, by rw [ht9]; exact hP9, va_K.moved hW.alike hK, hD9⟩, hS.F ht9⟩) hS.2.2 dX4_variable_24
set_option maxHeartbeats 4000000 in
set_option maxRecDepth 100000 in
theorem c_X4_newAtom (l : Launch) (dC : Nat → ClassId) (dI : Nat → Nat → Nat) (cI cJ : ClassId) (h0 : Nat) (agbi : Nat) (agab : Nat) (aghv : Nat) (agic : Nat) (agbe : Nat) (agmt : Nat) (agmv : Nat) (agma : Nat) (agnd : Nat) (agre : Nat) (agse : Nat) (aglv : Nat) (agal : Nat) (agds : Nat) (agno : Nat) (agna : Nat) (xth : Int32) (xnv : Int32) (xna : Int32) (xtl : Int32) (xmk : Int32) (gab : Nat → Int32) (sz : Nat) (p1 : Int32) (post : Int32 → Int32 → (Nat → Int32) → Prop) (hsp : S_X4_newAtom p1 xna gab post) : Met l yX4_newAtom wsX4_newAtom ({ frames := 0, cells := 0, slots := 0, locals := 0 }) (va_Pc [.ref h0, .int p1] (fun U => U.heap.size = sz ∧ va_P (dC, dI) vwCl [(h0, .inr (4, [.int xth, .int xnv, .int xna, .ref agbi, .ref agab, .int xtl, .ref aghv, .ref agic, .ref agbe, .int xmk, .ref agmt, .ref agmv, .ref agma, .ref agnd, .ref agre, .ref agse, .ref aglv, .ref agal, .ref agds, .ref agno, .ref agna])), (agab, .inl (cI, 32, .inl gab))] U.heap ∧ va_K (dC, dI) vwCl [(cI, .int), (cJ, .long)] U ∧ va_D (fun _ => True) [(h0, .inr (4, [.int xth, .int xnv, .int xna, .ref agbi, .ref agab, .int xtl, .ref aghv, .ref agic, .ref agbe, .int xmk, .ref agmt, .ref agmv, .ref agma, .ref agnd, .ref agre, .ref agse, .ref aglv, .ref agal, .ref agds, .ref agno, .ref agna])), (agab, .inl (cI, 32, .inl gab))] ∧ nw U)) (va_Qi (fun (r : Int32) (u : Int32 × (Nat → Int32)) => post r (u.1) (u.2)) (fun (u : Int32 × (Nat → Int32)) (t : State) => va_P (dC, dI) vwCl [(h0, .inr (4, [.int xth, .int xnv, .int (u.1), .ref agbi, .ref agab, .int xtl, .ref aghv, .ref agic, .ref agbe, .int xmk, .ref agmt, .ref agmv, .ref agma, .ref agnd, .ref agre, .ref agse, .ref aglv, .ref agal, .ref agds, .ref agno, .ref agna])), (agab, .inl (cI, 32, .inl (u.2)))] t.heap ∧ va_K (dC, dI) vwCl [(cI, .int), (cJ, .long)] t ∧ va_D (va_A [(h0, .inr (4, [.int xth, .int xnv, .int xna, .ref agbi, .ref agab, .int xtl, .ref aghv, .ref agic, .ref agbe, .int xmk, .ref agmt, .ref agmv, .ref agma, .ref agnd, .ref agre, .ref agse, .ref aglv, .ref agal, .ref agds, .ref agno, .ref agna])), (agab, .inl (cI, 32, .inl gab))] sz) [(h0, .inr (4, [.int xth, .int xnv, .int (u.1), .ref agbi, .ref agab, .int xtl, .ref aghv, .ref agic, .ref agbe, .int xmk, .ref agmt, .ref agmv, .ref agma, .ref agnd, .ref agre, .ref agse, .ref aglv, .ref agal, .ref agds, .ref agno, .ref agna])), (agab, .inl (cI, 32, .inl (u.2)))]) (va_A [(h0, .inr (4, [.int xth, .int xnv, .int xna, .ref agbi, .ref agab, .int xtl, .ref aghv, .ref agic, .ref agbe, .int xmk, .ref agmt, .ref agmv, .ref agma, .ref agnd, .ref agre, .ref agse, .ref aglv, .ref agal, .ref agds, .ref agno, .ref agna])), (agab, .inl (cI, 32, .inl gab))] sz)) 0 0 (va_A [(h0, .inr (4, [.int xth, .int xnv, .int xna, .ref agbi, .ref agab, .int xtl, .ref aghv, .ref agic, .ref agbe, .int xmk, .ref agmt, .ref agmv, .ref agma, .ref agnd, .ref agre, .ref agse, .ref aglv, .ref agal, .ref agds, .ref agno, .ref agna])), (agab, .inl (cI, 32, .inl gab))] sz) := by
  refine Met.ofW (cc := cX4_newAtom) (maxL := 2) (ret := (some .int)) (by decide) rfl ?_
  intro p e s m args below meth c s₁ B hml hv
  obtain ⟨rfl, hsz, hP, hK, hD0, hN⟩ := hv
  have hx := B.exec
  have hb := B.bytes
  have hr := B.returns
  have hts := atoms_spec (ws := wsX4_newAtom) B.pre
  have hown : s.vm.findClass RX4 = some m.cls := findClass_of_methodNamed B.named
  have hlocks := B.notSynchronized
  subst hsz
  have hD := hD0.self (sz := s.heap.size)
  generalize hAe : va_A [(h0, .inr (4, [.int xth, .int xnv, .int xna, .ref agbi, .ref agab, .int xtl, .ref aghv, .ref agic, .ref agbe, .int xmk, .ref agmt, .ref agmv, .ref agma, .ref agnd, .ref agre, .ref agse, .ref aglv, .ref agal, .ref agds, .ref agno, .ref agna])), (agab, .inl (cI, 32, .inl gab))] s.heap.size = A at hD ⊢
  have hA : ∀ q : Nat, s.heap.size ≤ q → A q := fun q h => by rw [← hAe]; exact Or.inr h
  have hS : va_S A s.heap s.heap [] := va_S.rf
  have hl := lv_entry ([.ref h0, .int p1]) (n := 2) (Nat.le_of_ble_eq_true rfl)
  rw [lg_entry_eq]
  generalize (lg_sl ([.ref h0, .int p1]) ++ List.replicate (2 - (lg_sl ([.ref h0, .int p1])).length) Slot.unset).toArray = ls at hl ⊢
  replace hl : lv_has ls 2 [(0, .ref h0), (1, .int p1)] := hl
  have hw0 := (show ∀ w ∈ wsX40, w ∈ wsX4_newAtom from by decide +kernel)
  have hw1 := hts (.fieldLink RX4 13 "EffectNetsModel" "atomBirth" "[I") (by decide +kernel)
  have hw2 := hts (.fieldLink RX4 66 "EffectNetsModel" "atoms" "I") (by decide +kernel)
  refine hsp _ ?_
  · intro ht
    refine lv_aload_n hx hb dX4_newAtom_0 rfl (lv_at hl 0 rfl) ?_
    refine va_get (D := (dC, dI)) (ci := 4) (v := .ref agab) (C := RX4) (T := TX4) (N := 21) hx hb hts hw0 hown hK hP 0 rfl rfl 4 (by decide) hw1 (fun _ h9 => h9) rfl dX4_newAtom_1 ?_
    refine lv_aload_n hx hb dX4_newAtom_4 rfl (lv_at hl 0 rfl) ?_
    refine va_get (D := (dC, dI)) (ci := 4) (v := .int xna) (C := RX4) (T := TX4) (N := 21) hx hb hts hw0 hown hK hP 0 rfl rfl 2 (by decide) hw2 (fun _ h9 => h9) rfl dX4_newAtom_5 ?_
    refine lv_iload_n hx hb dX4_newAtom_8 rfl (lv_at hl 1 rfl) ?_
    obtain ⟨i1, ht⟩ := ht
    refine va_iast hx hb hK hP hD hS 1 0 rfl rfl i1 dX4_newAtom_9 (fun H locs hP hD hS => ?_)
    replace hP : va_P (dC, dI) vwCl [(h0, .inr (4, [.int xth, .int xnv, .int xna, .ref agbi, .ref agab, .int xtl, .ref aghv, .ref agic, .ref agbe, .int xmk, .ref agmt, .ref agmv, .ref agma, .ref agnd, .ref agre, .ref agse, .ref aglv, .ref agal, .ref agds, .ref agno, .ref agna])), (agab, .inl (cI, 32, .inl (upd gab xna.toNatClampNeg p1)))] H := hP
    replace hD : va_D A [(h0, .inr (4, [.int xth, .int xnv, .int xna, .ref agbi, .ref agab, .int xtl, .ref aghv, .ref agic, .ref agbe, .int xmk, .ref agmt, .ref agmv, .ref agma, .ref agnd, .ref agre, .ref agse, .ref aglv, .ref agal, .ref agds, .ref agno, .ref agna])), (agab, .inl (cI, 32, .inl (upd gab xna.toNatClampNeg p1)))] := hD
    refine lv_aload_n hx hb dX4_newAtom_10 rfl (lv_at hl 0 rfl) ?_
    refine lv_dup hx hb dX4_newAtom_11 rfl ?_
    refine va_get (D := (dC, dI)) (ci := 4) (v := .int xna) (C := RX4) (T := TX4) (N := 21) hx hb hts hw0 hown hK hP 0 rfl rfl 2 (by decide) hw2 (fun _ h9 => h9) rfl dX4_newAtom_12 ?_
    refine lv_iconst (v := 1) hx hb dX4_newAtom_15 (by decide) ?_
    refine lv_iadd hx hb dX4_newAtom_16 ?_
    refine lv_topi (fun y2 ey2 => ?_)
    replace ht := ht y2 ey2
    refine va_put (D := (dC, dI)) (ci := 4) (v := .int y2) (ty := .int) (C := RX4) (T := TX4) (N := 21) hx hb hts hw0 tyX4 tyX4_ok nmX4 hown hK hP hD hS 0 rfl rfl 2 (by decide) hw2 (fun _ h9 => h9) rfl (by decide +kernel) rfl rfl (Nat.le_of_ble_eq_true rfl) dX4_newAtom_17 (fun H locs hP hD hS => ?_)
    replace hP : va_P (dC, dI) vwCl [(h0, .inr (4, [.int xth, .int xnv, .int y2, .ref agbi, .ref agab, .int xtl, .ref aghv, .ref agic, .ref agbe, .int xmk, .ref agmt, .ref agmv, .ref agma, .ref agnd, .ref agre, .ref agse, .ref aglv, .ref agal, .ref agds, .ref agno, .ref agna])), (agab, .inl (cI, 32, .inl (upd gab xna.toNatClampNeg p1)))] H := hP
    replace hD : va_D A [(h0, .inr (4, [.int xth, .int xnv, .int y2, .ref agbi, .ref agab, .int xtl, .ref aghv, .ref agic, .ref agbe, .int xmk, .ref agmt, .ref agmv, .ref agma, .ref agnd, .ref agre, .ref agse, .ref aglv, .ref agal, .ref agds, .ref agno, .ref agna])), (agab, .inl (cI, 32, .inl (upd gab xna.toNatClampNeg p1)))] := hD
    refine lv_aload_n hx hb dX4_newAtom_20 rfl (lv_at hl 0 rfl) ?_
    refine va_get (D := (dC, dI)) (ci := 4) (v := .int y2) (C := RX4) (T := TX4) (N := 21) hx hb hts hw0 hown hK hP 0 rfl rfl 2 (by decide) hw2 (fun _ h9 => h9) rfl dX4_newAtom_21 ?_
    refine lv_iconst (v := 1) hx hb dX4_newAtom_24 (by decide) ?_
    refine lv_isub hx hb dX4_newAtom_25 ?_
    have hP9 : va_P (dC, dI) vwCl [(h0, .inr (4, [.int xth, .int xnv, .int y2, .ref agbi, .ref agab, .int xtl, .ref aghv, .ref agic, .ref agbe, .int xmk, .ref agmt, .ref agmv, .ref agma, .ref agnd, .ref agre, .ref agse, .ref aglv, .ref agal, .ref agds, .ref agno, .ref agna])), (agab, .inl (cI, 32, .inl (upd gab xna.toNatClampNeg p1)))] _ := hP
    have hD9 : va_D A [(h0, .inr (4, [.int xth, .int xnv, .int y2, .ref agbi, .ref agab, .int xtl, .ref aghv, .ref agic, .ref agbe, .int xmk, .ref agmt, .ref agmv, .ref agma, .ref agnd, .ref agre, .ref agse, .ref aglv, .ref agal, .ref agds, .ref agno, .ref agna])), (agab, .inl (cI, 32, .inl (upd gab xna.toNatClampNeg p1)))] := hD
    exact W.iret (v := (y2 - 1)) hx hb hr (fun t ht9 hW => ⟨⟨(y2 - 1), (y2, (upd gab xna.toNatClampNeg p1)), rfl, ht, by rw [ht9]; exact hP9, va_K.moved hW.alike hK, hD9⟩, hS.F ht9⟩) hS.2.2 dX4_newAtom_26
